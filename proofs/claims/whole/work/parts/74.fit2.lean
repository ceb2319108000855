/-! fit, both -/
noncomputable def ftF (a lane i n w : Int) (_ : Nat → Int) (S : SS) : Int × SS :=
  if ((0 ≤ a ∧ a ≤ 3) ∧ (0 ≤ lane ∧ lane ≤ 2)) ∧ ((1 ≤ n ∧ n ≤ 8) ∧ (0 ≤ w ∧ w ≤ 1)) then (if barS S a lane i n = 0 then (if flOk (S.2.2.2 a.toNat) i.toNat n.toNat then ((if w = 0 then ((pN (gcdF (S.2.2.2 a.toNat) i.toNat n.toNat) 58 : Nat) : Int) else (bOut (gcdF (S.2.2.2 a.toNat) i.toNat n.toNat) 58).1), S) else (-2, S)) else (barS S a lane i n, S)) else (-1, S)
theorem ftF_S {a lane i n w : Int} {W : Nat → Int} {S : SS} : (ftF a lane i n w W S).2 = S := by
  unfold ftF
  split
  · split
    · split <;> rfl
    · rfl
  · rfl
theorem ftF_bad {a lane i n w : Int} {W : Nat → Int} {S : SS} (h : ¬ (((0 ≤ a ∧ a ≤ 3) ∧ (0 ≤ lane ∧ lane ≤ 2)) ∧ ((1 ≤ n ∧ n ≤ 8) ∧ (0 ≤ w ∧ w ≤ 1)))) : ftF a lane i n w W S = (-1, S) := if_neg h
theorem ftF_bar {a lane i n w : Int} {W : Nat → Int} {S : SS} (h : ((0 ≤ a ∧ a ≤ 3) ∧ (0 ≤ lane ∧ lane ≤ 2)) ∧ ((1 ≤ n ∧ n ≤ 8) ∧ (0 ≤ w ∧ w ≤ 1))) (hb : ¬ barS S a lane i n = 0) : ftF a lane i n w W S = (barS S a lane i n, S) := by
  unfold ftF
  rw [if_pos h, if_neg hb]
theorem ftF_no {a lane i n w : Int} {W : Nat → Int} {S : SS} (h : ((0 ≤ a ∧ a ≤ 3) ∧ (0 ≤ lane ∧ lane ≤ 2)) ∧ ((1 ≤ n ∧ n ≤ 8) ∧ (0 ≤ w ∧ w ≤ 1))) (hb : barS S a lane i n = 0) (q : ¬ flOk (S.2.2.2 a.toNat) i.toNat n.toNat) : ftF a lane i n w W S = (-2, S) := by
  unfold ftF
  rw [if_pos h, if_pos hb, if_neg q]
theorem ftF_yes {a lane i n w : Int} {W : Nat → Int} {S : SS} (h : ((0 ≤ a ∧ a ≤ 3) ∧ (0 ≤ lane ∧ lane ≤ 2)) ∧ ((1 ≤ n ∧ n ≤ 8) ∧ (0 ≤ w ∧ w ≤ 1))) (hb : barS S a lane i n = 0) (q : flOk (S.2.2.2 a.toNat) i.toNat n.toNat) : ftF a lane i n w W S = ((if w = 0 then ((pN (gcdF (S.2.2.2 a.toNat) i.toNat n.toNat) 58 : Nat) : Int) else (bOut (gcdF (S.2.2.2 a.toNat) i.toNat n.toNat) 58).1), S) := by
  unfold ftF
  rw [if_pos h, if_pos hb, if_pos q]
theorem gcdF_cong {f f' : Nat → Int} {i : Nat} : ∀ n, (∀ j, j < n → f (i + j) = f' (i + j)) → gcdF f i n = gcdF f' i n
  | 0, _ => rfl
  | n + 1, h => by rw [gcdF_s, gcdF_s, h n (by omega), gcdF_cong n (fun j hj => h j (by omega))]
theorem tmz (g v : Nat) : Int.tmod (g : Int) (v : Int) = ((g % v : Nat) : Int) := by
  rw [Int.tmod_eq_emod_of_nonneg (by omega)]
  rfl
/-- the reference's inner state -/
def bInR (g k j : Nat) : Int × Nat := if dv g (k + 2) = 1 then bIn g (k + 2) (bOut g k) j else bOut g k
def pInR (g k j : Nat) : Nat := if dv g (k + 2) = 1 then pN g k + (cN g (k + 1 + j) - cN g (k + 1)) else pN g k
theorem bInR_0 (g k : Nat) : bInR g k 0 = bOut g k := by
  unfold bInR
  split <;> rfl
theorem pInR_0 (g k : Nat) : pInR g k 0 = pN g k := by
  unfold pInR
  split
  · rw [Nat.add_zero, Nat.sub_self, Nat.add_zero]
  · rfl
theorem bInR_e (g k : Nat) : bInR g k (58 - k) = bOut g (k + 1) := by
  unfold bInR
  rw [bOut_s]
theorem pInR_e {g k : Nat} (hk : k ≤ 58) : pInR g k (58 - k) = pN g (k + 1) := by
  unfold pInR
  rw [pN_s, show k + 1 + (58 - k) = 59 by omega]
  rcases dv_01 g (k + 2) with h | h
  · rw [if_neg (by omega), h, Nat.zero_mul, Nat.add_zero]
  · rw [if_pos h, h, Nat.one_mul]
theorem bInR_b {g k j : Nat} (hk : k ≤ 58) (hj : j ≤ 58 - k) : (bInR g k j).2 ≤ 3600 := by
  unfold bInR
  split
  · exact bIn_b (by omega) (bOut_b g k hk) j (by omega)
  · exact bOut_b g k hk
section
variable {E : FX} {l : Launch} {M : MM} {S : SS} {a b lane n v w : Int}
theorem k_fit {W : Nat → Int} {i : Int} (ha : R32 a) (hl : R32 lane) (hi : R32 i) (hn : R32 n) (hw : R32 w) (hC : CS M S) (hS : IS S) : Con E l 20 qX11_fit [vr 0, vi a, vi lane, vi i, vi n, vi w] M (fun r M' => r = some (vi (ftF a lane i n w W S).1) ∧ CS M' (ftF a lane i n w W S).2 ∧ FsC M M') := by
  have hr := refS_R S a lane i n
  have bad : ∀ x, ftF a lane i n w W S = (x, S) → some (vi x) = some (vi (ftF a lane i n w W S).1) ∧ CS M (ftF a lane i n w W S).2 ∧ FsC M M := fun x e => by
    rw [e]
    exact ⟨rfl, hC, FsC.rf⟩
  refine (RX11_fit (D := 3) ?_).up (by decide)
  unfold VX11_fit_0
  try unfold VX11_fit_99
  refine (c_within hn (by decide) (by decide)).fn ⟨_, rfl, b01_R, fun c1 => bad _ (ftF_bad (fun q => b01_0.mp c1 q.2.1)), fun c1 => (c_within hw (by decide) (by decide)).fn ⟨_, rfl, b01_R, fun c2 => ?_, fun c2 => bad _ (ftF_bad (fun q => b01_0.mp c2 q.2.2))⟩⟩
  rw [b01_n0] at c1 c2
  refine (c_refusal hC hS ha hl hi hn).fn ⟨_, rfl, hr.1, fun c3 => ?_, fun c3 => ?_⟩
  · have h0 : refS S a lane i n = 0 := by omega
    have ok : (0 ≤ a ∧ a ≤ 3) ∧ (0 ≤ lane ∧ lane ≤ 2) := by
      apply Decidable.byContradiction
      intro q
      unfold refS at h0
      rw [if_neg q] at h0
      cases h0
    have hb : barS S a lane i n = 0 := by
      unfold refS at h0
      rw [if_pos ok] at h0
      exact h0
    obtain ⟨b1, b2, b3⟩ := barv_0 hb
    obtain ⟨s, rfl⟩ : ∃ s : Nat, a = s := ⟨a.toNat, by omega⟩
    obtain ⟨p, rfl⟩ : ∃ p : Nat, i = p := ⟨i.toNat, by omega⟩
    obtain ⟨m, rfl⟩ : ∃ m : Nat, n = m := ⟨n.toNat, by omega⟩
    have hs4 : s < 4 := by omega
    have es : ((s : Nat) : Int).toNat = s := Int.toNat_natCast s
    have ep : ((p : Nat) : Int).toNat = p := Int.toNat_natCast p
    have em : ((m : Nat) : Int).toNat = m := Int.toNat_natCast m
    rw [es] at b3
    obtain ⟨i1, i2, i3, i4⟩ := hS s hs4
    obtain ⟨e1, e2, e3, e4⟩ := hC s hs4
    obtain ⟨k1, k2, k3, k4, k5, k6⟩ := sh_kd s hs4
    have hph : p + m ≤ 16 := by omega
    have hno : ¬ flOk (S.2.2.2 s) p m → ftF s lane p m w W S = (-2, S) := fun q => ftF_no ⟨ok, c1, c2⟩ hb (by rw [es, ep, em]; exact q)
    have hyes : flOk (S.2.2.2 s) p m → ftF s lane p m w W S = ((if w = 0 then ((pN (gcdF (S.2.2.2 s) p m) 58 : Nat) : Int) else (bOut (gcdF (S.2.2.2 s) p m) 58).1), S) := fun q => by
      rw [ftF_yes ⟨ok, c1, c2⟩ hb (by rw [es, ep, em]; exact q), es, ep, em]
    refine (c_sheetOf ha).fn ⟨_, rfl, fun c4 => ?_, fun k19 c4 => ?_⟩
    · rw [if_pos ok.1] at c4
      cases c4
    · rw [if_pos ok.1] at c4
      cases c4
      rw [es]
      refine ⟨k1, (c_allWithin (i := p) (n := m) hs4 hph (by decide) (by decide) (fun j hj => by rw [e4 j hj]; exact i4 j hj)).fn ⟨_, rfl, b01_R, fun c5 => ?_, fun c5 => ?_⟩⟩
      · rw [b01_n0] at c5
        have hsh : flOk (S.2.2.2 s) p m := fun j hj => by
          have := c5 j hj
          rw [e4 (p + j) (by omega)] at this
          exact this
        have hg := (gcdF_b m hsh).1
        have eg : gcdF (fun j => M (33 + s) j) p m = gcdF (S.2.2.2 s) p m := gcdF_cong m (fun j hj => e4 (p + j) (by omega))
        rw [hyes hsh]
        refine ⟨k1, (c_commonOf (i := p) (n := m) hs4 hph c5).fn ⟨_, rfl, hw, fun c6 => ?_, fun c6 => ?_⟩⟩
        · rw [eg, if_neg c6]
          exact (c_bestFit (by omega)).fn ⟨_, rfl, rfl, hC, FsC.rf⟩
        · rw [eg, if_pos c6]
          exact (c_howManyFit (by omega)).fn ⟨_, rfl, rfl, hC, FsC.rf⟩
      · rw [b01_0] at c5
        refine bad _ (hno (fun q => c5 (fun j hj => ?_)))
        rw [e4 (p + j) (by omega)]
        exact q j hj
  · have e : ftF a lane i n w W S = (refS S a lane i n, S) := by
      unfold refS at *
      by_cases ok : (0 ≤ a ∧ a ≤ 3) ∧ (0 ≤ lane ∧ lane ≤ 2)
      · rw [if_pos ok] at c3 ⊢
        exact ftF_bar ⟨ok, c1, c2⟩ (by omega)
      · rw [if_neg ok]
        exact ftF_bad (fun q => ok q.1)
    exact bad _ e
theorem m_fit {W : Nat → Int} {i : Int} (ha : R32 a) (hl : R32 lane) (hi : R32 i) (hn : R32 n) (hw : R32 w) (hC : MS M S) (hS : IS S) : Con E l 20 qX12_fit [vr 44, vi a, vi lane, vi i, vi n, vi w] M (fun r M' => r = some (vi (ftF a lane i n w W S).1) ∧ MS M' (ftF a lane i n w W S).2 ∧ FsM M M') := by
  have bad : ∀ x, ftF a lane i n w W S = (x, S) → some (vi x) = some (vi (ftF a lane i n w W S).1) ∧ MS M (ftF a lane i n w W S).2 ∧ FsM M M := fun x e => by
    rw [e]
    exact ⟨rfl, hC, FsM.rf⟩
  refine (RX12_fit (D := 3)
    (fun M' x1 x3 x4 x5 x7 x9 => M' = M ∧ ∃ (s p m k : Nat), a = s ∧ i = p ∧ n = m ∧ x1 = s ∧ x3 = p ∧ x4 = m ∧ x5 = w ∧ s < 4 ∧ p + m ≤ 16 ∧ (((0 ≤ a ∧ a ≤ 3) ∧ (0 ≤ lane ∧ lane ≤ 2)) ∧ ((1 ≤ n ∧ n ≤ 8) ∧ (0 ≤ w ∧ w ≤ 1))) ∧ barS S a lane i n = 0 ∧ flOk (S.2.2.2 s) p k ∧ x7 = (gcdF (S.2.2.2 s) p k : Nat) ∧ x9 = k ∧ k ≤ m)
    (fun _ _ _ _ _ _ x9 => 100000 + (20 - x9).toNat)
    (fun M' x5 x7 x9 x10 x11 x13 => M' = M ∧ ∃ g k : Nat, x5 = w ∧ x7 = g ∧ g ≤ 999999 ∧ ftF a lane i n w W S = ((if w = 0 then ((pN g 58 : Nat) : Int) else (bOut g 58).1), S) ∧ x9 = (pN g k : Nat) ∧ x10 = (bOut g k).1 ∧ x11 = ((bOut g k).2 : Nat) ∧ x13 = ((k + 2 : Nat) : Int) ∧ k ≤ 58)
    (fun _ _ _ _ _ _ x13 => ((70 - x13) * 100).toNat)
    (fun M' x5 x7 x9 x10 x11 x13 x14 => M' = M ∧ ∃ g k j : Nat, x5 = w ∧ x7 = g ∧ g ≤ 999999 ∧ ftF a lane i n w W S = ((if w = 0 then ((pN g 58 : Nat) : Int) else (bOut g 58).1), S) ∧ x9 = (pInR g k j : Nat) ∧ x10 = (bInR g k j).1 ∧ x11 = ((bInR g k j).2 : Nat) ∧ x13 = ((k + 2 : Nat) : Int) ∧ k < 58 ∧ x14 = ((k + 2 + 1 + j : Nat) : Int) ∧ j ≤ 58 - k)
    (fun _ _ _ _ _ _ x13 x14 => ((70 - x13) * 100 - x14).toNat) ?_ ?_ ?_ ?_).up (by decide)
  · unfold VX12_fit_0
    refine (c_isSheet ha).fn ⟨_, rfl, b01_R, fun c1 => bad _ (ftF_bad (fun q => b01_0.mp c1 q.1.1)), fun c1 => ⟨hl, (c_in (r32_64 hl) (by decide) (by decide)).fn ⟨_, rfl, b01_R, fun c2 => bad _ (ftF_bad (fun q => b01_0.mp c2 q.1.2)), fun c2 => ⟨hn, (c_in (r32_64 hn) (by decide) (by decide)).fn ⟨_, rfl, b01_R, fun c3 => bad _ (ftF_bad (fun q => b01_0.mp c3 q.2.1)), fun c3 => ⟨hw, (c_in (r32_64 hw) (by decide) (by decide)).fn ⟨_, rfl, b01_R, fun c4 => ?_, fun c4 => bad _ (ftF_bad (fun q => b01_0.mp c4 q.2.2))⟩⟩⟩⟩⟩⟩⟩
    rw [b01_n0] at c1 c2 c3 c4
    obtain ⟨s, rfl⟩ : ∃ s : Nat, a = s := ⟨a.toNat, by omega⟩
    have hs4 : s < 4 := by omega
    have eb : barS S s lane i n = barv (S.1 s) (S.2.1 s) (S.2.2.1 s) lane i n := rfl
    have hr := barv_R (S.1 s) (S.2.1 s) (S.2.2.1 s) lane i n
    refine (m_bars hC hS hs4 hl hi hn).fn ⟨_, rfl, hr.1, fun c5 => ?_, fun c5 => ?_⟩
    · obtain ⟨b1, b2, b3⟩ := barv_0 c5
      obtain ⟨i1, i2, i3, i4⟩ := hS s hs4
      obtain ⟨p, rfl⟩ : ∃ p : Nat, i = p := ⟨i.toNat, by omega⟩
      obtain ⟨m, rfl⟩ : ∃ m : Nat, n = m := ⟨n.toNat, by omega⟩
      exact ⟨rfl, s, p, m, 0, rfl, rfl, rfl, rfl, rfl, rfl, rfl, hs4, by omega, ⟨⟨c1, c2⟩, c3, c4⟩, by rw [eb]; exact c5, fun j hj => absurd hj (by omega), rfl, rfl, by omega⟩
    · refine bad _ ?_
      rw [ftF_bar ⟨⟨c1, c2⟩, c3, c4⟩ (by rw [eb]; exact c5), eb]
  · rintro M' _ _ _ w _ _ ⟨rfl, s, p, m, k, hs, hp, hm, rfl, rfl, rfl, rfl, hs4, hph, ok, hb, hf, rfl, rfl, hk⟩
    obtain ⟨e1, e2, e3⟩ := hC s hs4
    obtain ⟨i1, i2, i3, i4⟩ := hS s hs4
    have es : a.toNat = s := by omega
    have ep : i.toNat = p := by omega
    have em : n.toNat = m := by omega
    have hg := (gcdF_b k hf).1
    unfold VX12_fit_70
    refine ⟨by unfold R32; omega, by unfold R32; omega, fun c1 => ⟨⟨rfl, gcdF (S.2.2.2 s) p k, 0, rfl, rfl, hg, ?_, rfl, rfl, rfl, rfl, by omega⟩, by omega⟩, fun c1 => ⟨by omega, by omega, fun y28 h28 => ?_⟩⟩
    · rw [show k = m by omega] at hf ⊢
      rw [ftF_yes ok hb (by rw [es, ep, em]; exact hf), es, ep, em]
    · rw [show (16 * (s : Int) + (p : Int) + (k : Int)).toNat = 16 * s + (p + k) by omega, e3 (p + k) (by omega)] at h28
      subst h28
      refine (c_in (i4 (p + k) (by omega)) (by decide) (by decide)).fn ⟨_, rfl, b01_R, fun c2 => ?_, fun c2 => ?_⟩
      · rw [b01_n0] at c2
        obtain ⟨x, hx⟩ : ∃ x : Nat, S.2.2.2 s (p + k) = x := ⟨(S.2.2.2 s (p + k)).toNat, by omega⟩
        rw [hx]
        refine (c_divisor (by omega) (by omega)).fn ⟨_, rfl, fun y38 h38 => ⟨⟨rfl, s, p, m, k + 1, hs, hp, hm, rfl, rfl, rfl, rfl, hs4, hph, ok, hb, fun j hj => ?_, ?_, by omega, by omega⟩, by omega⟩⟩
        · by_cases d : j = k
          · rw [d]; exact c2
          · exact hf j (by omega)
        · rw [gcdF_s, hx, Int.toNat_natCast, Nat.gcd_comm]
      · rw [b01_0] at c2
        refine bad _ (ftF_no ok hb ?_)
        rw [es, ep, em]
        exact fun q => c2 (q k (by omega))
  · rintro M' w _ _ _ _ _ ⟨rfl, g, k, rfl, rfl, hg, hA, rfl, rfl, rfl, rfl, hk⟩
    unfold VX12_fit_136
    try unfold VX12_fit_251
    refine ⟨by unfold R32; omega, fun c1 => ⟨hw, fun c2 => ?_, fun c2 => ?_⟩, fun c1 y44 h44 => ⟨⟨rfl, g, k, 0, rfl, rfl, hg, hA, by rw [pInR_0], by rw [bInR_0], by rw [bInR_0], rfl, by omega, by omega, by omega⟩, by omega⟩⟩
    · rw [hA, if_neg c2, show k = 58 by omega]
      exact ⟨rfl, hC, FsM.rf⟩
    · rw [hA, if_pos c2, show k = 58 by omega]
      exact ⟨rfl, hC, FsM.rf⟩
  · rintro M' w _ _ _ _ _ _ ⟨rfl, g, k, j, rfl, rfl, hg, hA, rfl, rfl, rfl, rfl, hk, rfl, hj⟩
    unfold VX12_fit_149
    try unfold VX12_fit_206
    try unfold VX12_fit_227
    have hd := dv_01 g (k + 2)
    have hb2 := bInR_b (g := g) (k := k) (j := j) (by omega) hj
    have hl := lcm_60 (a := k + 2) (b := k + 2 + 1 + j)
    have m1 : g % (k + 2) ≤ g := Nat.mod_le _ _
    have m2 : g % (k + 2 + 1 + j) ≤ g := Nat.mod_le _ _
    have s0 : ¬ dv g (k + 2) = 1 → bInR g k (j + 1) = bInR g k j ∧ pInR g k (j + 1) = pInR g k j := fun q => by
      unfold bInR pInR
      rw [if_neg q, if_neg q, if_neg q, if_neg q]
      exact ⟨rfl, rfl⟩
    have s1 : ¬ dv g (k + 2 + 1 + j) = 1 → bInR g k (j + 1) = bInR g k j ∧ pInR g k (j + 1) = pInR g k j := fun q => by
      have hd2 := dv_01 g (k + 2 + 1 + j)
      have hs := cN_s g (k + 1 + j)
      rw [show k + 1 + j + 2 = k + 2 + 1 + j by omega] at hs
      unfold bInR pInR
      by_cases c : dv g (k + 2) = 1
      · rw [if_pos c, if_pos c, if_pos c, if_pos c, bIn_s, if_neg (fun z => q z.1), show k + 1 + (j + 1) = k + 1 + j + 1 by omega, hs]
        exact ⟨rfl, by omega⟩
      · rw [if_neg c, if_neg c, if_neg c, if_neg c]
        exact ⟨rfl, rfl⟩
    have s2 : dv g (k + 2) = 1 → dv g (k + 2 + 1 + j) = 1 → pInR g k (j + 1) = pInR g k j + 1 := fun q1 q2 => by
      have hs := cN_s g (k + 1 + j)
      rw [show k + 1 + j + 2 = k + 2 + 1 + j by omega, q2] at hs
      have hm := cN_mono g (k := k + 1) (m := k + 1 + j) (by omega)
      unfold pInR
      rw [if_pos q1, if_pos q1, show k + 1 + (j + 1) = k + 1 + j + 1 by omega, hs]
      omega
    have s3 : dv g (k + 2) = 1 → dv g (k + 2 + 1 + j) = 1 → bInR g k (j + 1) = if (bInR g k j).2 < Nat.lcm (k + 2) (k + 2 + 1 + j) then (100 * ((k + 2 : Nat) : Int) + ((k + 2 + 1 + j : Nat) : Int), Nat.lcm (k + 2) (k + 2 + 1 + j)) else bInR g k j := fun q1 q2 => by
      unfold bInR
      rw [if_pos q1, if_pos q1, bIn_s]
      by_cases c : (bIn g (k + 2) (bOut g k) j).2 < Nat.lcm (k + 2) (k + 2 + 1 + j)
      · rw [if_pos c, if_pos ⟨q2, c⟩]
      · rw [if_neg c, if_neg (fun z => c z.2)]
    rw [tmz, tmz]
    refine ⟨by unfold R32; omega, fun c1 y58 h58 => ⟨⟨rfl, g, k + 1, rfl, rfl, hg, hA, ?_, ?_, ?_, by omega, by omega⟩, by omega⟩, fun c1 => ⟨by unfold R32; omega, by unfold R64; omega, by unfold R64; omega, by omega, by unfold R64; omega, fun c2 y62 h62 => ⟨⟨rfl, g, k, j + 1, rfl, rfl, hg, hA, ?_, ?_, ?_, rfl, hk, by omega, by omega⟩, by omega⟩, fun c2 => ⟨by unfold R32; omega, by unfold R64; omega, by unfold R64; omega, by omega, by unfold R64; omega, fun c3 y66 h66 => ⟨⟨rfl, g, k, j + 1, rfl, rfl, hg, hA, ?_, ?_, ?_, rfl, hk, by omega, by omega⟩, by omega⟩, fun c3 => ⟨by unfold R32; omega, by unfold R32; omega, (c_common (by omega) (by omega) (by omega)).fn ⟨_, rfl, ?_⟩⟩⟩⟩⟩
    · rw [← pInR_e (by omega), show j = 58 - k by omega]
    · rw [← bInR_e, show j = 58 - k by omega]
    · rw [← bInR_e, show j = 58 - k by omega]
    · rw [(s0 (by unfold dv; rw [if_neg (by omega)]; decide)).2]
    · rw [(s0 (by unfold dv; rw [if_neg (by omega)]; decide)).1]
    · rw [(s0 (by unfold dv; rw [if_neg (by omega)]; decide)).1]
    · rw [(s1 (by unfold dv; rw [if_neg (by omega)]; decide)).2]
    · rw [(s1 (by unfold dv; rw [if_neg (by omega)]; decide)).1]
    · rw [(s1 (by unfold dv; rw [if_neg (by omega)]; decide)).1]
    · have d1 : dv g (k + 2) = 1 := by unfold dv; rw [if_pos (by omega)]
      have d2 : dv g (k + 2 + 1 + j) = 1 := by unfold dv; rw [if_pos (by omega)]
      have h3 := s3 d1 d2
      have hl2 := hl (by omega) (by omega) (by omega) (by omega)
      refine ⟨by unfold R64; omega, by unfold R64; omega, fun c4 => ⟨by unfold R32; omega, by unfold R32; omega, (c_common (by omega) (by omega) (by omega)).fn ⟨_, rfl, (c_greater (by unfold R64; omega) (by unfold R64; omega)).fn ⟨_, rfl, fun y54 h54 y46 h46 => ⟨⟨rfl, g, k, j + 1, rfl, rfl, hg, hA, ?_, ?_, ?_, rfl, hk, by omega, by omega⟩, by omega⟩⟩⟩⟩, fun c4 => ⟨by unfold R32; omega, by unfold R32; omega, (c_common (by omega) (by omega) (by omega)).fn ⟨_, rfl, (c_greater (by unfold R64; omega) (by unfold R64; omega)).fn ⟨_, rfl, fun y54 h54 y46 h46 => ⟨⟨rfl, g, k, j + 1, rfl, rfl, hg, hA, ?_, ?_, ?_, rfl, hk, by omega, by omega⟩, by omega⟩⟩⟩⟩⟩
      · rw [s2 d1 d2]; omega
      · rw [h3, if_neg (by omega)]
      · rw [h3, if_neg (show ¬ (bInR g k j).2 < Nat.lcm (k + 2) (k + 2 + 1 + j) by omega)]
        split <;> omega
      · rw [s2 d1 d2]; omega
      · rw [h3, if_pos (by omega)]
      · rw [h3, if_pos (show (bInR g k j).2 < Nat.lcm (k + 2) (k + 2 + 1 + j) by omega), if_neg (by omega)]
theorem e_fit {i : Int} (ha : R32 a) (hl : R32 lane) (hi : R32 i) (hn : R32 n) (hw : R32 w) : EqA E l vi qX11_fit qX12_fit [vi a, vi lane, vi i, vi n, vi w] :=
  eqH (ftF a lane i n w) (fun W S hW hS => by rw [ftF_S]; exact hS) (fun M W S hP hC hW hS => k_fit ha hl hi hn hw hC hS) (fun M W S hP hC hW hS => m_fit ha hl hi hn hw hC hS)
end
