/-! leaves -/
theorem sumZ_ext {g : Nat → Int} {h : Nat} : ∀ n, h ≤ n → (∀ j, h ≤ j → j < n → g j = 0) → sumZ g n = sumZ g h := by
  intro n
  induction n with
  | zero =>
    intro hn _
    rw [show h = 0 by omega]
  | succ n ih =>
    intro hn hz
    by_cases c : h = n + 1
    · rw [c]
    · rw [sumZ_s, hz n (by omega) (by omega), ih (by omega) (fun j a b => hz j a (by omega)), Int.add_zero]
theorem bt_out {s h k : Nat} (hs : s < 2 ^ h) (hk : h ≤ k) : bt s k = 0 := by
  unfold bt
  have h2 : 2 ^ h ≤ 2 ^ k := Nat.pow_le_pow_right (by omega) hk
  rw [Nat.div_eq_of_lt (Nat.lt_of_lt_of_le hs h2)]
/-- the first number from s on, of n, that P holds of; else -4 -/
def fsF (P : Nat → Bool) : Nat → Nat → Int
  | 0, _ => -4
  | n + 1, s => if P s = true then (s : Int) else fsF P n (s + 1)
theorem fsF_s (P : Nat → Bool) (n s : Nat) : fsF P (n + 1) s = if P s = true then (s : Int) else fsF P n (s + 1) := rfl
/-- what a set holds of the items from i on -/
def shT (f : Nat → Int) (i h s : Nat) : Int := sumZ (fun j => if bt s j = 1 then f (i + j) else 0) h
abbrev shOk (f : Nat → Int) (i h : Nat) : Prop := ∀ j, j < h → 0 ≤ f (i + j) ∧ f (i + j) ≤ 9999999
theorem shT_b {f : Nat → Int} {i h : Nat} (hh : shOk f i h) (h6 : h ≤ 6) (s : Nat) : 0 ≤ shT f i h s ∧ shT f i h s ≤ 60000000 := by
  have q := sumZ_b (g := fun j => if bt s j = 1 then f (i + j) else 0) (B := 9999999) (n := h) (fun j hj => by
    have := hh j hj
    show 0 ≤ (if bt s j = 1 then f (i + j) else 0) ∧ (if bt s j = 1 then f (i + j) else 0) ≤ 9999999
    split <;> omega)
  unfold shT
  refine ⟨q.1, Int.le_trans q.2 ?_⟩
  omega
noncomputable def lvP (f : Nat → Int) (i h : Nat) (W : Nat → Int) (s : Nat) : Bool := decide ((priceT s W : Int) < shT f i h s)
section
variable {E : FX} {l : Launch} {M : MM} {S : SS} {a b lane n v : Int}
theorem c_allWithin {s i n : Nat} {lo hi : Int} (hs : s < 4) (hin : i + n ≤ 16) (h1 : R32 lo) (h2 : R32 hi) (hR : ∀ j, j < 16 → R64 (M (33 + s) j)) : Con E l 2 qX8_allWithin [vr (29 + s), vi i, vi n, vi lo, vi hi] M (fun r M' => r = some (vi (b01 (∀ j, j < n → lo ≤ M (33 + s) (i + j) ∧ M (33 + s) (i + j) ≤ hi))) ∧ M' = M) := by
  obtain ⟨k1, k2, k3, k4, k5, k6⟩ := sh_kd s hs
  refine RX8_allWithin (D := 1) (fun M' x0 x1 x2 x3 x4 x5 => M' = M ∧ x0 = 29 + s ∧ x1 = i ∧ x2 = n ∧ x3 = lo ∧ x4 = hi ∧ ∃ k : Nat, x5 = ((i + k : Nat) : Int) ∧ k ≤ n ∧ ∀ j, j < k → lo ≤ M (33 + s) (i + j) ∧ M (33 + s) (i + j) ≤ hi) (fun _ _ _ _ _ _ x5 => (40 - x5).toNat) ?_ ?_
  · exact ⟨rfl, rfl, rfl, rfl, rfl, rfl, 0, rfl, by omega, fun j hj => absurd hj (by omega)⟩
  · rintro M' _ _ _ lo hi _ ⟨rfl, rfl, rfl, rfl, rfl, rfl, k, rfl, hk, hj⟩
    unfold VX8_allWithin_3
    try unfold VX8_allWithin_42
    refine ⟨by unfold R32; omega, by unfold R32; omega, fun c => ⟨?_, rfl⟩, fun c => ⟨k1, 33 + s, k2, (c_atj_in (n := 16) k6 (by omega) (by omega)).fn ⟨_, rfl, h1, hR (i + k) (by omega), r32_64 h1, fun c2 => ⟨?_, rfl⟩, fun c2 => ⟨k1, 33 + s, k2, (c_atj_in (n := 16) k6 (by omega) (by omega)).fn ⟨_, rfl, h2, hR (i + k) (by omega), r32_64 h2, fun c3 y15 h15 => ⟨⟨rfl, rfl, rfl, rfl, rfl, rfl, k + 1, by omega, by omega, fun j hj2 => ?_⟩, by omega⟩, fun c3 => ⟨?_, rfl⟩⟩⟩⟩⟩⟩
    · rw [b01, if_pos (fun j hj2 => hj j (by omega))]
    · have c2' : M' (33 + s) (i + k) < lo := c2
      rw [b01, if_neg (fun q => by have := q k (by omega); omega)]
    · have c2' : ¬ M' (33 + s) (i + k) < lo := c2
      have c3' : M' (33 + s) (i + k) ≤ hi := c3
      by_cases d : j = k
      · rw [d]; omega
      · exact hj j (by omega)
    · have c3' : ¬ M' (33 + s) (i + k) ≤ hi := c3
      rw [b01, if_neg (fun q => by have := q k (by omega); omega)]
theorem c_sumS {s i st h : Nat} (hs : s < 4) (hst : st < 2 ^ h) (hh : h ≤ 6) (hih : i + h ≤ 16) : Con E l 2 qX8_sumOf [vr (29 + s), vi i, vi st] M (fun r M' => r = some (vj (shT (fun j => M (33 + s) j) i h st)) ∧ M' = M) := by
  obtain ⟨k1, k2, k3, k4, k5, k6⟩ := sh_kd s hs
  have h2 : 2 ^ h ≤ 2 ^ 6 := Nat.pow_le_pow_right (by omega) hh
  refine RX8_sumOf (D := 1) (fun M' x0 x1 x2 x3 x5 => M' = M ∧ x0 = 29 + s ∧ x1 = i ∧ x2 = st ∧ ∃ k : Nat, x5 = k ∧ k ≤ 6 ∧ x3 = sumZ (fun j => if bt st j = 1 then M (33 + s) (i + j) else 0) k) (fun _ _ _ _ _ x5 => (6 - x5).toNat) ?_ ?_
  · exact ⟨rfl, rfl, rfl, rfl, 0, rfl, by omega, rfl⟩
  · rintro M' _ _ _ _ _ ⟨rfl, rfl, rfl, rfl, k, rfl, hk, rfl⟩
    unfold VX8_sumOf_5
    try unfold VX8_sumOf_36
    refine ⟨by unfold R32; omega, fun c => ⟨?_, rfl⟩, fun c => ?_⟩
    · have e : sumZ (fun j => if bt st j = 1 then M' (33 + s) (i + j) else 0) k = shT (fun j => M' (33 + s) j) i h st := by
        unfold shT
        refine sumZ_ext k (by omega) (fun j a b => if_neg ?_)
        rw [bt_out hst a]
        decide
      rw [e]
    · rw [bit_nat (by omega) (by omega)]
      have hb := bt_01 st k
      refine ⟨by unfold R32; omega, fun c2 y7 h7 => ⟨⟨rfl, rfl, rfl, rfl, k + 1, by omega, by omega, ?_⟩, by omega⟩, fun c2 => ?_⟩
      · rw [sumZ_s, if_neg (by omega), Int.add_zero]
      · have hkh : k < h := by
          apply Decidable.byContradiction
          intro q
          have := bt_out hst (show h ≤ k by omega)
          omega
        rw [show (i : Int) + (k : Int) = ((i + k : Nat) : Int) by omega]
        refine ⟨k1, 33 + s, k2, (c_atj_in (n := 16) k6 (by omega) (by omega)).fn ⟨_, rfl, fun y13 h13 y1 h1 => ⟨⟨rfl, rfl, rfl, rfl, k + 1, by omega, by omega, ?_⟩, by omega⟩⟩⟩
        rw [h13, sumZ_s, if_pos (by omega)]
        rfl
theorem fstF_b {f : Nat → Nat} {x n : Nat} (hn : 1 ≤ n) (h0 : 0 < f 0 ∧ f 0 < 1000000000) (hx : x < 2 ^ 40) : fstF f x n < 2 ^ 41 := by
  obtain ⟨m, rfl⟩ : ∃ m, n = m + 1 := ⟨n - 1, by omega⟩
  clear hn
  induction m with
  | zero =>
    obtain ⟨b1, b2⟩ := fst_b h0.1 h0.2 hx
    show min (fstF f x 0) ((x + f 0 - 1) / f 0 * f 0) < 2 ^ 41
    omega
  | succ m ih =>
    show min (fstF f x (m + 1)) _ < 2 ^ 41
    omega
theorem price_b {W : Nat → Int} (hW : IW W) (s : Nat) : priceT s W < 2 ^ 41 := by
  have hs := hW.stp
  have hn : 1 ≤ knW W := by rcases hs.1 with h | h <;> omega
  have hb := want_b hW s (W 24).toNat (by have := hW.nb; omega)
  obtain ⟨f0, f1, f2⟩ := hs.2.1 0 (by omega)
  refine fstF_b hn ⟨f0, f1⟩ ?_
  unfold wantT
  omega
/-- the answer -/
noncomputable def lvF (a lane i : Int) (W : Nat → Int) (S : SS) : Int × SS :=
  if (0 ≤ a ∧ a ≤ 3) ∧ (0 ≤ lane ∧ lane ≤ 2) then (if barS S a lane i (W 24) = 0 then (if 0 < W 24 ∧ shOk (S.2.2.2 a.toNat) i.toNat (W 24).toNat then (fsF (lvP (S.2.2.2 a.toNat) i.toNat (W 24).toNat W) (2 ^ (W 24).toNat - 1) 1, S) else (-2, S)) else (barS S a lane i (W 24), S)) else (-1, S)
theorem lvF_S {a lane i : Int} {W : Nat → Int} {S : SS} : (lvF a lane i W S).2 = S := by
  unfold lvF
  split
  · split
    · split <;> rfl
    · rfl
  · rfl
theorem k_leaves {W : Nat → Int} {i : Int} (ha : R32 a) (hl : R32 lane) (hi : R32 i) (hP : PC M W) (hC : CS M S) (hW : IW W) (hS : IS S) : Con E l 20 qX11_leaves [vr 0, vi a, vi lane, vi i] M (fun r M' => r = some (vi (lvF a lane i W S).1) ∧ CS M' (lvF a lane i W S).2 ∧ FsC M M') := by
  have hh := hW.nb
  have hr := refS_R S a lane i (W 24)
  have bad : ∀ x, lvF a lane i W S = (x, S) → some (vi x) = some (vi (lvF a lane i W S).1) ∧ CS M (lvF a lane i W S).2 ∧ FsC M M := fun x e => by
    rw [e]
    exact ⟨rfl, hC, FsC.rf⟩
  obtain ⟨h, hhe⟩ : ∃ h : Nat, W 24 = h := ⟨(W 24).toNat, by omega⟩
  have h6 : h ≤ 6 := by omega
  have h2 : 2 ^ h ≤ 2 ^ 6 := Nat.pow_le_pow_right (by omega) h6
  have h1 : 1 ≤ 2 ^ h := Nat.one_le_two_pow
  refine (RX11_leaves (D := 5) (fun M' x3 x6 x8 => ∃ (p s g : Nat), a = s ∧ i = p ∧ x3 = p ∧ x6 = 29 + s ∧ s < 4 ∧ p + h ≤ 16 ∧ shOk (S.2.2.2 s) p h ∧ Eqv M M' ∧ MkC M' (knW W) (stW W) (alW W) ∧ (lvF a lane i W S).1 = fsF (lvP (S.2.2.2 s) p h W) (2 ^ h - g) g ∧ x8 = g ∧ 1 ≤ g ∧ g ≤ 2 ^ h) (fun _ _ _ x8 => (70 - x8).toNat) ?_ ?_).up (by decide)
  · unfold VX11_leaves_0
    try unfold VX11_leaves_63
    intro y1 hy1
    rw [hP.nb] at hy1
    subst hy1
    refine (c_refusal hC hS ha hl hi (by unfold R32; omega)).fn ⟨_, rfl, hr.1, fun c1 => ?_, fun c1 => ?_⟩
    · have h0 : refS S a lane i (W 24) = 0 := by omega
      have ok : (0 ≤ a ∧ a ≤ 3) ∧ (0 ≤ lane ∧ lane ≤ 2) := by
        apply Decidable.byContradiction
        intro q
        unfold refS at h0
        rw [if_neg q] at h0
        cases h0
      have hb : barS S a lane i (W 24) = 0 := by
        unfold refS at h0
        rw [if_pos ok] at h0
        exact h0
      obtain ⟨b1, b2, b3⟩ := barv_0 hb
      obtain ⟨s, rfl⟩ : ∃ s : Nat, a = s := ⟨a.toNat, by omega⟩
      obtain ⟨p, rfl⟩ : ∃ p : Nat, i = p := ⟨i.toNat, by omega⟩
      have hs4 : s < 4 := by omega
      have es : ((s : Nat) : Int).toNat = s := Int.toNat_natCast s
      have ep : ((p : Nat) : Int).toNat = p := Int.toNat_natCast p
      have eh : (W 24).toNat = h := by omega
      rw [es] at b3
      obtain ⟨i1, i2, i3, i4⟩ := hS s hs4
      obtain ⟨e1, e2, e3, e4⟩ := hC s hs4
      obtain ⟨k1, k2, k3, k4, k5, k6⟩ := sh_kd s hs4
      have hph : p + h ≤ 16 := by omega
      have hno : ¬ (0 < W 24 ∧ shOk (S.2.2.2 s) p h) → lvF s lane p W S = (-2, S) := fun q => by
        unfold lvF
        rw [if_pos ok, if_pos hb, es, ep, eh, if_neg q]
      have hyes : (0 < W 24 ∧ shOk (S.2.2.2 s) p h) → lvF s lane p W S = (fsF (lvP (S.2.2.2 s) p h W) (2 ^ h - 1) 1, S) := fun q => by
        unfold lvF
        rw [if_pos ok, if_pos hb, es, ep, eh, if_pos q]
      refine (c_sheetOf ha).fn ⟨_, rfl, by unfold R32; omega, fun c2 => bad _ (hno (by omega)), fun c2 => ⟨fun c3 => ?_, fun k13 c3 => ?_⟩⟩
      · rw [if_pos ok.1] at c3
        cases c3
      · rw [if_pos ok.1] at c3
        cases c3
        rw [es, hhe]
        refine ⟨k1, (c_allWithin (i := p) (n := h) hs4 hph (by decide) (by decide) (fun j hj => by rw [e4 j hj]; exact i4 j hj)).fn ⟨_, rfl, b01_R, fun c4 => (c_marksNow hP hW).mono ?_, fun c4 => bad _ (hno ?_)⟩⟩
        · rw [b01_n0] at c4
          have hsh : shOk (S.2.2.2 s) p h := fun j hj => by
            have := c4 j hj
            rw [e4 (p + j) (by omega)] at this
            exact this
          rintro _ M1 ⟨rfl, hk, he⟩
          refine ⟨rfl, p, s, 1, rfl, rfl, rfl, rfl, hs4, hph, hsh, he, hk, ?_, rfl, by omega, h1⟩
          rw [hyes ⟨by omega, hsh⟩]
        · rw [b01_0] at c4
          rintro ⟨_, q⟩
          refine c4 (fun j hj => ?_)
          rw [e4 (p + j) (by omega)]
          exact q j hj
    · have e : lvF a lane i W S = (refS S a lane i (W 24), S) := by
        unfold lvF refS at *
        by_cases ok : (0 ≤ a ∧ a ≤ 3) ∧ (0 ≤ lane ∧ lane ≤ 2)
        · rw [if_pos ok] at c1
          rw [if_pos ok, if_neg (by omega), if_pos ok]
        · rw [if_neg ok, if_neg ok]
      exact bad _ e
  · rintro M' _ _ _ ⟨p, s, g, hs, hp, rfl, rfl, hs4, hph, hsh, he, hk, hA, rfl, hg1, hg2⟩
    have hP' := hP.eqv he
    have hC' := hC.eqv he
    obtain ⟨e1, e2, e3, e4⟩ := hC' s hs4
    obtain ⟨k1, k2, k3, k4, k5, k6⟩ := sh_kd s hs4
    unfold VX11_leaves_75
    refine (c_everyone hP' hW).fn ⟨_, rfl, ?_⟩
    rw [show (W 24).toNat = h by omega]
    refine ⟨by unfold R32; omega, by unfold R32; omega, fun c1 => ?_, fun c1 => ?_⟩
    · rw [show 2 ^ h - g = 0 by omega] at hA
      rw [show lvF a lane i W S = (-4, S) from Prod.ext hA lvF_S]
      exact ⟨rfl, hC', FsC.eqv he⟩
    · refine ⟨k1, (c_sumS (i := p) (h := h) (st := g) hs4 (by omega) h6 hph).fn ⟨_, rfl, (c_priceOfC (by omega) hk hP' hW).fn ⟨_, rfl, ?_⟩⟩⟩
      have esh : shT (fun j => M' (33 + s) j) p h g = shT (S.2.2.2 s) p h g := sumZ_cong (fun j hj => by
        show (if bt g j = 1 then M' (33 + s) (p + j) else 0) = (if bt g j = 1 then S.2.2.2 s (p + j) else 0)
        rw [e4 (p + j) (by omega)])
      rw [esh]
      have hb1 := shT_b hsh h6 g
      have hb2 := price_b hW g
      rw [show 2 ^ h - g = (2 ^ h - (g + 1)) + 1 by omega, fsF_s] at hA
      refine ⟨by unfold R64; omega, by unfold R64; omega, fun c2 y37 h37 => ⟨⟨p, s, g + 1, hs, hp, rfl, rfl, hs4, hph, hsh, he, hk, ?_, by omega, by omega, by omega⟩, by omega⟩, fun c2 => ?_⟩
      · rw [hA, if_neg]
        unfold lvP
        rw [decide_eq_true_iff]
        omega
      · rw [if_pos (by unfold lvP; rw [decide_eq_true_iff]; omega)] at hA
        rw [show lvF a lane i W S = ((g : Int), S) from Prod.ext hA lvF_S]
        exact ⟨rfl, hC', FsC.eqv he⟩
end
