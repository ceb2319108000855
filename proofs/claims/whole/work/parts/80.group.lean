/-! most, parties: what the seating answers -/
theorem Kp.f6 {M M' : MM} (h : F6 M M') : Kp 6 M M' := fun j _ b k p e => h k p (fun q => b (by omega))
theorem Kp.only {k0 : Nat} {M M' : MM} (h : Only k0 M M') (hk : ∀ j, rg k0 j = 0) : Kp 6 M M' := fun j a _ k p e => h k p (fun q => by rw [q, hk p] at e; omega)
theorem AG.f6 {M M' : MM} (h : Kp 6 M M') {j : Nat} (a : 1 ≤ j ∧ j ≠ 6) : AG j M M' := h j a.1 a.2
theorem MkC.f6 {M M' : MM} {n g : Nat} {f : Nat → Nat} (h : MkC M n f g) (e : F6 M M') : MkC M' n f g := by
  have q : ∀ k p, k = 37 ∨ k = 38 → M' k p = M k p := fun k p a => e k p (by
    rcases a with rfl | rfl
    · simp [rg]
    · simp [rg])
  obtain ⟨h1, h2, h3⟩ := h
  exact ⟨(q 37 1 (Or.inl rfl)).trans h1, (q 37 2 (Or.inl rfl)).trans h2, fun i hi => (q 38 i (Or.inr rfl)).trans (h3 i hi)⟩
theorem MkC.only {M M' : MM} {n g : Nat} {f : Nat → Nat} (h : MkC M n f g) (e : Only 8 M M') : MkC M' n f g := by
  obtain ⟨h1, h2, h3⟩ := h
  exact ⟨(e 37 1 (by decide)).trans h1, (e 37 2 (by decide)).trans h2, fun i hi => (e 38 i (by decide)).trans (h3 i hi)⟩
theorem Pkd.f6 {M M' : MM} {c : Int} {W : Nat → Int} (h : Pkd M c W) (e : F6 M M') : Pkd M' c W := fun b hb q => (e 8 _ (by simp [rg])).trans (h b hb q)
theorem PC.f6 {M M' : MM} {W : Nat → Int} (h : PC M W) (e : F6 M M') : PC M' W := h.ag (Kp.f6 e 1 (by decide) (by decide))
theorem catU_mem {f : Nat → List (List Nat)} {x : List Nat} : ∀ n, x ∈ catU f n → ∃ g, g < n ∧ x ∈ f g
  | 0, h => absurd h (List.not_mem_nil)
  | n + 1, h => by
    rw [catU_s] at h
    rcases List.mem_append.mp h with h | h
    · obtain ⟨g, h1, h2⟩ := catU_mem n h
      exact ⟨g, by omega, h2⟩
    · exact ⟨n, by omega, h⟩
theorem rf_ro : ∀ (k m : Nat) (r : List Nat), r ∈ rf k m → ∀ j, ro r j ≤ m + k
  | 0, m, r, h, j => by
    have e : r = [] := by
      rcases List.mem_cons.mp h with h | h
      · exact h
      · exact absurd h (List.not_mem_nil)
    rw [e, ro_n]
    omega
  | k + 1, m, r, h, j => by
    rw [rf_s] at h
    obtain ⟨g, h1, h2⟩ := catU_mem _ h
    obtain ⟨s, h3, h4⟩ := List.mem_map.mp h2
    rw [← h4]
    cases j with
    | zero => rw [ro_0]; omega
    | succ j =>
      rw [ro_s]
      have := rf_ro k (max m (g + 1)) s h3 j
      omega
theorem fold_mem {wt : Nat → Int} {lim n : Nat} : ∀ (L : List (List Nat)) (z : ZZ) (q : Int × Nat × List Nat), L.foldl (stp wt lim n) z = some q → z = some q ∨ q.2.2 ∈ L
  | [], z, q, h => Or.inl h
  | a :: L, z, q, h => by
    rw [List.foldl_cons] at h
    rcases fold_mem L _ q h with h | h
    · unfold stp at h
      split at h
      · cases h
        exact Or.inr (List.mem_cons_self)
      · exact Or.inl h
    · exact Or.inr (List.mem_cons_of_mem _ h)
theorem ro_res {wt : Nat → Int} {lim n : Nat} {q : Int × Nat × List Nat} (h : res wt lim n = some q) (j : Nat) : ro q.2.2 j ≤ n := by
  rcases fold_mem _ _ _ h with h | h
  · cases h
  · have := rf_ro n 0 _ h j
    omega
/-- the best of the bolts of a cloth; of the buyers, in parties of k at most -/
def zM (c : Int) (W : Nat → Int) : ZZ := res (wtM c W) 8 (nW c W)
def wtP (W : Nat → Int) (s : Nat) : Int := -((priceT s W : Nat) : Int)
def zP (k : Nat) (W : Nat → Int) : ZZ := res (wtP W) k (W 24).toNat
def aMost (a b : Int) (W : Nat → Int) : Int := if (0 ≤ a ∧ a ≤ 3) ∧ (-1 ≤ b ∧ b ≤ 7) then (match zM a W with
  | none => 0
  | some q => if b = -1 then w32 q.1 else if (nW a W : Int) ≤ b then -4 else (ro q.2.2 b.toNat : Nat)) else -1
def aParties (a b : Int) (W : Nat → Int) : Int := if (1 ≤ a ∧ a ≤ 6) ∧ (-1 ≤ b ∧ b ≤ 5) then (if W 24 ≤ b ∨ W 24 = 0 then -4 else (match zP a.toNat W with
  | none => 0
  | some q => if b = -1 then -q.1 else (ro q.2.2 b.toNat : Nat))) else -1
theorem nW_8 {c : Int} {W : Nat → Int} (hW : IW W) : nW c W ≤ 8 := by
  have := hW.held
  have := qn_le c W (W 6).toNat
  unfold nW
  omega
theorem price_0 {W : Nat → Int} (hW : IW W) : priceT 0 W = 0 := by
  have hs := hW.stp
  have hw : wantT 0 W = 0 := by
    unfold wantT
    have : sumZ (fun j => if bt 0 j = 1 then W (25 + j) else 0) (W 24).toNat = sumZ (fun j => if bt 0 j = 1 then W (25 + j) else 0) 0 := sumZ_ext _ (by omega) (fun j _ _ => if_neg (by rw [bt_0]; decide))
    rw [this]
    rfl
  have hn : 1 ≤ knW W := by rcases hs.1 with h | h <;> omega
  have : ∀ m, m + 1 ≤ knW W → fstF (stW W) 0 (m + 1) = 0 := by
    intro m
    induction m with
    | zero =>
      intro _
      obtain ⟨f0, f1, f2⟩ := hs.2.1 0 (by omega)
      show min 4611686018427387904 ((0 + stW W 0 - 1) / stW W 0 * stW W 0) = 0
      rw [Nat.div_eq_of_lt (by omega), Nat.zero_mul]
      rfl
    | succ m ih =>
      intro h
      show min (fstF (stW W) 0 (m + 1)) _ = 0
      rw [ih (by omega)]
      exact Nat.zero_min _
  unfold priceT
  rw [hw]
  obtain ⟨m, hm⟩ : ∃ m, knW W = m + 1 := ⟨knW W - 1, by omega⟩
  rw [hm]
  exact this m (by omega)
theorem wtP_b {W : Nat → Int} (hW : IW W) (s : Nat) : -2199023255552 ≤ wtP W s ∧ wtP W s ≤ 0 := by
  have := price_b hW s
  unfold wtP
  omega
theorem wtM_B {c : Int} {W : Nat → Int} (hW : IW W) : wB (wtM c W) := fun s _ => by
  have := wtM_b (c := c) hW s
  omega
theorem wtP_B {W : Nat → Int} (hW : IW W) : wB (wtP W) := fun s _ => by
  have := wtP_b hW s
  omega
section
variable {E : FX} {l : Launch} {M : MM} {W : Nat → Int} {a b : Int}
theorem c_groupBolts {c : Int} (hP : PC M W) (hW : IW W) (hG : GI M) (hc : 0 ≤ c ∧ c ≤ 3) : Con E l 14 qX11_groupBolts [vr 0, vi c] M (fun r M' => r = none ∧ GI M' ∧ Kp 6 M M' ∧ M' 39 7 = (nW c W : Nat) ∧ RBc M' (nW c W) (zM c W)) := by
  have hn := nW_8 (c := c) hW
  have h2 : 2 ^ nW c W ≤ 2 ^ 8 := Nat.pow_le_pow_right (by omega) hn
  have h1 : 1 ≤ 2 ^ nW c W := Nat.one_le_two_pow
  refine RX11_groupBolts (D := 13) (fun M' x1 x3 x4 => x1 = c ∧ x3 = (nW c W : Nat) ∧ ∃ g : Nat, x4 = g ∧ 1 ≤ g ∧ g ≤ 2 ^ nW c W ∧ GI M' ∧ PC M' W ∧ MkC M' (knW W) (stW W) (alW W) ∧ Pkd M' c W ∧ (∀ s, s < g → M' 40 s = wtM c W s) ∧ Kp 6 M M') (fun _ _ _ x4 => (300 - x4).toNat) ?_ ?_
  · unfold VX11_groupBolts_0
    refine (c_marksNow hP hW).mono ?_
    rintro _ M1 ⟨rfl, hk, he⟩
    refine ⟨rfl, (c_pick (hP.eqv he) hW hc).mono ?_⟩
    rintro _ M4 ⟨rfl, hp, ho⟩
    have k1 : Kp 6 M M4 := (Kp.of he).tr (Kp.only ho (fun j => by simp [rg]))
    have g4 : GI M4 := (hG.ag (AG.of he (by decide))).ag (fun k p e => ho k p (fun q => by subst q; simp [rg] at e))
    refine ⟨_, rfl, rfl, rfl, 1, rfl, by omega, h1, g4, (hP.eqv he).ag (fun k p e => ho k p (fun q => by subst q; simp [rg] at e)), hk.only ho, hp, fun s hs => ?_, k1⟩
    have hs0 : s = 0 := by omega
    subst hs0
    rw [g4.2.2.2.1]
    rfl
  · rintro M' c _ _ ⟨rfl, rfl, g, rfl, hg1, hg2, hGI, hPC, hMk, hPk, hwt, hKp⟩
    unfold VX11_groupBolts_20
    rw [ishl_1 _ (by omega)]
    refine ⟨by unfold R32; omega, by unfold R32; omega, fun d => ?_, fun d => (c_lengthOfPicked (by omega) hPk hPC hW hc).fn ⟨_, rfl, ?_⟩⟩
    · have er : res (fun s => M' 40 s) 8 (nW c W) = zM c W := res_cong (fun s hs => hwt s (by omega))
      refine (c_solve (lim := 8) hn (by decide) hGI).mono ?_
      rintro _ M9 ⟨rfl, q1, q2, q3, q4, q5⟩
      rw [er] at q3
      exact ⟨rfl, rfl, q1, hKp.tr (Kp.f6 q5), q2, q3⟩
    · have hl := lenG_b (c := c) hW g
      obtain ⟨x, hx⟩ : ∃ x : Nat, pos0 (lenG (svW c W) (smW c W) (nW c W) g) = x := ⟨(pos0 (lenG (svW c W) (smW c W) (nW c W) g)).toNat, by unfold pos0; split <;> omega⟩
      have hx2 : x ≤ 1000000 := by
        unfold pos0 at hx
        split at hx <;> omega
      have hlf := lastF_le (stW W) x (knW W)
      rw [hx]
      refine ⟨by unfold R32; omega, (c_lastTo hW.stp hMk (x := x) (by omega)).fn ⟨_, rfl, (c_setWorth (by omega) (by omega) hGI).mono ?_⟩⟩
      rintro _ M17 ⟨rfl, q1, q2, q3, q4⟩
      refine ⟨rfl, fun y19 h19 => ⟨⟨rfl, rfl, g + 1, by omega, by omega, by omega, q1, hPC.f6 q4, hMk.f6 q4, hPk.f6 q4, fun s hs => ?_, hKp.tr (Kp.f6 q4)⟩, by omega⟩⟩
      by_cases e : s = g
      · subst e
        rw [q2]
        unfold wtM
        rw [if_neg (by omega), hx, Int.toNat_natCast]
      · rw [q3 s e]
        exact hwt s (by omega)
theorem k_most (ha : R32 a) (hb : R32 b) (hP : PC M W) (hW : IW W) (hG : GI M) : Con E l 20 qX11_most [vr 0, vi a, vi b] M (fun r M' => r = some (vi (aMost a b W)) ∧ GI M' ∧ Kp 6 M M') := by
  have bad : ¬ ((0 ≤ a ∧ a ≤ 3) ∧ (-1 ≤ b ∧ b ≤ 7)) → some (vi (-1)) = some (vi (aMost a b W)) ∧ GI M ∧ Kp 6 M M := fun q => by
    unfold aMost
    rw [if_neg q]
    exact ⟨rfl, hG, Kp.rf⟩
  refine (RX11_most (D := 14) ?_).up (by decide)
  unfold VX11_most_0
  try unfold VX11_most_65
  refine (c_isCloth ha).fn ⟨_, rfl, b01_R, fun c1 => bad (fun q => b01_0.mp c1 q.1), fun c1 => (c_within hb (by decide) (by decide)).fn ⟨_, rfl, b01_R, fun c2 => ?_, fun c2 => bad (fun q => b01_0.mp c2 q.2)⟩⟩
  rw [b01_n0] at c1 c2
  refine (c_groupBolts hP hW hG c1).mono ?_
  rintro _ M11 ⟨rfl, g1, g2, g3, g4⟩
  have hn := nW_8 (c := a) hW
  have hne : zM a W ≠ none := res_ne hn (by decide)
  refine ⟨rfl, hb, ?_⟩
  unfold aMost
  rw [if_pos ⟨c1, c2⟩, g3]
  cases hz : zM a W with
  | none => exact absurd hz hne
  | some q =>
    rw [hz] at g4
    obtain ⟨r1, r2, r3⟩ := g4
    refine ⟨fun c3 => ⟨hb, by unfold R32; omega, fun c4 => ⟨?_, g1, g2⟩, fun c4 => (c_at_in (n := 8) rfl (by omega) (by omega)).fn ⟨_, rfl, ?_, g1, g2⟩⟩, fun c3 => ⟨?_, g1, g2⟩⟩
    · show _ = some (vi (if b = -1 then w32 q.1 else if (nW a W : Int) ≤ b then -4 else (ro q.2.2 b.toNat : Nat)))
      rw [if_neg c3, if_pos c4]
    · show _ = some (vi (if b = -1 then w32 q.1 else if (nW a W : Int) ≤ b then -4 else (ro q.2.2 b.toNat : Nat)))
      rw [if_neg c3, if_neg c4, r3 b.toNat (by omega)]
    · show _ = some (vi (if b = -1 then w32 q.1 else if (nW a W : Int) ≤ b then -4 else (ro q.2.2 b.toNat : Nat)))
      rw [if_pos c3, r2]
theorem c_groupBuyers {k : Nat} (hP : PC M W) (hW : IW W) (hG : GI M) (hk : 1 ≤ k ∧ k ≤ 6) : Con E l 14 qX11_groupBuyers [vr 0, vi k] M (fun r M' => r = none ∧ GI M' ∧ Kp 6 M M' ∧ RBc M' (W 24).toNat (zP k W)) := by
  have hh := hW.nb
  obtain ⟨n, hn⟩ : ∃ n : Nat, W 24 = n := ⟨(W 24).toNat, by omega⟩
  have en : (W 24).toNat = n := by omega
  have hn6 : n ≤ 6 := by omega
  have h2 : 2 ^ n ≤ 2 ^ 6 := Nat.pow_le_pow_right (by omega) hn6
  have h1 : 1 ≤ 2 ^ n := Nat.one_le_two_pow
  refine RX11_groupBuyers (D := 13) (fun M' x1 x3 => x1 = k ∧ ∃ g : Nat, x3 = g ∧ 1 ≤ g ∧ g ≤ 2 ^ n ∧ GI M' ∧ PC M' W ∧ MkC M' (knW W) (stW W) (alW W) ∧ (∀ s, s < g → M' 40 s = wtP W s) ∧ Kp 6 M M') (fun _ _ x3 => (300 - x3).toNat) ?_ ?_
  · unfold VX11_groupBuyers_0
    refine (c_marksNow hP hW).mono ?_
    rintro _ M1 ⟨rfl, hk, he⟩
    have g4 : GI M1 := hG.ag (AG.of he (by decide))
    refine ⟨rfl, rfl, 1, rfl, by omega, h1, g4, hP.eqv he, hk, fun s hs => ?_, Kp.of he⟩
    have hs0 : s = 0 := by omega
    subst hs0
    rw [g4.2.2.2.1]
    unfold wtP
    rw [price_0 hW]
    rfl
  · rintro M' _ _ ⟨rfl, g, rfl, hg1, hg2, hGI, hPC, hMk, hwt, hKp⟩
    unfold VX11_groupBuyers_7
    refine (c_everyone hPC hW).fn ⟨_, rfl, ?_⟩
    rw [en, hPC.nb, hn]
    refine ⟨by unfold R32; omega, by unfold R32; omega, fun d => ?_, fun d => (c_priceOfC (by omega) hMk hPC hW).fn ⟨_, rfl, ?_⟩⟩
    · have er : res (fun s => M' 40 s) k n = zP k W := by
        unfold zP
        rw [en]
        exact res_cong (fun s hs => hwt s (by omega))
      refine (c_solve (n := n) (by omega) (by omega) hGI).mono ?_
      rintro _ M9 ⟨rfl, q1, q2, q3, q4, q5⟩
      rw [er] at q3
      exact ⟨rfl, rfl, q1, hKp.tr (Kp.f6 q5), q3⟩
    · have hw := wtP_b hW g
      unfold wtP at hw
      refine (c_setWorth (by omega) (by omega) hGI).mono ?_
      rintro _ M17 ⟨rfl, q1, q2, q3, q4⟩
      refine ⟨rfl, fun y19 h19 => ⟨⟨rfl, g + 1, by omega, by omega, by omega, q1, hPC.f6 q4, hMk.f6 q4, fun s hs => ?_, hKp.tr (Kp.f6 q4)⟩, by omega⟩⟩
      by_cases e : s = g
      · subst e
        rw [q2]
        rfl
      · rw [q3 s e]
        exact hwt s (by omega)
theorem k_parties (ha : R32 a) (hb : R32 b) (hP : PC M W) (hW : IW W) (hG : GI M) : Con E l 20 qX11_parties [vr 0, vi a, vi b] M (fun r M' => r = some (vj (aParties a b W)) ∧ GI M' ∧ Kp 6 M M') := by
  have hh := hW.nb
  have bad : ¬ ((1 ≤ a ∧ a ≤ 6) ∧ (-1 ≤ b ∧ b ≤ 5)) → some (vj (-1)) = some (vj (aParties a b W)) ∧ GI M ∧ Kp 6 M M := fun q => by
    unfold aParties
    rw [if_neg q]
    exact ⟨rfl, hG, Kp.rf⟩
  refine (RX11_parties (D := 14) ?_).up (by decide)
  unfold VX11_parties_0
  try unfold VX11_parties_87
  refine (c_within ha (by decide) (by decide)).fn ⟨_, rfl, b01_R, fun c1 => bad (fun q => b01_0.mp c1 q.1), fun c1 => (c_within hb (by decide) (by decide)).fn ⟨_, rfl, b01_R, fun c2 => ?_, fun c2 => bad (fun q => b01_0.mp c2 q.2)⟩⟩
  rw [b01_n0] at c1 c2
  rw [hP.nb]
  obtain ⟨k, rfl⟩ : ∃ k : Nat, a = k := ⟨a.toNat, by omega⟩
  have none4 : (W 24 ≤ b ∨ W 24 = 0) → some (vj (-4)) = some (vj (aParties k b W)) ∧ GI M ∧ Kp 6 M M := fun q => by
    unfold aParties
    rw [if_pos ⟨c1, c2⟩, if_pos q]
    exact ⟨rfl, hG, Kp.rf⟩
  refine ⟨hb, by unfold R32; omega, fun c3 => none4 (Or.inl c3), fun c3 => ⟨by unfold R32; omega, fun c4 => (c_groupBuyers hP hW hG (by omega)).mono ?_, fun c4 => none4 (Or.inr c4)⟩⟩
  rintro _ M15 ⟨rfl, g1, g2, g4⟩
  have hne : zP k W ≠ none := res_ne (by omega) (by omega)
  refine ⟨rfl, hb, ?_⟩
  unfold aParties
  rw [if_pos ⟨c1, c2⟩, if_neg (by omega), Int.toNat_natCast]
  cases hz : zP k W with
  | none => exact absurd hz hne
  | some q =>
    rw [hz] at g4
    obtain ⟨r1, r2, r3⟩ := g4
    refine ⟨fun c5 => (c_at_in (n := 8) rfl (by omega) (by omega)).fn ⟨_, rfl, ?_, ?_, g1, g2⟩, fun c5 => ⟨?_, g1, g2⟩⟩
    · rw [r3 b.toNat (by omega)]
      have := ro_res hz b.toNat
      unfold R32
      omega
    · show _ = some (vj (if b = -1 then -q.1 else (ro q.2.2 b.toNat : Nat)))
      rw [if_neg c5, r3 b.toNat (by omega)]
    · show _ = some (vj (if b = -1 then -q.1 else (ro q.2.2 b.toNat : Nat)))
      rw [if_pos c5, r2]
end
