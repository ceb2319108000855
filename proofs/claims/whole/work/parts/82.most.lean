/-! most, the reference's -/
def mrow (M : MM) (x3 : Int) : Nat := (43046721 - cdM M x3.toNat) * 1000
def CMo (M M' : MM) (a : Int) (W : Nat → Int) : Prop := Eqv M M' ∧ MkM M' (knW W) (stW W) (alW W) ∧ ∀ p, p < nW a W → M' 51 p = smW a W p
theorem CMo.k3 {M M1 M2 : MM} {a : Int} {W : Nat → Int} (h : CMo M M1 a W) (k : K3 M1 M2) : CMo M M2 a W := ⟨k.eqv h.1, k.mk h.2.1, fun p hp => (k 51 p (by decide) (by decide) (by omega)).trans (h.2.2 p hp)⟩
theorem lastF_0 (f : Nat → Nat) (n : Nat) : lastF f 0 n = 0 := Nat.le_zero.mp (lastF_le f 0 n)
theorem lenG_row {sv : Int} {sm : Nat → Int} {n g : Nat} {r : List Nat} : sv + sumZ (fun k => if ro r k = g then sm k - sv else 0) n = lenG sv sm n (so r g n) := by
  unfold lenG
  rw [sumZ_cong (g' := fun k => if bt (so r g n) k = 1 then sm k - sv else 0) (fun k hk => by
    show (if ro r k = g then sm k - sv else 0) = (if bt (so r g n) k = 1 then sm k - sv else 0)
    have hb := so_bt r g k n
    by_cases c : ro r k = g
    · rw [if_pos ⟨hk, c⟩] at hb
      rw [if_pos c, if_pos hb]
    · rw [if_neg (fun q => c q.2)] at hb
      rw [if_neg c, if_neg (by omega)])]
theorem val_nn {wt : Nat → Int} (hw : ∀ s, 0 ≤ wt s) {r : List Nat} {n : Nat} : ∀ m, 0 ≤ sumZ (fun g => wt (so r g n)) m
  | 0 => Int.le_refl _
  | m + 1 => by
    have := val_nn hw (r := r) (n := n) m
    have := hw (so r m n)
    rw [sumZ_s]
    omega
section
variable {E : FX} {l : Launch} {M : MM} {W : Nat → Int} {a b : Int}
theorem m_most (ha : R32 a) (hb : R32 b) (hP : PM M W) (hW : IW W) : Con E l 20 qX12_most [vr 44, vi a, vi b] M (fun r M' => r = some (vi (aMost a b W)) ∧ Eqv M M') := by
  have hh := hW.held
  have hn := nW_8 (c := a) hW
  have hne : zM a W ≠ none := res_ne hn (by decide)
  have hwB := wtM_B (c := a) hW
  have hw0 : ∀ s, 0 ≤ wtM a W s := fun s => (wtM_b hW s).1
  have bad : ¬ ((0 ≤ a ∧ a ≤ 3) ∧ (-1 ≤ b ∧ b ≤ 7)) → some (vi (-1)) = some (vi (aMost a b W)) ∧ Eqv M M := fun q => by
    unfold aMost
    rw [if_neg q]
    exact ⟨rfl, Eqv.rf⟩
  refine (RX12_most (D := 4)
    (fun M' x1 x2 x3 x4 => x1 = a ∧ x2 = b ∧ ((0 ≤ a ∧ a ≤ 3) ∧ (-1 ≤ b ∧ b ≤ 7)) ∧ Eqv M M' ∧ MkM M' (knW W) (stW W) (alW W) ∧ ∃ k : Nat, x4 = k ∧ k ≤ (W 6).toNat ∧ x3 = (qn a W k : Nat) ∧ ∀ j, j < k → qual a W j → M' 51 (qn a W j) = W (15 + j))
    (fun _ _ _ _ x4 => 1000000000000 + (20 - x4).toNat)
    (fun M' x1 x2 x3 x4 x6 => x1 = a ∧ x2 = b ∧ ((0 ≤ a ∧ a ≤ 3) ∧ (-1 ≤ b ∧ b ≤ 7)) ∧ x3 = (nW a W : Nat) ∧ CMo M M' a W ∧ LpI (wtM a W) 8 (nW a W) 1 M' x4 x6)
    (fun M' _ _ x3 _ x6 => if x6 = 0 then 0 else mrow M' x3 + 900)
    (fun M' x1 x2 x3 x4 x7 x8 x10 => x1 = a ∧ x2 = b ∧ ((0 ≤ a ∧ a ≤ 3) ∧ (-1 ≤ b ∧ b ≤ 7)) ∧ x3 = (nW a W : Nat) ∧ CMo M M' a W ∧ ∃ cur rest z, LpC (wtM a W) 8 (nW a W) 1 M' x4 cur rest z ∧ ∃ g : Nat, x7 = (uf cur (nW a W) : Nat) ∧ x10 = g ∧ g ≤ uf cur (nW a W) ∧ x8 = sumZ (fun g => wtM a W (so cur g (nW a W))) g)
    (fun M' _ _ x3 _ _ _ x10 => mrow M' x3 + 800 - x10.toNat * 20)
    (fun M' x1 x2 x3 x4 x7 x8 x10 x11 x13 => x1 = a ∧ x2 = b ∧ ((0 ≤ a ∧ a ≤ 3) ∧ (-1 ≤ b ∧ b ≤ 7)) ∧ x3 = (nW a W : Nat) ∧ CMo M M' a W ∧ ∃ cur rest z, LpC (wtM a W) 8 (nW a W) 1 M' x4 cur rest z ∧ ∃ g k : Nat, x7 = (uf cur (nW a W) : Nat) ∧ x10 = g ∧ g < uf cur (nW a W) ∧ x8 = sumZ (fun g => wtM a W (so cur g (nW a W))) g ∧ x13 = k ∧ k ≤ nW a W ∧ x11 = svW a W + sumZ (fun k => if ro cur k = g then smW a W k - svW a W else 0) k)
    (fun M' _ _ x3 _ _ _ x10 _ x13 => mrow M' x3 + 800 - x10.toNat * 20 - 1 - x13.toNat) ?_ ?_ ?_ ?_ ?_).up (by decide)
  · unfold VX12_most_0
    refine ⟨ha, (c_in (r32_64 ha) (by decide) (by decide)).fn ⟨_, rfl, b01_R, fun c1 => bad (fun q => b01_0.mp c1 q.1), fun c1 => ⟨hb, (c_in (r32_64 hb) (by decide) (by decide)).fn ⟨_, rfl, b01_R, fun c2 => (c_layNow hP hW).mono ?_, fun c2 => bad (fun q => b01_0.mp c2 q.2)⟩⟩⟩⟩
    rw [b01_n0] at c1 c2
    rintro _ M11 ⟨rfl, hk, he⟩
    exact ⟨rfl, rfl, rfl, ⟨c1, c2⟩, he, hk, 0, rfl, by omega, rfl, fun j hj => absurd hj (Nat.not_lt_zero _)⟩
  · rintro M' a b _ _ ⟨rfl, rfl, ok, he, hk, k, rfl, hkh, rfl, hp⟩
    have hP' := hP.eqv he
    have hql := qn_le a W k
    unfold VX12_most_37
    try unfold VX12_most_95
    rw [hP' 6 (by decide)]
    refine ⟨by unfold R32; omega, by unfold R32; omega, fun d => c_begin49.mono ?_, fun d => ⟨by omega, by omega, ?_⟩⟩
    · rintro _ M17 ⟨rfl, q1, q2⟩
      have ek : k = (W 6).toNat := by omega
      subst ek
      refine ⟨rfl, ⟨rfl, rfl, ok, rfl, ⟨q2.eqv he (fun _ => rfl), ?_, fun p hp2 => ?_⟩, LpI_0 (fun j hj => q1 j (by omega))⟩, ?_⟩
      · obtain ⟨e1, e2, e3⟩ := hk
        exact ⟨(q2 44 5 (by decide)).trans e1, (q2 44 6 (by decide)).trans e2, fun i hi => (q2 47 i (by decide)).trans (e3 i hi)⟩
      · obtain ⟨j, g1, g2, g3⟩ := qn_on _ hp2
        rw [q2 51 p (by decide), ← g3, hp j g1 g2]
        exact (smR_q g2 _ g1).symm
      · show (if (1 : Int) = 0 then 0 else mrow M17 _ + 900) < _
        rw [if_neg (by decide)]
        unfold mrow
        omega
    · have hcl := hW.cl (j := k) (by omega)
      have hle := hW.le (j := k) (by omega)
      rw [show (7 + (k : Int)).toNat = 7 + k by omega, show (15 + (k : Int)).toNat = 15 + k by omega, hP' (7 + k) (by omega), hP' (15 + k) (by omega)]
      refine ⟨by unfold R32; omega, by unfold R32; omega, fun d2 y21 h21 => ⟨⟨rfl, rfl, ok, he, hk, k + 1, by omega, by omega, ?_, fun j hj q => ?_⟩, by omega⟩, fun d2 => ⟨by omega, by omega, by unfold R32; omega, fun d3 y25 h25 => ⟨⟨rfl, rfl, ok, he, hk, k + 1, by omega, by omega, ?_, fun j hj q => ?_⟩, by omega⟩, fun d3 => ⟨by omega, by omega, by omega, by omega, fun M27 h27 y29 h29 y13 h13 => ⟨⟨rfl, rfl, ok, ?_, ?_, k + 1, by omega, by omega, ?_, fun j hj q => ?_⟩, by omega⟩⟩⟩⟩
      · rw [qn_s, if_neg (fun q => d2 q.1), Nat.add_zero]
      · by_cases e : j = k
        · subst e; exact absurd q.1 d2
        · exact hp j (by omega) q
      · rw [qn_s, if_neg (fun q => by have := q.2; omega), Nat.add_zero]
      · by_cases e : j = k
        · subst e
          have := q.2
          omega
        · exact hp j (by omega) q
      · rw [h27]
        exact he.put rfl
      · rw [h27]
        obtain ⟨e1, e2, e3⟩ := hk
        exact ⟨by rw [up_ne (by omega)]; exact e1, by rw [up_ne (by omega)]; exact e2, fun i hi => by rw [up_ne (by omega)]; exact e3 i hi⟩
      · rw [qn_s, if_pos ⟨d2, by omega⟩]
        omega
      · rw [h27, Int.toNat_natCast]
        by_cases e : j = k
        · rw [e, up_eq]
        · have hlt := qn_lt (show j < k by omega) q
          rw [up_ne (by omega)]
          exact hp j (by omega) q
  · rintro M' a b _ x4 _ ⟨rfl, rfl, ok, rfl, hC, hL⟩
    unfold VX12_most_113
    try unfold VX12_most_296
    rcases hL with ⟨rfl, hR⟩ | ⟨rfl, cur, rest, z, hL⟩
    · refine ⟨by decide, fun _ => ?_, fun q => absurd rfl q⟩
      unfold aMost
      rw [if_pos ok]
      cases hz : zM a W with
      | none => exact absurd hz hne
      | some q =>
        have hR' : RBm 1 M' (nW a W) (zM a W) x4 := hR
        rw [hz] at hR'
        obtain ⟨r1, r2, r3⟩ := hR'
        refine ⟨hb, fun d => ⟨hb, by unfold R32; omega, fun d2 => ⟨?_, hC.1⟩, fun d2 => ⟨by omega, by omega, ?_, hC.1⟩⟩, fun d => ⟨?_, hC.1⟩⟩
        · show _ = some (vi (if b = -1 then w32 q.1 else if (nW a W : Int) ≤ b then -4 else (ro q.2.2 b.toNat : Nat)))
          rw [if_neg (by omega), if_pos d2]
        · show _ = some (vi (if b = -1 then w32 q.1 else if (nW a W : Int) ≤ b then -4 else (ro q.2.2 b.toNat : Nat)))
          rw [if_neg (by omega), if_neg d2, r3 b.toNat (by omega)]
        · show _ = some (vi (if b = -1 then w32 q.1 else if (nW a W : Int) ≤ b then -4 else (ro q.2.2 b.toNat : Nat)))
          rw [if_pos (by omega), r1, Int.one_mul]
    · refine ⟨by decide, fun q => absurd q (by decide), fun _ => (c_groupsOf hn hL.2.1 hL.2.2.1).fn ⟨_, rfl, ⟨rfl, rfl, ok, rfl, hC, cur, rest, z, hL, 0, rfl, rfl, by omega, rfl⟩, ?_⟩⟩
      show mrow M' _ + 800 - (0 : Int).toNat * 20 < (if (1 : Int) = 0 then 0 else mrow M' _ + 900)
      rw [if_neg (by decide)]
      omega
  · rintro M' a b _ x4 _ _ _ ⟨rfl, rfl, ok, rfl, hC, cur, rest, z, hL, g, rfl, rfl, hgu, rfl⟩
    obtain ⟨l1, l2, l3, l4, l5, l6, l7, l8⟩ := id hL
    have hu := rgs_uf (r := cur) _ l2
    have hP' := hP.eqv hC.1
    unfold VX12_most_131
    try unfold VX12_most_260
    refine ⟨by unfold R32; omega, by unfold R32; omega, fun d => ?_, fun d => (c_seamOf hP' ok.1).fn ⟨_, rfl, ?_, ⟨rfl, rfl, ok, rfl, hC, cur, rest, z, hL, g, 0, rfl, rfl, by omega, rfl, rfl, by omega, ?_⟩, ?_⟩⟩
    · have eg : g = uf cur (nW a W) := by omega
      subst eg
      have hvv : sumZ (fun g => wtM a W (so cur g (nW a W))) (uf cur (nW a W)) = val (wtM a W) cur (nW a W) := rfl
      rw [hvv]
      have hv0 : 0 ≤ val (wtM a W) cur (nW a W) := val_nn hw0 _
      have hvb := val_b (r := cur) hwB hn (by omega)
      have hm := may_8 (lim := 8) (n := nW a W) (Nat.le_refl _) cur
      have fin : ∀ (x : Int) (y : Int) (M2 : MM), LpI (wtM a W) 8 (nW a W) 1 M2 x y → K3 M' M2 → (y = 0 ∨ (cdM M' (nW a W) < cdM M2 (nW a W) ∧ cdM M2 (nW a W) < 43046721)) → (a = a ∧ b = b ∧ ((0 ≤ a ∧ a ≤ 3) ∧ (-1 ≤ b ∧ b ≤ 7)) ∧ (nW a W : Int) = (nW a W : Nat) ∧ CMo M M2 a W ∧ LpI (wtM a W) 8 (nW a W) 1 M2 x y) ∧ (if y = 0 then 0 else mrow M2 (nW a W : Nat) + 900) < mrow M' (nW a W : Nat) + 800 - ((uf cur (nW a W) : Nat) : Int).toNat * 20 := by
        intro x y M2 q1 q2 q3
        refine ⟨⟨rfl, rfl, ok, rfl, hC.k3 q2, q1⟩, ?_⟩
        unfold mrow
        rw [Int.toNat_natCast, Int.toNat_natCast]
        split <;> omega
      have skip : ¬ bet z (val (wtM a W) cur (nW a W)) (uf cur (nW a W)) = true → Con E l 1 qX12_goesOn [vr 44, vi (nW a W : Nat)] M' (fun r M2 => ∃ y : Int, r = some (vi y) ∧ ((a = a ∧ b = b ∧ ((0 ≤ a ∧ a ≤ 3) ∧ (-1 ≤ b ∧ b ≤ 7)) ∧ (nW a W : Int) = (nW a W : Nat) ∧ CMo M M2 a W ∧ LpI (wtM a W) 8 (nW a W) 1 M2 x4 y) ∧ (if y = 0 then 0 else mrow M2 (nW a W : Nat) + 900) < mrow M' (nW a W : Nat) + 800 - ((uf cur (nW a W) : Nat) : Int).toNat * 20)) := fun hbt => (lp_skip hn hL (fun q => hbt q.2)).mono (fun r M2 q => by
          obtain ⟨y, rfl, q1, q2, q3⟩ := q
          exact ⟨y, rfl, fin _ _ _ q1 q2 q3⟩)
      have take : bet z (val (wtM a W) cur (nW a W)) (uf cur (nW a W)) = true → Con E l 1 qX12_take [vr 44, vi (nW a W : Nat), vi (uf cur (nW a W) : Nat)] M' (fun r M1 => r = none ∧ Con E l 4 qX12_goesOn [vr 44, vi (nW a W : Nat)] M1 (fun r M2 => ∃ y : Int, r = some (vi y) ∧ ((a = a ∧ b = b ∧ ((0 ≤ a ∧ a ≤ 3) ∧ (-1 ≤ b ∧ b ≤ 7)) ∧ (nW a W : Int) = (nW a W : Nat) ∧ CMo M M2 a W ∧ LpI (wtM a W) 8 (nW a W) 1 M2 (val (wtM a W) cur (nW a W)) y) ∧ (if y = 0 then 0 else mrow M2 (nW a W : Nat) + 900) < mrow M' (nW a W : Nat) + 800 - ((uf cur (nW a W) : Nat) : Int).toNat * 20))) := fun hbt => (lp_take hn hwB hL ⟨hm, hbt⟩ (by omega)).mono (fun r M1 q => ⟨q.1, q.2.mono (fun r M2 q => by
          obtain ⟨y, rfl, q1, q2, q3⟩ := q
          rw [Int.one_mul] at q1
          exact ⟨y, rfl, fin _ _ _ q1 q2 q3⟩)⟩)
      cases z with
      | none =>
        have hx : x4 = -1 := l5
        exact ⟨by unfold R64; omega, by unfold R64; omega, fun _ => (take rfl).up (by decide), fun c => by omega⟩
      | some q =>
        obtain ⟨r1, r2, r3⟩ := l5
        rw [Int.one_mul] at r1
        obtain ⟨z1, z2⟩ := l6 q rfl
        have hbt : bet (some q) (val (wtM a W) cur (nW a W)) (uf cur (nW a W)) = true ↔ (q.1 < val (wtM a W) cur (nW a W) ∨ (q.1 = val (wtM a W) cur (nW a W) ∧ q.2.1 < uf cur (nW a W))) := by
          unfold bet
          exact decide_eq_true_iff
        rw [r2]
        refine ⟨by unfold R64; omega, by unfold R64; omega, fun c => (take (hbt.mpr (Or.inl (by omega)))).up (by decide), fun c => ⟨by unfold R64; omega, by unfold R64; omega, fun c2 => (skip (fun w => ?_)).up (by decide), fun c2 => ⟨by unfold R32; omega, by unfold R32; omega, fun c3 => (skip (fun w => ?_)).up (by decide), fun c3 => (take (hbt.mpr (Or.inr ⟨by omega, by omega⟩))).up (by decide)⟩⟩⟩
        · rcases hbt.mp w with w | w <;> omega
        · rcases hbt.mp w with w | w <;> omega
    · have h5 := hW.seam
      unfold R32
      split <;> omega
    · show (if a < 2 then W 5 else 0) = svW a W + 0
      unfold svW
      omega
    · show mrow M' _ + 800 - ((g : Nat) : Int).toNat * 20 - 1 - (0 : Int).toNat < mrow M' _ + 800 - ((g : Nat) : Int).toNat * 20
      rw [Int.toNat_natCast]
      omega
  · rintro M' a b _ x4 _ _ _ _ _ ⟨rfl, rfl, ok, rfl, hC, cur, rest, z, hL, g, k, rfl, rfl, hgu, rfl, rfl, hk, rfl⟩
    obtain ⟨l1, l2, l3, l4, l5, l6, l7, l8⟩ := id hL
    have hu := rgs_uf (r := cur) _ l2
    have hP' := hP.eqv hC.1
    have h5 := hW.seam
    have hsv : 0 ≤ svW a W ∧ svW a W ≤ 99 := by unfold svW; split <;> omega
    have hsb := sumZ_bb (f := fun k => if ro cur k = g then smW a W k - svW a W else 0) (B := 99999) k (fun j _ => by
      have := smR_b (c := a) hW j (W 6).toNat (by omega)
      show -99999 ≤ (if ro cur j = g then smR a W (W 6).toNat j - svW a W else 0) ∧ (if ro cur j = g then smR a W (W 6).toNat j - svW a W else 0) ≤ 99999
      split <;> omega)
    unfold VX12_most_149
    try unfold VX12_most_187
    try unfold VX12_most_215
    have msr : ∀ (x3 : Int), mrow M' x3 + 800 - ((g : Int) + 1).toNat * 20 < mrow M' x3 + 800 - ((g : Nat) : Int).toNat * 20 - 1 - ((k : Nat) : Int).toNat := fun x3 => by
      rw [Int.toNat_natCast, Int.toNat_natCast]
      omega
    have msr2 : ∀ (x3 : Int), mrow M' x3 + 800 - ((g : Nat) : Int).toNat * 20 - 1 - ((k : Int) + 1).toNat < mrow M' x3 + 800 - ((g : Nat) : Int).toNat * 20 - 1 - ((k : Nat) : Int).toNat := fun x3 => by
      rw [Int.toNat_natCast, Int.toNat_natCast]
      omega
    refine ⟨by unfold R32; omega, by unfold R32; omega, fun d => ⟨by unfold R64; omega, ?_⟩, fun d => ⟨by omega, by omega, ?_⟩⟩
    · have ek : k = nW a W := by omega
      subst ek
      have hsn : so cur g (nW a W) ≠ 0 := rgs_so l2 hgu
      have hlg := lenG_row (sv := svW a W) (sm := smW a W) (n := nW a W) (g := g) (r := cur)
      have hwt : wtM a W (so cur g (nW a W)) = (lastF (stW W) (pos0 (svW a W + sumZ (fun k => if ro cur k = g then smW a W k - svW a W else 0) (nW a W))).toNat (knW W) : Nat) := by
        unfold wtM
        rw [if_neg hsn, hlg]
      obtain ⟨x, hx⟩ : ∃ x, x = svW a W + sumZ (fun k => if ro cur k = g then smW a W k - svW a W else 0) (nW a W) := ⟨_, rfl⟩
      rw [← hx] at hwt ⊢
      refine ⟨fun d2 y70 h70 y72 h72 => ?_, fun d2 => ?_⟩
      · rw [h72]
        refine ⟨⟨rfl, rfl, ok, rfl, hC, cur, rest, z, hL, g + 1, rfl, by omega, by omega, ?_⟩, msr _⟩
        unfold pos0 at hwt
        rw [if_neg (by omega)] at hwt
        rw [h70, sumZ_s, hwt]
        show _ = _ + ((lastF (stW W) 0 (knW W) : Nat) : Int)
        rw [lastF_0]
        rfl
      · obtain ⟨y, hy⟩ : ∃ y : Nat, x = y := ⟨x.toNat, by omega⟩
        unfold pos0 at hwt
        rw [if_pos (by omega), hy, Int.toNat_natCast] at hwt
        rw [hy]
        refine (c_below hW.stp hC.2.1 (x := y) (by omega)).fn ⟨_, rfl, fun y70 h70 y72 h72 => ?_⟩
        rw [h72]
        refine ⟨⟨rfl, rfl, ok, rfl, hC, cur, rest, z, hL, g + 1, rfl, by omega, by omega, ?_⟩, msr _⟩
        rw [h70, sumZ_s, hwt]
    · have hv := rgs_le l2 (show k < nW a W by omega)
      have hsm := smR_b (c := a) hW k (W 6).toNat (by omega)
      have hsm' : 0 ≤ smW a W k ∧ smW a W k ≤ 99999 := hsm
      rw [Int.toNat_natCast, l3 k (by omega), hC.2.2 k (by omega)]
      refine ⟨by unfold R32; omega, by unfold R32; omega, fun d2 y66 h66 y68 h68 => ?_, fun d2 => ⟨by omega, by omega, (c_seamOf hP' ok.1).fn ⟨_, rfl, ?_⟩⟩⟩
      · rw [h68]
        refine ⟨⟨rfl, rfl, ok, rfl, hC, cur, rest, z, hL, g, k + 1, rfl, rfl, hgu, rfl, by omega, by omega, ?_⟩, msr2 _⟩
        rw [h66, sumZ_s, if_neg (by omega)]
        omega
      · have esv : (if a < 2 then W 5 else 0) = svW a W := rfl
        rw [esv]
        refine ⟨by unfold R32; omega, fun y66 h66 y68 h68 => ?_⟩
        rw [h68]
        refine ⟨⟨rfl, rfl, ok, rfl, hC, cur, rest, z, hL, g, k + 1, rfl, rfl, hgu, rfl, by omega, by omega, ?_⟩, msr2 _⟩
        rw [h66, sumZ_s, if_pos (by omega)]
        omega
end
