/-! parties, the reference's; most and parties alike -/
theorem bcn_6 {s : Nat} (h : s < 64) : bcn 8 s = bcn 6 s := by
  have h6 := bt_out (s := s) (h := 6) (k := 6) h (by omega)
  have h7 := bt_out (s := s) (h := 6) (k := 7) h (by omega)
  show bcn 6 s + bt s 6 + bt s 7 = _
  omega
theorem val_neg {W : Nat → Int} (hW : IW W) {r : List Nat} {n : Nat} : ∀ m : Nat, -((m : Int) * 2199023255552) ≤ sumZ (fun g => wtP W (so r g n)) m ∧ sumZ (fun g => wtP W (so r g n)) m ≤ 0
  | 0 => ⟨by simp [sumZ], Int.le_refl _⟩
  | m + 1 => by
    have i1 := val_neg hW (r := r) (n := n) m
    have i2 := wtP_b hW (so r m n)
    rw [sumZ_s, Int.natCast_add, Int.add_mul]
    omega
def mayU (lim n : Nat) (r : List Nat) (g : Nat) : Prop := ∀ g', g' < g → bcn 8 (so r g' n) ≤ lim
section
variable {E : FX} {l : Launch} {M : MM} {W : Nat → Int} {a b : Int}
theorem m_parties (ha : R32 a) (hb : R32 b) (hP : PM M W) (hW : IW W) : Con E l 20 qX12_parties [vr 44, vi a, vi b] M (fun r M' => r = some (vj (aParties a b W)) ∧ Eqv M M') := by
  have hh := hW.nb
  obtain ⟨n, hn24⟩ : ∃ n : Nat, W 24 = n := ⟨(W 24).toNat, by omega⟩
  have en : (W 24).toNat = n := by omega
  have hn6 : n ≤ 6 := by omega
  have hn : n ≤ 8 := by omega
  have h2 : 2 ^ n ≤ 2 ^ 6 := Nat.pow_le_pow_right (by omega) hn6
  have hwB := wtP_B hW
  have bad : ¬ ((1 ≤ a ∧ a ≤ 6) ∧ (-1 ≤ b ∧ b ≤ 5)) → some (vj (-1)) = some (vj (aParties a b W)) ∧ Eqv M M := fun q => by
    unfold aParties
    rw [if_neg q]
    exact ⟨rfl, Eqv.rf⟩
  refine (RX12_parties (D := 4)
    (fun M' x1 x2 x3 x4 x6 => x1 = a ∧ x2 = b ∧ (((1 ≤ a ∧ a ≤ 6) ∧ (-1 ≤ b ∧ b ≤ 5)) ∧ ¬ (W 24 ≤ b ∨ W 24 = 0)) ∧ x3 = (n : Nat) ∧ (Eqv M M' ∧ MkM M' (knW W) (stW W) (alW W)) ∧ LpI (wtP W) a.toNat n (-1) M' x4 x6)
    (fun M' _ _ x3 _ x6 => if x6 = 0 then 0 else mrow M' x3 + 900)
    (fun M' x1 x2 x3 x4 x7 x8 x10 x11 => x1 = a ∧ x2 = b ∧ (((1 ≤ a ∧ a ≤ 6) ∧ (-1 ≤ b ∧ b ≤ 5)) ∧ ¬ (W 24 ≤ b ∨ W 24 = 0)) ∧ x3 = (n : Nat) ∧ (Eqv M M' ∧ MkM M' (knW W) (stW W) (alW W)) ∧ ∃ cur rest z, LpC (wtP W) a.toNat n (-1) M' x4 cur rest z ∧ ∃ g : Nat, x7 = (uf cur n : Nat) ∧ x11 = g ∧ g ≤ uf cur n ∧ x8 = -sumZ (fun g => wtP W (so cur g n)) g ∧ ((x10 = 1 ∧ mayU a.toNat n cur g) ∨ (x10 = 0 ∧ ¬ mayU a.toNat n cur g)))
    (fun M' _ _ x3 _ _ _ _ x11 => mrow M' x3 + 800 - x11.toNat * 20)
    (fun M' x1 x2 x3 x4 x7 x8 x10 x11 x12 x13 => x1 = a ∧ x2 = b ∧ (((1 ≤ a ∧ a ≤ 6) ∧ (-1 ≤ b ∧ b ≤ 5)) ∧ ¬ (W 24 ≤ b ∨ W 24 = 0)) ∧ x3 = (n : Nat) ∧ (Eqv M M' ∧ MkM M' (knW W) (stW W) (alW W)) ∧ ∃ cur rest z, LpC (wtP W) a.toNat n (-1) M' x4 cur rest z ∧ ∃ g k : Nat, x7 = (uf cur n : Nat) ∧ x11 = g ∧ g < uf cur n ∧ x8 = -sumZ (fun g => wtP W (so cur g n)) g ∧ ((x10 = 1 ∧ mayU a.toNat n cur g) ∨ (x10 = 0 ∧ ¬ mayU a.toNat n cur g)) ∧ x12 = (so cur g k : Nat) ∧ x13 = k ∧ k ≤ n)
    (fun M' _ _ x3 _ _ _ _ x11 _ x13 => mrow M' x3 + 800 - x11.toNat * 20 - 1 - x13.toNat) ?_ ?_ ?_ ?_).up (by decide)
  · unfold VX12_parties_0
    refine ⟨ha, (c_in (r32_64 ha) (by decide) (by decide)).fn ⟨_, rfl, b01_R, fun c1 => bad (fun q => b01_0.mp c1 q.1), fun c1 => ⟨hb, (c_in (r32_64 hb) (by decide) (by decide)).fn ⟨_, rfl, b01_R, fun c2 => ?_, fun c2 => bad (fun q => b01_0.mp c2 q.2)⟩⟩⟩⟩
    rw [b01_n0] at c1 c2
    have none4 : (W 24 ≤ b ∨ W 24 = 0) → some (vj (-4)) = some (vj (aParties a b W)) ∧ Eqv M M := fun q => by
      unfold aParties
      rw [if_pos ⟨c1, c2⟩, if_pos q]
      exact ⟨rfl, Eqv.rf⟩
    intro y11 h11
    rw [hP 24 (by decide)] at h11
    subst h11
    refine ⟨by unfold R32; omega, fun c3 => none4 (Or.inr c3), fun c3 => ⟨hb, by unfold R32; omega, fun c4 => (c_layNow hP hW).mono ?_, fun c4 => none4 (Or.inl (by omega))⟩⟩
    rintro _ M17 ⟨rfl, hk, he⟩
    refine ⟨rfl, c_begin49.mono ?_⟩
    rintro _ M19 ⟨rfl, q1, q2⟩
    obtain ⟨e1, e2, e3⟩ := hk
    exact ⟨rfl, rfl, rfl, ⟨⟨c1, c2⟩, by omega⟩, hn24, ⟨q2.eqv he (fun _ => rfl), (q2 44 5 (by decide)).trans e1, (q2 44 6 (by decide)).trans e2, fun i hi => (q2 47 i (by decide)).trans (e3 i hi)⟩, LpI_0 (fun j hj => q1 j (by omega))⟩
  · rintro M' a b _ x4 _ ⟨rfl, rfl, ⟨ok, ok2⟩, rfl, hC, hL⟩
    unfold VX12_parties_67
    try unfold VX12_parties_250
    rcases hL with ⟨rfl, hR⟩ | ⟨rfl, cur, rest, z, hL⟩
    · refine ⟨by decide, fun _ => ?_, fun q => absurd rfl q⟩
      have hne : zP a.toNat W ≠ none := res_ne (by omega) (by omega)
      have hR' : RBm (-1) M' n (zP a.toNat W) x4 := by
        unfold zP
        rw [en]
        exact hR
      unfold aParties
      rw [if_pos ok, if_neg ok2]
      cases hz : zP a.toNat W with
      | none => exact absurd hz hne
      | some q =>
        rw [hz] at hR'
        obtain ⟨r1, r2, r3⟩ := hR'
        refine ⟨hb, fun d => ⟨by omega, by omega, ?_, ?_, hC.1⟩, fun d => ⟨?_, hC.1⟩⟩
        · rw [r3 b.toNat (by omega)]
          have := ro_res hz b.toNat
          unfold R32
          omega
        · show _ = some (vj (if b = -1 then -q.1 else (ro q.2.2 b.toNat : Nat)))
          rw [if_neg (by omega), r3 b.toNat (by omega)]
        · show _ = some (vj (if b = -1 then -q.1 else (ro q.2.2 b.toNat : Nat)))
          rw [if_pos (by omega), r1]
          rw [show -1 * q.1 = -q.1 by omega]
    · refine ⟨by decide, fun q => absurd q (by decide), fun _ => (c_groupsOf hn hL.2.1 hL.2.2.1).fn ⟨_, rfl, ⟨rfl, rfl, ⟨ok, ok2⟩, rfl, hC, cur, rest, z, hL, 0, rfl, rfl, by omega, rfl, Or.inl ⟨rfl, fun g' hg' => absurd hg' (Nat.not_lt_zero _)⟩⟩, ?_⟩⟩
      show mrow M' _ + 800 - (0 : Int).toNat * 20 < (if (1 : Int) = 0 then 0 else mrow M' _ + 900)
      rw [if_neg (by decide)]
      omega
  · rintro M' a b _ x4 _ _ x10 _ ⟨rfl, rfl, ⟨ok, ok2⟩, rfl, hC, cur, rest, z, hL, g, rfl, rfl, hgu, rfl, hmay⟩
    obtain ⟨l1, l2, l3, l4, l5, l6, l7, l8⟩ := id hL
    have hu := rgs_uf (r := cur) _ l2
    have hx10 : x10 = 0 ∨ x10 = 1 := by
      rcases hmay with q | q
      · exact Or.inr q.1
      · exact Or.inl q.1
    unfold VX12_parties_88
    try unfold VX12_parties_224
    refine ⟨by unfold R32; omega, by unfold R32; omega, fun d => ?_, fun d => ⟨⟨rfl, rfl, ⟨ok, ok2⟩, rfl, hC, cur, rest, z, hL, g, 0, rfl, rfl, by omega, rfl, hmay, rfl, rfl, by omega⟩, ?_⟩⟩
    · have eg : g = uf cur n := by omega
      subst eg
      have hvv : sumZ (fun g => wtP W (so cur g n)) (uf cur n) = val (wtP W) cur n := rfl
      rw [hvv]
      have hv0 : val (wtP W) cur n ≤ 0 := (val_neg hW _).2
      have hvb := val_b (r := cur) hwB hn (by omega)
      have hmm : mayB a.toNat n cur = true ↔ mayU a.toNat n cur (uf cur n) := by
        unfold mayB mayU
        exact decide_eq_true_iff
      have fin : ∀ (x : Int) (y : Int) (M2 : MM), LpI (wtP W) a.toNat n (-1) M2 x y → K3 M' M2 → (y = 0 ∨ (cdM M' n < cdM M2 n ∧ cdM M2 n < 43046721)) → (a = a ∧ b = b ∧ (((1 ≤ a ∧ a ≤ 6) ∧ (-1 ≤ b ∧ b ≤ 5)) ∧ ¬ (W 24 ≤ b ∨ W 24 = 0)) ∧ (n : Int) = (n : Nat) ∧ (Eqv M M2 ∧ MkM M2 (knW W) (stW W) (alW W)) ∧ LpI (wtP W) a.toNat n (-1) M2 x y) ∧ (if y = 0 then 0 else mrow M2 (n : Nat) + 900) < mrow M' (n : Nat) + 800 - ((uf cur n : Nat) : Int).toNat * 20 := by
        intro x y M2 q1 q2 q3
        refine ⟨⟨rfl, rfl, ⟨ok, ok2⟩, rfl, ⟨q2.eqv hC.1, q2.mk hC.2⟩, q1⟩, ?_⟩
        unfold mrow
        rw [Int.toNat_natCast, Int.toNat_natCast]
        split <;> omega
      have skip : ¬ (mayB a.toNat n cur = true ∧ bet z (val (wtP W) cur n) (uf cur n) = true) → Con E l 1 qX12_goesOn [vr 44, vi (n : Nat)] M' (fun r M2 => ∃ y : Int, r = some (vi y) ∧ ((a = a ∧ b = b ∧ (((1 ≤ a ∧ a ≤ 6) ∧ (-1 ≤ b ∧ b ≤ 5)) ∧ ¬ (W 24 ≤ b ∨ W 24 = 0)) ∧ (n : Int) = (n : Nat) ∧ (Eqv M M2 ∧ MkM M2 (knW W) (stW W) (alW W)) ∧ LpI (wtP W) a.toNat n (-1) M2 x4 y) ∧ (if y = 0 then 0 else mrow M2 (n : Nat) + 900) < mrow M' (n : Nat) + 800 - ((uf cur n : Nat) : Int).toNat * 20)) := fun hbt => (lp_skip hn hL hbt).mono (fun r M2 q => by
          obtain ⟨y, rfl, q1, q2, q3⟩ := q
          exact ⟨y, rfl, fin _ _ _ q1 q2 q3⟩)
      have take : mayB a.toNat n cur = true ∧ bet z (val (wtP W) cur n) (uf cur n) = true → Con E l 1 qX12_take [vr 44, vi (n : Nat), vi (uf cur n : Nat)] M' (fun r M1 => r = none ∧ Con E l 4 qX12_goesOn [vr 44, vi (n : Nat)] M1 (fun r M2 => ∃ y : Int, r = some (vi y) ∧ ((a = a ∧ b = b ∧ (((1 ≤ a ∧ a ≤ 6) ∧ (-1 ≤ b ∧ b ≤ 5)) ∧ ¬ (W 24 ≤ b ∨ W 24 = 0)) ∧ (n : Int) = (n : Nat) ∧ (Eqv M M2 ∧ MkM M2 (knW W) (stW W) (alW W)) ∧ LpI (wtP W) a.toNat n (-1) M2 (-val (wtP W) cur n) y) ∧ (if y = 0 then 0 else mrow M2 (n : Nat) + 900) < mrow M' (n : Nat) + 800 - ((uf cur n : Nat) : Int).toNat * 20))) := fun hbt => (lp_take hn hwB hL hbt (by omega)).mono (fun r M1 q => ⟨q.1, q.2.mono (fun r M2 q => by
          obtain ⟨y, rfl, q1, q2, q3⟩ := q
          rw [show -1 * val (wtP W) cur n = -val (wtP W) cur n by omega] at q1
          exact ⟨y, rfl, fin _ _ _ q1 q2 q3⟩)⟩)
      rcases hmay with ⟨e10, hm⟩ | ⟨e10, hm⟩
      · subst e10
        have hm' := hmm.mpr hm
        refine ⟨by decide, fun q => absurd q (by decide), fun _ => ?_⟩
        cases z with
        | none =>
          have hx : x4 = -1 := l5
          exact ⟨by unfold R64; omega, fun _ => (take ⟨hm', rfl⟩).up (by decide), fun c => by omega⟩
        | some q =>
          obtain ⟨r1, r2, r3⟩ := l5
          obtain ⟨z1, z2⟩ := l6 q rfl
          have z3 := l7 q rfl
          have hbt : bet (some q) (val (wtP W) cur n) (uf cur n) = true ↔ (q.1 < val (wtP W) cur n ∨ (q.1 = val (wtP W) cur n ∧ q.2.1 < uf cur n)) := by
            unfold bet
            exact decide_eq_true_iff
          rw [r2]
          refine ⟨by unfold R64; omega, fun c => by omega, fun _ => ⟨by unfold R64; omega, by unfold R64; omega, fun c => (take ⟨hm', hbt.mpr (Or.inl (by omega))⟩).up (by decide), fun c => ⟨by unfold R64; omega, by unfold R64; omega, fun c2 => (skip (fun w => ?_)).up (by decide), fun c2 => ⟨by unfold R32; omega, by unfold R32; omega, fun c3 => (skip (fun w => ?_)).up (by decide), fun c3 => (take ⟨hm', hbt.mpr (Or.inr ⟨by omega, by omega⟩)⟩).up (by decide)⟩⟩⟩⟩
          · rcases hbt.mp w.2 with w | w <;> omega
          · rcases hbt.mp w.2 with w | w <;> omega
      · subst e10
        exact ⟨by decide, fun _ => (skip (fun w => hm (hmm.mp w.1))).up (by decide), fun q => absurd rfl q⟩
    · show mrow M' _ + 800 - ((g : Nat) : Int).toNat * 20 - 1 - (0 : Int).toNat < mrow M' _ + 800 - ((g : Nat) : Int).toNat * 20
      rw [Int.toNat_natCast]
      omega
  · rintro M' a b _ x4 _ _ x10 _ _ _ ⟨rfl, rfl, ⟨ok, ok2⟩, rfl, hC, cur, rest, z, hL, g, k, rfl, rfl, hgu, rfl, hmay, rfl, rfl, hk⟩
    obtain ⟨l1, l2, l3, l4, l5, l6, l7, l8⟩ := id hL
    have hu := rgs_uf (r := cur) _ l2
    have hP' := hP.eqv hC.1
    have hsl := so_lt cur g k
    have h2k : 2 ^ k ≤ 2 ^ n := Nat.pow_le_pow_right (by omega) hk
    have hx10 : x10 = 0 ∨ x10 = 1 := by
      rcases hmay with q | q
      · exact Or.inr q.1
      · exact Or.inl q.1
    unfold VX12_parties_101
    try unfold VX12_parties_157
    try unfold VX12_parties_129
    have msr : ∀ (x3 : Int), mrow M' x3 + 800 - ((g : Int) + 1).toNat * 20 < mrow M' x3 + 800 - ((g : Nat) : Int).toNat * 20 - 1 - ((k : Nat) : Int).toNat := fun x3 => by
      rw [Int.toNat_natCast, Int.toNat_natCast]
      omega
    have msr2 : ∀ (x3 : Int), mrow M' x3 + 800 - ((g : Nat) : Int).toNat * 20 - 1 - ((k : Int) + 1).toNat < mrow M' x3 + 800 - ((g : Nat) : Int).toNat * 20 - 1 - ((k : Nat) : Int).toNat := fun x3 => by
      rw [Int.toNat_natCast, Int.toNat_natCast]
      omega
    refine ⟨by unfold R32; omega, by unfold R32; omega, fun d => ?_, fun d => ⟨by omega, by omega, ?_⟩⟩
    · have ek : k = n := by omega
      subst ek
      have fin : ∀ s0 : Int, ((s0 = 1 ∧ mayU a.toNat k cur (g + 1)) ∨ (s0 = 0 ∧ ¬ mayU a.toNat k cur (g + 1))) → Con E l 3 qX12_priceOf [vr 44, vi (so cur g k : Nat)] M' (fun r M64 => ∃ y65 : Int, r = some (vj y65) ∧ (∀ y67 : Int, y67 = -sumZ (fun g => wtP W (so cur g k)) g + y65 → (∀ y69 : Int, y69 = (g : Int) + 1 → ((a = a ∧ b = b ∧ (((1 ≤ a ∧ a ≤ 6) ∧ (-1 ≤ b ∧ b ≤ 5)) ∧ ¬ (W 24 ≤ b ∨ W 24 = 0)) ∧ (k : Int) = (k : Nat) ∧ (Eqv M M64 ∧ MkM M64 (knW W) (stW W) (alW W)) ∧ ∃ cur_1 rest z, LpC (wtP W) a.toNat k (-1) M64 x4 cur_1 rest z ∧ ∃ g_1 : Nat, ((uf cur k : Nat) : Int) = (uf cur_1 k : Nat) ∧ y69 = g_1 ∧ g_1 ≤ uf cur_1 k ∧ y67 = -sumZ (fun g => wtP W (so cur_1 g k)) g_1 ∧ ((s0 = 1 ∧ mayU a.toNat k cur_1 g_1) ∨ (s0 = 0 ∧ ¬ mayU a.toNat k cur_1 g_1))) ∧ mrow M64 (k : Nat) + 800 - y69.toNat * 20 < mrow M' (k : Nat) + 800 - ((g : Nat) : Int).toNat * 20 - 1 - ((k : Nat) : Int).toNat)))) := by
        intro s0 hs0
        refine (c_priceOfM (by omega) hC.2 hP' hW).fn ⟨_, rfl, fun y67 h67 y69 h69 => ?_⟩
        rw [h69]
        refine ⟨⟨rfl, rfl, ⟨ok, ok2⟩, rfl, hC, cur, rest, z, hL, g + 1, rfl, by omega, by omega, ?_, hs0⟩, msr _⟩
        rw [h67, sumZ_s]
        show _ = -(_ + -((priceT (so cur g k) W : Nat) : Int))
        omega
      refine ⟨by unfold R32; omega, fun d2 => (fin 0 (Or.inr ⟨rfl, fun q => ?_⟩)).up (by decide), fun d2 => (c_ones (s := so cur g k) (by omega)).fn ⟨_, rfl, ?_⟩⟩
      · rcases hmay with w | w
        · omega
        · exact w.2 (fun g' hg' => q g' (by omega))
      · have hb6 := bcn_6 (s := so cur g k) (by omega)
        have hle := bcn_le (so cur g k) 6
        have hm : mayU a.toNat k cur g := by
          rcases hmay with w | w
          · exact w.2
          · omega
        refine ⟨by unfold R32; omega, ha, fun d3 => (fin 0 (Or.inr ⟨rfl, fun q => ?_⟩)).up (by decide), fun d3 => (fin 1 (Or.inl ⟨rfl, fun g' hg' => ?_⟩)).up (by decide)⟩
        · have := q g (by omega)
          omega
        · by_cases e : g' = g
          · rw [e]; omega
          · exact hm g' (by omega)
    · have hv := rgs_le l2 (show k < n by omega)
      have hsl2 := so_lt cur g (k + 1)
      have h2k2 : 2 ^ (k + 1) ≤ 2 ^ n := Nat.pow_le_pow_right (by omega) (by omega)
      have hpk : 2 ^ k < 2 ^ (k + 1) := Nat.pow_lt_pow_right (by omega) (by omega)
      rw [Int.toNat_natCast, l3 k (by omega)]
      refine ⟨by unfold R32; omega, by unfold R32; omega, fun d2 y60 h60 y62 h62 => ?_, fun d2 y60 h60 y62 h62 => ?_⟩
      · rw [h62]
        refine ⟨⟨rfl, rfl, ⟨ok, ok2⟩, rfl, hC, cur, rest, z, hL, g, k + 1, rfl, rfl, hgu, rfl, hmay, ?_, by omega, by omega⟩, msr2 _⟩
        have e0 : ior (so cur g k : Nat) 0 = ((so cur g k ||| 0 : Nat) : Int) := ior_nat (b := 0) (by omega) (by omega)
        rw [h60, e0, Nat.or_zero, so_s, if_neg (by omega)]
      · rw [h62]
        refine ⟨⟨rfl, rfl, ⟨ok, ok2⟩, rfl, hC, cur, rest, z, hL, g, k + 1, rfl, rfl, hgu, rfl, hmay, ?_, by omega, by omega⟩, msr2 _⟩
        rw [h60, ishl_1 k (by omega), ior_nat (by omega) (by omega), so_s, if_pos (by omega)]
/-- alike, also where the seating is asked -/
def EqG (E : FX) (l : Launch) (mk : Int → AV) (qc qm : MI) (As : List AV) : Prop := ∀ M, Rel0 M → GI M → Con E l 20 qc (vr 0 :: As) M (fun r M1 => ∃ x : Int, r = some (mk x) ∧ Con E l 20 qm (vr 44 :: As) M1 (fun r2 M2 => r2 = some (mk x) ∧ Rel0 M2 ∧ GI M2))
theorem EqA.g {mk : Int → AV} {qc qm : MI} {As : List AV} (h : EqA E l mk qc qm As) : EqG E l mk qc qm As := by
  intro M hR hG
  refine (h M hR).mono (hD := Nat.le_refl _) ?_
  rintro r M1 ⟨x, hr, hc⟩
  refine ⟨x, hr, hc.mono (hD := Nat.le_refl _) ?_⟩
  rintro r2 M2 ⟨h1, h2, h3⟩
  exact ⟨h1, h2, hG.ag h3⟩
theorem eqG {mk : Int → AV} {qc qm : MI} {As : List AV} (A : (Nat → Int) → Int)
    (hc : ∀ M W, PC M W → IW W → GI M → Con E l 20 qc (vr 0 :: As) M (fun r M' => r = some (mk (A W)) ∧ GI M' ∧ Kp 6 M M'))
    (hm : ∀ M W, PM M W → IW W → Con E l 20 qm (vr 44 :: As) M (fun r M' => r = some (mk (A W)) ∧ Eqv M M')) : EqG E l mk qc qm As := by
  intro M hR hG
  obtain ⟨⟨W, h1, h2, h3⟩, h4, h5, h6⟩ := hR
  refine (hc M W h1 h3 hG).mono ?_ (Nat.le_refl _)
  rintro _ M1 ⟨rfl, g1, k1⟩
  have p2 := h2.ag (k1 2 (by decide) (by decide))
  refine ⟨A W, rfl, (hm M1 W p2 h3).mono ?_ (Nat.le_refl _)⟩
  rintro _ M2 ⟨rfl, e2⟩
  refine ⟨rfl, ?_, g1.ag (AG.of e2 (by decide))⟩
  exact Rel0.eqv ⟨⟨W, h1.ag (k1 1 (by decide) (by decide)), p2, h3⟩, h4.ag (k1 3 (by decide) (by decide)), h5.ag (k1 4 (by decide) (by decide)), h6.ag (k1 5 (by decide) (by decide))⟩ e2
theorem e_most (ha : R32 a) (hb : R32 b) : EqG E l vi qX11_most qX12_most [vi a, vi b] := eqG (aMost a b) (fun M W p i g => k_most ha hb p i g) (fun M W p i => m_most ha hb p i)
theorem e_parties (ha : R32 a) (hb : R32 b) : EqG E l vj qX11_parties qX12_parties [vi a, vi b] := eqG (aParties a b) (fun M W p i g => k_parties ha hb p i g) (fun M W p i => m_parties ha hb p i)
end
