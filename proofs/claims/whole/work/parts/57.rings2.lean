/-- the pairs that the reference multiplies along, of a number's digits; none: no ring -/
def shM : Nat → Nat → Nat → Nat → Nat → List (Nat × Nat) → Option (List (Nat × Nat))
  | 0, _, _, _, _, _ => none
  | n + 1, used, first, next, left, ps =>
    if left = 0 then (if bcn 6 used < 2 then none else if used &&& (2 ^ next - 1) = 0 then some (ps ++ [(first, next)]) else none)
    else if left % 10 = 0 ∨ 4 < left % 10 then none
    else if bt used (left % 10 - 1) = 1 then none
    else if used = 0 then shM n (used ||| 2 ^ (left % 10 - 1)) (left % 10 - 1) (left % 10 - 1) (left / 10) ps
    else shM n (used ||| 2 ^ (left % 10 - 1)) first (left % 10 - 1) (left / 10) (ps ++ [(left % 10 - 1, next)])
theorem shM_s (n used first next left : Nat) (ps : List (Nat × Nat)) : shM (n + 1) used first next left ps = if left = 0 then (if bcn 6 used < 2 then none else if used &&& (2 ^ next - 1) = 0 then some (ps ++ [(first, next)]) else none)
    else if left % 10 = 0 ∨ 4 < left % 10 then none
    else if bt used (left % 10 - 1) = 1 then none
    else if used = 0 then shM n (used ||| 2 ^ (left % 10 - 1)) (left % 10 - 1) (left % 10 - 1) (left / 10) ps
    else shM n (used ||| 2 ^ (left % 10 - 1)) first (left % 10 - 1) (left / 10) (ps ++ [(left % 10 - 1, next)]) := rfl
def gM (W : Nat → Int) : Option (List (Nat × Nat)) → Int
  | none => 0
  | some ps => b01 (prB W ps < prA W ps)
def shD (d : Nat) : Option (Int × List (Nat × Nat)) := (shM 5 0 0 0 d []).map (fun ps => ((d : Int), ps))
def rM (W : Nat → Int) (k : Nat) : Int × Int := (((List.range k).map (fun t => t + 12)).filterMap shD).foldl (rst W) (0, -4)
theorem rM_s (W : Nat → Int) (k : Nat) : rM W (k + 1) = match shD (k + 12) with | none => rM W k | some x => rst W (rM W k) x := by
  unfold rM
  rw [List.range_succ, List.map_append, List.filterMap_append, List.foldl_append]
  cases h : shD (k + 12) with
  | none => simp [h]
  | some x => simp [h]
theorem rM_b (W : Nat → Int) (k : Nat) : 0 ≤ (rM W k).1 ∧ (rM W k).1 ≤ k := by
  have h1 := fold_b W (((List.range k).map (fun t => t + 12)).filterMap shD) (0, -4)
  have h2 : (((List.range k).map (fun t => t + 12)).filterMap shD).length ≤ ((List.range k).map (fun t => t + 12)).length := List.length_filterMap_le _ _
  rw [List.length_map, List.length_range] at h2
  unfold rM
  omega
section
variable {E : FX} {l : Launch} {M : MM} {W : Nat → Int} {a b : Int}
theorem c_gainsM {d : Nat} (hP : PM M W) (hW : IW W) (hd : d < 10000) : Con E l 3 qX12_gains [vr 44, vi d] M (fun r M' => r = some (vi (gM W (shM 5 0 0 0 d []))) ∧ M' = M) := by
  refine RX12_gains (fun M' x2 x3 x4 x5 x7 x9 => M' = M ∧ ∃ (n used first next left : Nat) (ps : List (Nat × Nat)), x2 = used ∧ x3 = first ∧ x4 = next ∧ x5 = prA W ps ∧ x7 = prB W ps ∧ x9 = left ∧ 1 ≤ n ∧ n ≤ 5 ∧ left < 10 ^ (n - 1) ∧ used < 16 ∧ first < 4 ∧ next < 4 ∧ ps.length + n ≤ 5 ∧ (∀ p ∈ ps, p.1 < 4 ∧ p.2 < 4) ∧ shM n used first next left ps = shM 5 0 0 0 d []) (fun _ _ _ _ _ _ x9 => x9.toNat) ?_ ?_
  · exact ⟨rfl, 5, 0, 0, 0, d, [], rfl, rfl, rfl, rfl, rfl, rfl, by omega, by omega, by omega, by omega, by omega, by omega, by simp, by simp, rfl⟩
  · rintro M' _ _ _ _ _ _ ⟨rfl, n, used, first, next, left, ps, rfl, rfl, rfl, rfl, rfl, rfl, hn1, hn5, hleft, hus, hf, hnx, hlen, hmem, hsh⟩
    have hb := prA_b hW ps.length ps rfl hmem
    have h99 : (99 : Int) ^ ps.length ≤ 96059601 := by
      rcases (show ps.length = 0 ∨ ps.length = 1 ∨ ps.length = 2 ∨ ps.length = 3 ∨ ps.length = 4 by omega) with h | h | h | h | h <;> rw [h] <;> decide
    have hle : left < 10 ^ 4 := Nat.lt_of_lt_of_le hleft (Nat.pow_le_pow_right (by omega) (by omega))
    obtain ⟨n', rfl⟩ : ∃ n', n = n' + 1 := ⟨n - 1, by omega⟩
    rw [Nat.add_sub_cancel] at hleft
    rw [shM_s] at hsh
    have rate : ∀ c < 4, ∀ e < 4, (31 + 8 * ((c : Nat) : Int) + 2 * ((e : Nat) : Int)).toNat = 31 + 2 * (4 * c + e) ∧ (31 + 8 * ((c : Nat) : Int) + 2 * ((e : Nat) : Int) + 1).toNat = 32 + 2 * (4 * c + e) := fun c _ e _ => ⟨by omega, by omega⟩
    unfold VX12_gains_16
    try unfold VX12_gains_192
    try unfold VX12_gains_105
    refine ⟨by unfold R32; omega, fun c => ?_, fun c => ?_⟩
    · have hl0 : left = 0 := by omega
      subst hl0
      rw [if_pos rfl] at hsh
      have hbc := bcn_le used 6
      refine (c_ones (by omega)).fn ⟨_, rfl, by unfold R32; omega, fun c2 => ⟨?_, rfl⟩, fun c2 => ?_⟩
      · rw [if_pos (by omega)] at hsh
        rw [← hsh]; rfl
      · rw [if_neg (by omega)] at hsh
        have hp : 2 ^ next ≤ 2 ^ 3 := Nat.pow_le_pow_right (by omega) (by omega)
        have hp1 := Nat.one_le_two_pow (n := next)
        have e1 : ((2 ^ next : Nat) : Int) - 1 = ((2 ^ next - 1 : Nat) : Int) := by omega
        have hand : used &&& (2 ^ next - 1) ≤ used := Nat.and_le_left
        rw [ishl_1 next (by omega), e1, iand_nat (by omega)]
        refine ⟨by unfold R32; omega, fun c3 => ?_, fun c3 => ⟨?_, rfl⟩⟩
        · rw [if_pos (by omega)] at hsh
          obtain ⟨r1, r2⟩ := rate first hf next hnx
          have i1 := hW.ra (j := 4 * first + next) (by omega)
          have i2 := hW.rb (j := 4 * first + next) (by omega)
          have q1 := mul_b ⟨hb.1, hb.2.1⟩ i1
          have q2 := mul_b ⟨hb.2.2.1, hb.2.2.2⟩ i2
          have q3 : (99 : Int) ^ ps.length * 99 ≤ 96059601 * 99 := Int.mul_le_mul_of_nonneg_right h99 (by decide)
          refine c_rateAt.fn ⟨_, rfl, by omega, by omega, ?_⟩
          rw [r1, hP _ (by omega)]
          refine ⟨by unfold R32; omega, fun y17 h17 => c_rateAt.fn ⟨_, rfl, by omega, by omega, ?_⟩⟩
          rw [r2, hP _ (by omega)]
          refine ⟨by unfold R32; omega, fun y22 h22 => ?_⟩
          rw [← prA_app W ps (first, next)] at h17
          rw [← prB_app W ps (first, next)] at h22
          have e3 : prA W (ps ++ [(first, next)]) = prA W ps * W (31 + 2 * (4 * first + next)) := prA_app W ps (first, next)
          have e4 : prB W (ps ++ [(first, next)]) = prB W ps * W (32 + 2 * (4 * first + next)) := prB_app W ps (first, next)
          rw [← hsh]
          show R64 y17 ∧ _
          subst h17
          subst h22
          refine ⟨by unfold R64; omega, by unfold R64; omega, fun c4 => ⟨Or.inl rfl, ?_, rfl⟩, fun c4 => ⟨Or.inr rfl, ?_, rfl⟩⟩
          · show _ = some (vi (b01 _))
            rw [b01, if_neg (by omega)]
          · show _ = some (vi (b01 _))
            rw [b01, if_pos (by omega)]
        · rw [if_neg (by omega)] at hsh
          rw [← hsh]; rfl
    · rw [if_neg (by omega)] at hsh
      refine ⟨by unfold R32; omega, fun y26 h26 => ?_⟩
      have em : Int.tmod (left : Int) 10 = ((left % 10 : Nat) : Int) := by
        rw [Int.tmod_eq_emod_of_nonneg (by omega)]
        rfl
      rw [em] at h26
      have hm : left % 10 < 10 := Nat.mod_lt _ (by decide)
      refine (c_isCoin (by unfold R32; omega)).fn ⟨_, rfl, b01_R, fun c2 => ⟨?_, rfl⟩, fun c2 => ?_⟩
      · rw [b01_0] at c2
        rw [if_pos (by omega)] at hsh
        rw [← hsh]; rfl
      · rw [b01_n0] at c2
        rw [if_neg (by omega)] at hsh
        obtain ⟨c, hc⟩ : ∃ c : Nat, c = left % 10 - 1 := ⟨_, rfl⟩
        have hyc : y26 = c := by omega
        have hc4 : c < 4 := by omega
        subst hyc
        rw [← hc] at hsh
        have hbt := bt_01 used c
        have ho := or16 hus hc4
        have h2c : 2 ^ c < 2 ^ 4 := Nat.pow_lt_pow_right (by omega) hc4
        have eo : ior (used : Int) (ishl 1 (c : Int)) = ((used ||| 2 ^ c : Nat) : Int) := by rw [ishl_1 c (by omega), ior_nat (by omega) (by omega)]
        have ediv : Int.tdiv (left : Int) 10 = ((left / 10 : Nat) : Int) := td_nat left 10
        have hn' : 1 ≤ n' := by
          apply Decidable.byContradiction
          intro h0
          have h00 : n' = 0 := by omega
          subst h00
          simp at hleft
          omega
        have hdv : left / 10 < 10 ^ (n' - 1) := by
          rw [Nat.div_lt_iff_lt_mul (by omega), ← Nat.pow_succ, show (n' - 1).succ = n' by omega]
          exact hleft
        have hlt : left / 10 < left := Nat.div_lt_self (by omega) (by omega)
        refine (c_has (by omega) (by omega)).fn ⟨_, rfl, by unfold R32; omega, fun c3 => ⟨by unfold R32; omega, fun c4 => ?_, fun c4 y1 h1 => ⟨by unfold R32; omega, fun y3 h3 => ?_⟩⟩, fun c3 => ⟨?_, rfl⟩⟩
        · rw [if_neg (by omega), if_neg (by omega)] at hsh
          obtain ⟨r1, r2⟩ := rate c hc4 next hnx
          have i1 := hW.ra (j := 4 * c + next) (by omega)
          have i2 := hW.rb (j := 4 * c + next) (by omega)
          refine c_rateAt.fn ⟨_, rfl, by omega, by omega, ?_⟩
          rw [r1, hP _ (by omega)]
          refine ⟨by unfold R32; omega, fun y43 h43 => c_rateAt.fn ⟨_, rfl, by omega, by omega, ?_⟩⟩
          rw [r2, hP _ (by omega)]
          refine ⟨by unfold R32; omega, fun y48 h48 y1 h1 => ⟨by unfold R32; omega, fun y3 h3 => ⟨⟨rfl, n', used ||| 2 ^ c, first, c, left / 10, ps ++ [(c, next)], by rw [h1, eo], rfl, rfl, by rw [h43, prA_app], by rw [h48, prB_app], by rw [h3, ediv], hn', by omega, hdv, ho, hf, hc4, by simp; omega, ?_, hsh⟩, by rw [h3, ediv]; omega⟩⟩⟩
          intro p hp
          rcases List.mem_append.mp hp with h | h
          · exact hmem p h
          · have e := List.mem_singleton.mp h
            rw [e]
            exact ⟨hc4, hnx⟩
        · rw [if_neg (by omega), if_pos (by omega)] at hsh
          exact ⟨⟨rfl, n', used ||| 2 ^ c, c, c, left / 10, ps, by rw [h1, eo], rfl, rfl, rfl, rfl, by rw [h3, ediv], hn', by omega, hdv, ho, hc4, hc4, by omega, hmem, hsh⟩, by rw [h3, ediv]; omega⟩
        · rw [if_pos (by omega)] at hsh
          rw [← hsh]; rfl
def aRingM (a : Int) (W : Nat → Int) : Int := if 0 ≤ a ∧ a ≤ 1 then (if a = 0 then (rM W 4310).1 else (rM W 4310).2) else -1
theorem m_rings (ha : R32 a) : ∀ M W, PM M W → IW W → Con E l 20 qX12_rings [vr 44, vi a] M (fun r M' => r = some (vi (aRingM a W)) ∧ PM M' W ∧ Kp 2 M M') := by
  intro M W hP hW
  refine (RX12_rings (D := 4) (fun M' x1 x2 x3 x4 => M' = M ∧ x1 = a ∧ (0 ≤ a ∧ a ≤ 1) ∧ ∃ k : Nat, x4 = (k : Int) + 12 ∧ k ≤ 4310 ∧ x2 = (rM W k).1 ∧ x3 = (rM W k).2) (fun _ _ _ _ x4 => (4322 - x4).toNat) ?_ ?_).up (by decide)
  · unfold VX12_rings_0
    refine ⟨ha, (c_in (r32_64 ha) (by decide) (by decide)).fn ⟨_, rfl, b01_R, fun c => ?_, fun c => ?_⟩⟩
    · rw [b01_n0] at c
      exact ⟨rfl, rfl, c, 0, rfl, by omega, rfl, rfl⟩
    · rw [b01_0] at c
      have eA : aRingM a W = -1 := if_neg c
      rw [eA]
      exact ⟨rfl, hP, Kp.rf⟩
  · rintro M' a _ _ _ ⟨rfl, rfl, hr, k, rfl, hk, rfl, rfl⟩
    have hb := rM_b W k
    have es := rM_s W k
    unfold VX12_rings_21
    try unfold VX12_rings_48
    try unfold VX12_rings_52
    try unfold VX12_rings_67
    refine ⟨by unfold R32; omega, fun c => ⟨ha, fun c2 => ⟨?_, hP, Kp.rf⟩, fun c2 => ⟨?_, hP, Kp.rf⟩⟩, fun c => ?_⟩
    · rw [show k = 4310 by omega]
      exact congrArg (fun z => some (vi z)) ((if_pos hr).trans (if_neg c2)).symm
    · rw [show k = 4310 by omega]
      exact congrArg (fun z => some (vi z)) ((if_pos hr).trans (if_pos c2)).symm
    · rw [show (k : Int) + 12 = ((k + 12 : Nat) : Int) by omega]
      have nx : ∀ z : Int × Int, rM W (k + 1) = z → ∀ y : Int, y = ((k + 12 : Nat) : Int) + 1 → (M' = M' ∧ a = a ∧ (0 ≤ a ∧ a ≤ 1) ∧ ∃ k' : Nat, y = (k' : Int) + 12 ∧ k' ≤ 4310 ∧ z.1 = (rM W k').1 ∧ z.2 = (rM W k').2) ∧ (4322 - y).toNat < (4322 - ((k + 12 : Nat) : Int)).toNat := by
        intro z hz y hy
        exact ⟨⟨rfl, rfl, hr, k + 1, by omega, by omega, by rw [hz], by rw [hz]⟩, by omega⟩
      refine (c_gainsM hP hW (by omega)).fn ⟨_, rfl, ?_⟩
      cases hs : shM 5 0 0 0 (k + 12) [] with
      | none =>
        have e1 : shD (k + 12) = none := by unfold shD; rw [hs]; rfl
        rw [e1] at es
        exact ⟨by show R32 0; decide, fun _ y19 h19 => nx _ es y19 h19, fun q => absurd rfl q⟩
      | some ps =>
        have e1 : shD (k + 12) = some (((k + 12 : Nat) : Int), ps) := by unfold shD; rw [hs]; rfl
        rw [e1] at es
        have es2 : rM W (k + 1) = if prB W ps < prA W ps then ((rM W k).1 + 1, if (rM W k).1 = 0 then ((k + 12 : Nat) : Int) else (rM W k).2) else rM W k := es
        show R32 (b01 (prB W ps < prA W ps)) ∧ _
        refine ⟨b01_R, fun g y19 h19 => ?_, fun g => ⟨by unfold R32; omega, fun g2 y8 h8 y6 h6 => ?_, fun g2 y8 h8 y6 h6 => ?_⟩⟩
        · have g := b01_0.mp g
          rw [if_neg g] at es2
          exact nx _ es2 y19 h19
        · have g := b01_n0.mp g
          rw [if_pos g, if_neg g2] at es2
          rw [h8]
          exact nx _ es2 y6 h6
        · have g := b01_n0.mp g
          rw [if_pos g, if_pos g2] at es2
          rw [h8]
          exact nx _ es2 y6 h6
/-! both find the same rings -/
def prR (g : Nat × Nat → Int) : List (Nat × Nat) → Int
  | [] => 1
  | p :: ps => g p * prR g ps
theorem prR_perm {g : Nat × Nat → Int} {ps qs : List (Nat × Nat)} (h : ps.Perm qs) : prR g ps = prR g qs := by
  induction h with
  | nil => rfl
  | cons x _ ih => show g x * _ = g x * _; rw [ih]
  | swap x y _ => show g y * (g x * _) = g x * (g y * _); rw [Int.mul_left_comm]
  | trans _ _ h1 h2 => exact h1.trans h2
theorem foldl_prR (g : Nat × Nat → Int) : ∀ (ps : List (Nat × Nat)) (z : Int), ps.foldl (fun z p => z * g p) z = z * prR g ps
  | [], z => by simp [prR]
  | p :: ps, z => by
    rw [List.foldl_cons, foldl_prR g ps]
    show z * g p * _ = z * (g p * _)
    rw [Int.mul_assoc]
theorem prA_perm (W : Nat → Int) {ps qs : List (Nat × Nat)} (h : ps.Perm qs) : prA W ps = prA W qs := by
  unfold prA
  rw [foldl_prR (fun p => W (31 + 2 * (4 * p.1 + p.2))), foldl_prR (fun p => W (31 + 2 * (4 * p.1 + p.2))), prR_perm h]
theorem prB_perm (W : Nat → Int) {ps qs : List (Nat × Nat)} (h : ps.Perm qs) : prB W ps = prB W qs := by
  unfold prB
  rw [foldl_prR (fun p => W (32 + 2 * (4 * p.1 + p.2))), foldl_prR (fun p => W (32 + 2 * (4 * p.1 + p.2))), prR_perm h]
def sameR : List (Int × List (Nat × Nat)) → List (Int × List (Nat × Nat)) → Bool
  | [], [] => true
  | p :: ps, q :: qs => p.1 == q.1 && p.2.isPerm q.2 && sameR ps qs
  | _, _ => false
theorem sameR_fold (W : Nat → Int) : ∀ (ps qs : List (Int × List (Nat × Nat))) (z : Int × Int), sameR ps qs = true → ps.foldl (rst W) z = qs.foldl (rst W) z
  | [], [], _, _ => rfl
  | p :: ps, q :: qs, z, h => by
    simp only [sameR, Bool.and_eq_true, beq_iff_eq] at h
    have hp : p.2.Perm q.2 := List.isPerm_iff.mp h.1.2
    have e : rst W z p = rst W z q := by
      unfold rst
      rw [prA_perm W hp, prB_perm W hp, h.1.1]
    rw [List.foldl_cons, List.foldl_cons, e]
    exact sameR_fold W ps qs _ h.2
  | [], _ :: _, _, h => by cases h
  | _ :: _, [], _, h => by cases h
theorem same_rings : sameR ((preC 5).filterMap shC) (((List.range 4310).map (fun t => t + 12)).filterMap shD) = true := by decide +kernel
theorem rC_rM (W : Nat → Int) : rC W (preC 5) = rM W 4310 := sameR_fold W _ _ _ same_rings
theorem e_rings (ha : R32 a) : EqA E l vi qX11_rings qX12_rings [vi a] :=
  eqW (aRings a) (fun W => W) (k_rings ha) (fun M W p i => (m_rings ha M W p i).mono (fun r M' h => by
    have e : aRings a W = aRingM a W := by unfold aRings aRingM; rw [rC_rM]
    rw [e]
    exact h) (Nat.le_refl _)) (fun _ h => h)
end
