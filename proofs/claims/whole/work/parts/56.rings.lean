/-! rings -/
def isR (code size : Nat) : Nat → Nat → Nat → Bool
  | 0, _, _ => true
  | n + 1, seen, i => if bt seen (dg code size i) = 1 then false else if dg code size i < dg code size 0 then false else isR code size n (seen ||| 2 ^ dg code size i) (i + 1)
theorem isR_s (code size n seen i : Nat) : isR code size (n + 1) seen i = if bt seen (dg code size i) = 1 then false else if dg code size i < dg code size 0 then false else isR code size n (seen ||| 2 ^ dg code size i) (i + 1) := rfl
def prv (code size k : Nat) : Nat := if k = 0 then dg code size (size - 1) else dg code size (k - 1)
def pcs (code size k : Nat) : List (Nat × Nat) := (List.range k).map (fun i => (prv code size i, dg code size i))
theorem pcs_s (code size k : Nat) : pcs code size (k + 1) = pcs code size k ++ [(prv code size k, dg code size k)] := by simp [pcs, List.range_succ]
def nmR (code size : Nat) : Nat → Nat
  | 0 => 0
  | k + 1 => 10 * nmR code size k + dg code size k + 1
/-- counts those that gain, keeps the first -/
def rst (W : Nat → Int) (z : Int × Int) (q : Int × List (Nat × Nat)) : Int × Int := if prB W q.2 < prA W q.2 then (z.1 + 1, if z.1 = 0 then q.1 else z.2) else z
def shC (q : Nat × Nat) : Option (Int × List (Nat × Nat)) := if isR q.2 q.1 q.1 0 0 = true then some ((nmR q.2 q.1 q.1 : Nat), pcs q.2 q.1 q.1) else none
def preC (s : Nat) : List (Nat × Nat) := (List.range (s - 2)).flatMap (fun t => (List.range (2 ^ (2 * (t + 2)))).map (fun c => (t + 2, c)))
def rC (W : Nat → Int) (ls : List (Nat × Nat)) : Int × Int := (ls.filterMap shC).foldl (rst W) (0, -4)
theorem preC_s (s : Nat) (h : 2 ≤ s) : preC (s + 1) = preC s ++ (List.range (2 ^ (2 * s))).map (fun c => (s, c)) := by
  unfold preC
  rw [show s + 1 - 2 = (s - 2) + 1 by omega, List.range_succ, List.flatMap_append]
  congr 1
  simp only [List.flatMap_cons, List.flatMap_nil, List.append_nil]
  rw [show s - 2 + 2 = s by omega]
theorem rC_app (W : Nat → Int) (ls : List (Nat × Nat)) (q : Nat × Nat) : rC W (ls ++ [q]) = match shC q with | none => rC W ls | some x => rst W (rC W ls) x := by
  unfold rC
  rw [List.filterMap_append, List.foldl_append]
  cases h : shC q with
  | none => simp [h]
  | some x => simp [h]
theorem rst_b (W : Nat → Int) (z : Int × Int) (q : Int × List (Nat × Nat)) : z.1 ≤ (rst W z q).1 ∧ (rst W z q).1 ≤ z.1 + 1 := by
  unfold rst
  split
  · show z.1 ≤ z.1 + 1 ∧ z.1 + 1 ≤ z.1 + 1; omega
  · omega
theorem fold_b (W : Nat → Int) : ∀ (ls : List (Int × List (Nat × Nat))) (z : Int × Int), z.1 ≤ (ls.foldl (rst W) z).1 ∧ (ls.foldl (rst W) z).1 ≤ z.1 + ls.length
  | [], z => by simp
  | q :: ls, z => by
    have h1 := fold_b W ls (rst W z q)
    have h2 := rst_b W z q
    simp only [List.foldl_cons, List.length_cons]
    omega
theorem rC_b (W : Nat → Int) (ls : List (Nat × Nat)) : 0 ≤ (rC W ls).1 ∧ (rC W ls).1 ≤ ls.length := by
  have h1 := fold_b W (ls.filterMap shC) (0, -4)
  have h2 : (ls.filterMap shC).length ≤ ls.length := List.length_filterMap_le _ _
  unfold rC
  omega
theorem preC_len : ∀ s, s < 6 → (preC s).length ≤ 336 := by decide +kernel
section
variable {E : FX} {l : Launch} {M : MM} {W : Nat → Int} {a b : Int}
theorem or16 {s d : Nat} (hs : s < 16) (hd : d < 4) : s ||| 2 ^ d < 16 := by
  have h : 2 ^ d < 2 ^ 4 := Nat.pow_lt_pow_right (by omega) hd
  exact Nat.or_lt_two_pow (n := 4) hs h
theorem c_isRing {code size : Nat} (hc : code < 1024) (hs : 1 ≤ size ∧ size ≤ 4) : Con E l 2 qX3_isRing [vr 11, vi code, vi size] M (fun r M' => r = some (vi (if isR code size size 0 0 = true then 1 else 0)) ∧ M' = M) := by
  refine RX3_isRing (fun M' x1 x2 x3 x4 => M' = M ∧ x1 = code ∧ x2 = size ∧ ∃ seen i : Nat, x3 = seen ∧ x4 = i ∧ i ≤ size ∧ seen < 16 ∧ isR code size (size - i) seen i = isR code size size 0 0) (fun _ _ _ _ x4 => (5 - x4).toNat) ?_ ?_
  · exact ⟨rfl, rfl, rfl, 0, 0, rfl, rfl, by omega, by omega, rfl⟩
  · rintro M' _ _ _ _ ⟨rfl, rfl, rfl, seen, i, rfl, rfl, hi, hse, hr⟩
    unfold VX3_isRing_5
    try unfold VX3_isRing_41
    refine ⟨by unfold R32; omega, by unfold R32; omega, fun c => ⟨?_, rfl⟩, fun c => (c_digit (by omega) (by omega) (by omega)).fn ⟨_, rfl, ?_⟩⟩
    · rw [show size - i = 0 by omega] at hr
      rw [← hr]
      rfl
    · have hd := dg_lt code size i
      have hd0 := dg_lt code size 0
      have hb := bt_01 seen (dg code size i)
      rw [bit_nat (by omega) (by omega)]
      rw [show size - i = (size - (i + 1)) + 1 by omega] at hr
      refine ⟨by unfold R32; omega, fun c2 => ⟨?_, rfl⟩, fun c2 => (c_digit (i := 0) (by omega) (by omega) (by omega)).fn ⟨_, rfl, by unfold R32; omega, by unfold R32; omega, fun c3 y13 h13 y15 h15 => ⟨⟨rfl, rfl, rfl, seen ||| 2 ^ dg code size i, i + 1, ?_, by omega, by omega, or16 hse hd, ?_⟩, by omega⟩, fun c3 => ⟨?_, rfl⟩⟩⟩
      · rw [← hr]
        rw [isR_s, if_pos (show bt seen (dg code size i) = 1 by omega)]
        rfl
      · rw [h13, ishl_1 _ (by omega), ior_nat (by omega) (by have := or16 (s := 0) (d := dg code size i) (by omega) hd; rw [Nat.zero_or] at this; omega)]
      · rw [← hr]
        rw [isR_s, if_neg (show ¬ bt seen (dg code size i) = 1 by omega), if_neg (show ¬ dg code size i < dg code size 0 by omega)]
      · rw [← hr]
        rw [isR_s, if_neg (show ¬ bt seen (dg code size i) = 1 by omega), if_pos (show dg code size i < dg code size 0 by omega)]
        rfl
theorem prv_lt (code size k : Nat) : prv code size k < 4 := by
  unfold prv
  split <;> exact dg_lt _ _ _
theorem pcs_ok (code size k : Nat) : (pcs code size k).length = k ∧ ∀ p ∈ pcs code size k, p.1 < 4 ∧ p.2 < 4 := by
  refine ⟨by simp [pcs], fun p hp => ?_⟩
  simp only [pcs, List.mem_map] at hp
  obtain ⟨i, -, rfl⟩ := hp
  exact ⟨prv_lt _ _ _, dg_lt _ _ _⟩
theorem c_gainsC {code size : Nat} (hP : PC M W) (hW : IW W) (hc : code < 1024) (hs : 1 ≤ size ∧ size ≤ 4) : Con E l 2 qX3_gains [vr 11, vi code, vi size] M (fun r M' => r = some (vi (b01 (prB W (pcs code size size) < prA W (pcs code size size)))) ∧ M' = M) := by
  refine RX3_gains (fun M' x1 x2 x3 x5 x7 x8 => M' = M ∧ x1 = code ∧ x2 = size ∧ ∃ k : Nat, x3 = prA W (pcs code size k) ∧ x5 = prB W (pcs code size k) ∧ x7 = (prv code size k : Nat) ∧ x8 = k ∧ k ≤ size) (fun _ _ _ _ _ _ x8 => (5 - x8).toNat) ?_ ?_
  · unfold VX3_gains_0
    rw [show (size : Int) - 1 = ((size - 1 : Nat) : Int) by omega]
    exact (c_digit (by omega) (by omega) (by omega)).fn ⟨_, rfl, rfl, rfl, rfl, 0, rfl, rfl, rfl, rfl, by omega⟩
  · rintro M' _ _ _ _ _ _ ⟨rfl, rfl, rfl, k, rfl, rfl, rfl, rfl, hk⟩
    obtain ⟨pl, pm⟩ := pcs_ok code size k
    have hb := prA_b hW k _ pl pm
    have h99 : (99 : Int) ^ k ≤ 99 ^ 4 := by
      rcases (show k = 0 ∨ k = 1 ∨ k = 2 ∨ k = 3 ∨ k = 4 by omega) with rfl | rfl | rfl | rfl | rfl <;> decide
    have h994 : (99 : Int) ^ 4 = 96059601 := by decide
    have hpv := prv_lt code size k
    unfold VX3_gains_18
    try unfold VX3_gains_93
    refine ⟨by unfold R32; omega, by unfold R32; omega, fun c => ⟨by unfold R64; omega, by unfold R64; omega, fun c2 => ⟨Or.inl rfl, ?_, rfl⟩, fun c2 => ⟨Or.inr rfl, ?_, rfl⟩⟩, fun c => (c_digit (by omega) (by omega) (by omega)).fn ⟨_, rfl, ?_⟩⟩
    · rw [show k = size by omega] at c2
      rw [b01, if_neg (by omega)]
    · rw [show k = size by omega] at c2
      rw [b01, if_pos (by omega)]
    · have hd := dg_lt code size k
      have e : (4 * (prv code size k : Nat) + (dg code size k : Nat) : Int) = ((4 * prv code size k + dg code size k : Nat) : Int) := by omega
      rw [e]
      have i1 := hW.ra (j := 4 * prv code size k + dg code size k) (by omega)
      have i2 := hW.rb (j := 4 * prv code size k + dg code size k) (by omega)
      refine (c_at_in (n := 16) rfl (by omega) (by omega)).fn ⟨_, rfl, ?_⟩
      rw [Int.toNat_natCast, hP.ra (by omega)]
      refine ⟨by unfold R32; omega, fun y14 h14 => (c_at_in (n := 16) rfl (by omega) (by omega)).fn ⟨_, rfl, ?_⟩⟩
      rw [Int.toNat_natCast, hP.rb (by omega)]
      refine ⟨by unfold R32; omega, fun y19 h19 y21 h21 => ⟨⟨rfl, rfl, rfl, k + 1, ?_, ?_, ?_, by omega, by omega⟩, by omega⟩⟩
      · rw [h14, pcs_s, prA_app]
      · rw [h19, pcs_s, prB_app]
      · unfold prv
        rw [if_neg (by omega), Nat.add_sub_cancel]
theorem c_named {code size : Nat} (hc : code < 1024) (hs : 1 ≤ size ∧ size ≤ 4) : Con E l 2 qX3_named [vr 11, vi code, vi size] M (fun r M' => r = some (vi (nmR code size size : Nat)) ∧ M' = M) := by
  refine RX3_named (fun M' x1 x2 x3 x4 => M' = M ∧ x1 = code ∧ x2 = size ∧ ∃ k : Nat, x3 = (nmR code size k : Nat) ∧ x4 = k ∧ k ≤ size) (fun _ _ _ _ x4 => (5 - x4).toNat) ?_ ?_
  · exact ⟨rfl, rfl, rfl, 0, rfl, rfl, by omega⟩
  · rintro M' _ _ _ _ ⟨rfl, rfl, rfl, k, rfl, rfl, hk⟩
    unfold VX3_named_5
    refine ⟨by unfold R32; omega, by unfold R32; omega, fun c => ⟨by rw [show k = size by omega], rfl⟩, fun c => (c_digit (by omega) (by omega) (by omega)).fn ⟨_, rfl, fun y6 h6 y8 h8 => ⟨⟨rfl, rfl, rfl, k + 1, ?_, by omega, by omega⟩, by omega⟩⟩⟩
    rw [h6]
    show _ = ((10 * nmR code size k + dg code size k + 1 : Nat) : Int)
    omega
def aRings (a : Int) (W : Nat → Int) : Int := if 0 ≤ a ∧ a ≤ 1 then (if a = 0 then (rC W (preC 5)).1 else (rC W (preC 5)).2) else -1
theorem k_rings (ha : R32 a) : ∀ M W, PC M W → IW W → Con E l 20 qX11_rings [vr 0, vi a] M (fun r M' => r = some (vi (aRings a W)) ∧ PC M' W ∧ Kp 1 M M') := by
  intro M W hP hW
  refine (RX11_rings (D := 4)
    (fun M' x1 x2 x3 x4 => M' = M ∧ x1 = a ∧ (0 ≤ a ∧ a ≤ 1) ∧ ∃ s : Nat, x4 = s ∧ 2 ≤ s ∧ s ≤ 5 ∧ x2 = (rC W (preC s)).1 ∧ x3 = (rC W (preC s)).2)
    (fun _ _ _ _ x4 => (5 - x4).toNat * 2000 + 1999)
    (fun M' x1 x2 x3 x4 x5 => M' = M ∧ x1 = a ∧ (0 ≤ a ∧ a ≤ 1) ∧ ∃ s c : Nat, x4 = s ∧ 2 ≤ s ∧ s ≤ 4 ∧ x5 = c ∧ c ≤ 2 ^ (2 * s) ∧ x2 = (rC W (preC s ++ (List.range c).map (fun c => (s, c)))).1 ∧ x3 = (rC W (preC s ++ (List.range c).map (fun c => (s, c)))).2)
    (fun _ _ _ _ x4 x5 => (5 - x4).toNat * 2000 + (1000 - x5).toNat) ?_ ?_ ?_).up (by decide)
  · unfold VX11_rings_0
    refine (c_within ha (by decide) (by decide)).fn ⟨_, rfl, b01_R, fun c => ?_, fun c => ?_⟩
    · rw [b01_n0] at c
      exact ⟨rfl, rfl, c, 2, rfl, by omega, by omega, rfl, rfl⟩
    · rw [b01_0] at c
      have eA : aRings a W = -1 := if_neg c
      rw [eA]
      exact ⟨rfl, hP, Kp.rf⟩
  · rintro M' a _ _ _ ⟨rfl, rfl, hr, s, rfl, hs2, hs5, rfl, rfl⟩
    unfold VX11_rings_19
    try unfold VX11_rings_120
    refine ⟨by unfold R32; omega, fun c => ⟨ha, fun c2 => ⟨?_, hP, Kp.rf⟩, fun c2 => ⟨?_, hP, Kp.rf⟩⟩, fun c => ⟨⟨rfl, rfl, hr, s, 0, rfl, hs2, by omega, rfl, Nat.zero_le _, ?_, ?_⟩, by omega⟩⟩
    · rw [show s = 5 by omega]
      exact congrArg (fun z => some (vi z)) ((if_pos hr).trans (if_neg c2)).symm
    · rw [show s = 5 by omega]
      exact congrArg (fun z => some (vi z)) ((if_pos hr).trans (if_pos c2)).symm
    · simp
    · simp
  · rintro M' a _ _ _ _ ⟨rfl, rfl, hr, s, c, rfl, hs2, hs4, rfl, hc, rfl, rfl⟩
    have hp : 2 ^ (2 * s) ≤ 256 := by
      have : 2 ^ (2 * s) ≤ 2 ^ 8 := Nat.pow_le_pow_right (by omega) (by omega)
      omega
    have hp0 : (0 : Int) ≤ ((2 ^ (2 * s) : Nat) : Int) := Int.natCast_nonneg _
    have hl := preC_len s (by omega)
    have hb := rC_b W (preC s ++ (List.range c).map (fun c => (s, c)))
    rw [List.length_append, List.length_map, List.length_range] at hb
    have es : (List.range (c + 1)).map (fun c => (s, c)) = (List.range c).map (fun c => (s, c)) ++ [(s, c)] := by simp [List.range_succ]
    unfold VX11_rings_28
    try unfold VX11_rings_95
    try unfold VX11_rings_99
    rw [show 2 * (s : Int) = ((2 * s : Nat) : Int) by omega, ishl_1 (2 * s) (by omega)]
    have nx : ∀ z : Int × Int, rC W (preC s ++ (List.range (c + 1)).map (fun c => (s, c))) = z → ¬ (((2 ^ (2 * s) : Nat) : Int) ≤ c) → ∀ y : Int, y = (c : Int) + 1 → (M' = M' ∧ a = a ∧ (0 ≤ a ∧ a ≤ 1) ∧ ∃ s' c' : Nat, (s : Int) = s' ∧ 2 ≤ s' ∧ s' ≤ 4 ∧ y = c' ∧ c' ≤ 2 ^ (2 * s') ∧ z.1 = (rC W (preC s' ++ (List.range c').map (fun c => (s', c)))).1 ∧ z.2 = (rC W (preC s' ++ (List.range c').map (fun c => (s', c)))).2) ∧ (5 - (s : Int)).toNat * 2000 + (1000 - y).toNat < (5 - (s : Int)).toNat * 2000 + (1000 - (c : Int)).toNat := by
      intro z hz hcc y hy
      refine ⟨⟨rfl, rfl, hr, s, c + 1, rfl, hs2, hs4, by omega, by omega, by rw [hz], by rw [hz]⟩, by omega⟩
    rw [es, ← List.append_assoc, rC_app] at nx
    refine ⟨by unfold R32; omega, by unfold R32; omega, fun c1 y16 h16 => ⟨⟨rfl, rfl, hr, s + 1, by omega, by omega, by omega, ?_, ?_⟩, by omega⟩, fun c1 => (c_isRing (by omega) (by omega)).fn ⟨_, rfl, ?_⟩⟩
    · rw [preC_s s hs2, show c = 2 ^ (2 * s) by omega]
    · rw [preC_s s hs2, show c = 2 ^ (2 * s) by omega]
    · by_cases hring : isR c s s 0 0 = true
      · rw [if_pos hring]
        have e1 : shC (s, c) = some (((nmR c s s : Nat) : Int), pcs c s s) := if_pos hring
        rw [e1] at nx
        refine ⟨by decide, fun q => absurd q (by decide), fun _ => (c_gainsC hP hW (by omega) (by omega)).fn ⟨_, rfl, b01_R, fun g y30 h30 => ?_, fun g => ⟨by unfold R32; omega, fun g2 y12 h12 y10 h10 => ?_, fun g2 => (c_named (by omega) (by omega)).fn ⟨_, rfl, fun y12 h12 y10 h10 => ?_⟩⟩⟩⟩
        · rw [b01_0] at g
          exact nx _ (by show rst W _ _ = _; unfold rst; rw [if_neg g]) c1 y30 h30
        · rw [b01_n0] at g
          rw [h12]
          exact nx (_, _) (by show rst W _ _ = _; unfold rst; rw [if_pos g, if_neg g2]) c1 y10 h10
        · rw [b01_n0] at g
          rw [h12]
          exact nx (_, _) (by show rst W _ _ = _; unfold rst; rw [if_pos g, if_pos g2]) c1 y10 h10
      · rw [if_neg hring]
        have e1 : shC (s, c) = none := if_neg hring
        rw [e1] at nx
        exact ⟨by decide, fun _ y23 h23 => nx _ rfl c1 y23 h23, fun q => absurd rfl q⟩
end
