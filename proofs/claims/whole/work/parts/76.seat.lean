/-! the seating: Groups -/
def F6 (M M' : MM) : Prop := ∀ k p, rg k p ≠ 6 → M' k p = M k p
theorem F6.rf {M : MM} : F6 M M := fun _ _ _ => rfl
theorem F6.tr {M M1 M2 : MM} (h : F6 M M1) (h2 : F6 M1 M2) : F6 M M2 := fun k p a => (h2 k p a).trans (h k p a)
theorem rg_6 {k p : Nat} (h : 39 ≤ k ∧ k ≤ 43) : rg k p = 6 := by
  unfold rg
  rw [if_neg (by omega), if_neg (by omega), if_neg (by omega), if_neg (by omega), if_neg (by omega), if_pos h]
theorem F6.put {M M1 : MM} {k j : Nat} {x : Int} (h : F6 M M1) (hk : 39 ≤ k ∧ k ≤ 43) : F6 M (up M1 k j x) := by
  intro k' j' a
  rw [up_ne (fun e => by obtain ⟨e1, e2⟩ := e; subst e1; subst e2; exact a (rg_6 hk))]
  exact h k' j' a
theorem F6.cp {M M1 : MM} {k0 sp k1 dp n : Nat} (h : F6 M M1) (hk : 39 ≤ k1 ∧ k1 ≤ 43) : F6 M (cpM M1 k0 sp k1 dp n) := by
  intro k p a
  unfold cpM
  rw [if_neg (fun e => by obtain ⟨e1, e2⟩ := e; subst e1; exact a (rg_6 hk))]
  exact h k p a
/-- what the best so far is kept as -/
def RBc (M : MM) (n : Nat) (z : ZZ) : Prop := match z with
  | none => M 39 4 = -1
  | some q => M 39 4 = (q.2.1 : Nat) ∧ M 39 8 = q.1 ∧ ∀ j, j < n → M 43 j = (ro q.2.2 j : Nat)
def GS (M : MM) (n lim : Nat) (wt : Nat → Int) (p : List Nat) (z : ZZ) : Prop := M 39 7 = n ∧ M 39 5 = lim ∧ (∀ s, s < 256 → M 40 s = wt s) ∧ (∀ g, g < 8 → M 41 g = (so p g p.length : Nat)) ∧ (∀ j, j < p.length → M 42 j = (ro p j : Nat)) ∧ RBc M n z
theorem RBc.of {M M' : MM} {n : Nat} {z : ZZ} (h : RBc M n z) (h4 : M' 39 4 = M 39 4) (h8 : M' 39 8 = M 39 8) (hr : ∀ j, j < n → M' 43 j = M 43 j) : RBc M' n z := by
  unfold RBc at *
  cases z with
  | none => exact h4.trans h
  | some q => exact ⟨h4.trans h.1, h8.trans h.2.1, fun j hj => (hr j hj).trans (h.2.2 j hj)⟩
section
variable {E : FX} {l : Launch} {M : MM}
theorem c_keep {n lim : Nat} {wt : Nat → Int} {p : List Nat} {z : ZZ} (hn : n ≤ 8) (hw : wB wt) (hp : p.length = n) (hu : uf p n ≤ 8) (hm : mayB lim n p = true) (hz : zB z) (h : GS M n lim wt p z) : Con E l 3 qX4_keepIfBetter [vr 39, vi (uf p n : Nat), vj (val wt p n)] M (fun r M' => r = none ∧ GS M' n lim wt p (stp wt lim n z p) ∧ F6 M M') := by
  obtain ⟨h1, h2, h3, h4, h5, h6⟩ := h
  have hv := val_b (r := p) hw hn hu
  have take : bet z (val wt p n) (uf p n) = true → ∀ M9, M9 = up M 39 8 (val wt p n) → ∀ M11, M11 = up M9 39 4 (uf p n : Nat) → Con E l 2 qX7_fill [vr 43, vr 42] M11 (fun r M13 => r = none ∧ ((none : Option AV) = none ∧ GS M13 n lim wt p (stp wt lim n z p) ∧ F6 M M13)) := by
    intro hb M9 h9 M11 h11
    refine (c_fill (n := 8) rfl rfl).fn ⟨rfl, rfl, ?_, ?_⟩
    · have e39 : ∀ j, j ≠ 8 → j ≠ 4 → cpM M11 42 0 43 0 8 39 j = M 39 j := fun j a b => by
        unfold cpM
        rw [if_neg (by omega), h11, h9, up_ne (by omega), up_ne (by omega)]
      have eo : ∀ k j, k ≠ 39 → k ≠ 43 → cpM M11 42 0 43 0 8 k j = M k j := fun k j a b => by
        unfold cpM
        rw [if_neg (by omega), h11, h9, up_ne (by omega), up_ne (by omega)]
      have es : stp wt lim n z p = some (val wt p n, uf p n, p) := by
        unfold stp
        rw [if_pos ⟨hm, hb⟩]
      rw [es]
      refine ⟨(e39 7 (by decide) (by decide)).trans h1, (e39 5 (by decide) (by decide)).trans h2, fun s hs => (eo 40 s (by decide) (by decide)).trans (h3 s hs), fun g hg => (eo 41 g (by decide) (by decide)).trans (h4 g hg), fun j hj => (eo 42 j (by decide) (by decide)).trans (h5 j hj), ?_, ?_, fun j hj => ?_⟩
      · unfold cpM
        rw [if_neg (by omega), h11, up_eq]
      · unfold cpM
        rw [if_neg (by omega), h11, up_ne (by omega), h9, up_eq]
      · unfold cpM
        rw [if_pos (by omega), h11, h9, up_ne (by omega), up_ne (by omega), show 0 + (j - 0) = j by omega]
        exact h5 j (by omega)
    · rw [h11, h9]
      exact ((F6.rf.put (by decide)).put (by decide)).cp (by decide)
  have skip : ¬ bet z (val wt p n) (uf p n) = true → (none : Option AV) = none ∧ GS M n lim wt p (stp wt lim n z p) ∧ F6 M M := by
    intro hb
    have es : stp wt lim n z p = z := by
      unfold stp
      rw [if_neg (fun q => hb q.2)]
    rw [es]
    exact ⟨rfl, ⟨h1, h2, h3, h4, h5, h6⟩, F6.rf⟩
  refine RX4_keepIfBetter (D := 2) ?_
  unfold VX4_keepIfBetter_0
  try unfold VX4_keepIfBetter_54
  cases z with
  | none =>
    have h6' : M 39 4 = -1 := h6
    rw [h6']
    exact ⟨by decide, fun _ => take rfl, fun q => absurd (by decide) q⟩
  | some q =>
    obtain ⟨a1, a2, a3⟩ := h6
    obtain ⟨z1, z2⟩ := hz q rfl
    rw [a1, a2]
    have hbt : bet (some q) (val wt p n) (uf p n) = true ↔ (q.1 < val wt p n ∨ (q.1 = val wt p n ∧ q.2.1 < uf p n)) := by
      unfold bet
      exact decide_eq_true_iff
    refine ⟨by unfold R32; omega, fun c => by omega, fun _ => ⟨by unfold R64; omega, by unfold R64; omega, fun c => take (hbt.mpr (Or.inl c)), fun c => ⟨by unfold R64; omega, by unfold R64; omega, fun c2 => skip (fun w => ?_), fun c2 => ⟨by unfold R32; omega, by unfold R32; omega, fun c3 => skip (fun w => ?_), fun c3 => take (hbt.mpr (Or.inr ⟨by omega, by omega⟩))⟩⟩⟩⟩
    · rcases hbt.mp w with w | w <;> omega
    · rcases hbt.mp w with w | w <;> omega
theorem so_b8 (p : List Nat) (g : Nat) (h : p.length < 8) : so p g p.length < 2 ^ p.length ∧ so p g p.length ||| 2 ^ p.length < 256 := by
  have h1 := so_lt p g p.length
  have h2 : 2 ^ (p.length + 1) ≤ 2 ^ 8 := Nat.pow_le_pow_right (by omega) (by omega)
  have h3 : 2 ^ p.length < 2 ^ (p.length + 1) := Nat.pow_lt_pow_right (by omega) (by omega)
  exact ⟨h1, Nat.lt_of_lt_of_le (Nat.or_lt_two_pow (by omega) h3) h2⟩
theorem c_seat {n lim : Nat} {wt : Nat → Int} (hn : n ≤ 8) (hlim : lim ≤ 8) (h0 : wt 0 = 0) (hw : wB wt) : ∀ (k : Nat) (p : List Nat) (z : ZZ) (M : MM), p.length + k = n → uf p p.length ≤ p.length → (∀ g, g < 8 → bcn 8 (so p g p.length) ≤ lim) → zB z → GS M n lim wt p z → Con E l (4 + k) qX4_seat [vr 39, vi (p.length : Nat), vi (uf p p.length : Nat), vj (val wt p p.length)] M (fun r M' => r = none ∧ GS M' n lim wt p ((rf k (uf p p.length)).foldl (fun z s => stp wt lim n z (p ++ s)) z) ∧ zB ((rf k (uf p p.length)).foldl (fun z s => stp wt lim n z (p ++ s)) z) ∧ F6 M M') := by
  intro k
  induction k with
  | zero =>
    intro p z M hp hu hb hz h
    have hpn : p.length = n := by omega
    refine RX4_seat (D := 3) (by decide) (fun _ _ _ _ _ => False) (fun _ _ _ _ _ => 0) ?_ (fun _ _ _ _ _ q => q.elim)
    unfold VX4_seat_0
    rw [h.1]
    refine ⟨by unfold R32; omega, by unfold R32; omega, fun _ => ?_, fun c => by omega⟩
    have hm : mayB lim n p = true := by
      unfold mayB
      rw [decide_eq_true_iff]
      intro g hg
      rw [← hpn] at hg ⊢
      exact hb g (by omega)
    rw [hpn] at hu ⊢
    refine (c_keep hn hw hpn (by omega) hm hz h).mono ?_
    rintro _ M1 ⟨rfl, g1, g2⟩
    have e : (rf 0 (uf p n)).foldl (fun z s => stp wt lim n z (p ++ s)) z = stp wt lim n z p := by
      show stp wt lim n z (p ++ []) = _
      rw [List.append_nil]
    rw [e]
    exact ⟨rfl, rfl, g1, stp_zB hw hn (by omega) hz, g2⟩
  | succ k ih =>
    intro p z M hp hu hb hz h
    have hp8 : p.length < 8 := by omega
    have hD1 : 1 ≤ 4 + k := by omega
    refine RX4_seat (D := 4 + k) (by omega)
      (fun M' x1 x2 x3 x5 => ∃ g : Nat, x1 = (p.length : Nat) ∧ x2 = (uf p p.length : Nat) ∧ x3 = val wt p p.length ∧ x5 = g ∧ g ≤ uf p p.length + 1 ∧ GS M' n lim wt p ((catU (fun g => (rf k (max (uf p p.length) (g + 1))).map (fun s => g :: s)) g).foldl (fun z s => stp wt lim n z (p ++ s)) z) ∧ zB ((catU (fun g => (rf k (max (uf p p.length) (g + 1))).map (fun s => g :: s)) g).foldl (fun z s => stp wt lim n z (p ++ s)) z) ∧ F6 M M')
      (fun _ _ _ _ x5 => (20 - x5).toNat) ?_ ?_
    · unfold VX4_seat_0
      try unfold VX4_seat_14
      rw [h.1]
      refine ⟨by unfold R32; omega, by unfold R32; omega, fun c => by omega, fun _ => ⟨by unfold R32; omega, fun _ => ⟨0, rfl, rfl, rfl, rfl, by omega, h, hz, F6.rf⟩, fun c => by omega⟩⟩
    · rintro M' _ _ _ _ ⟨g, rfl, rfl, rfl, rfl, hg, hG, hzz, hF⟩
      unfold VX4_seat_24
      try unfold VX4_seat_140
      try unfold VX4_seat_146
      refine ⟨by unfold R32; omega, by unfold R32; omega, fun c => ?_, fun c => ⟨by unfold R32; omega, fun c2 => by omega, fun _ => (c_at_in (n := 8) rfl (by omega) (by omega)).fn (hD := hD1) ⟨_, rfl, fun y20 h20 => ?_⟩⟩⟩
      · rw [show g = uf p p.length + 1 by omega, ← rf_s] at hG hzz
        exact ⟨rfl, hG, hzz, hF⟩
      · obtain ⟨q1, q2, q3, q4, q5, q6⟩ := id hG
        obtain ⟨s1, s2⟩ := so_b8 p g hp8
        have h2p : 2 ^ p.length ≤ 2 ^ 8 := Nat.pow_le_pow_right (by omega) (by omega)
        rw [Int.toNat_natCast, q4 g (by omega), ishl_1 p.length (by omega), ior_nat (by omega) (by omega)] at h20
        rw [Int.toNat_natCast, q4 g (by omega)]
        subst h20
        have hbc := bcn_le (so p g p.length ||| 2 ^ p.length) 8
        refine (c_bitCount s2).fn (hD := hD1) ⟨_, rfl, by unfold R32; omega, ?_⟩
        rw [q2]
        have efold : (catU (fun g => (rf k (max (uf p p.length) (g + 1))).map (fun s => g :: s)) (g + 1)).foldl (fun z s => stp wt lim n z (p ++ s)) z = (rf k (max (uf p p.length) (g + 1))).foldl (fun z s => stp wt lim n z (p ++ [g] ++ s)) ((catU (fun g => (rf k (max (uf p p.length) (g + 1))).map (fun s => g :: s)) g).foldl (fun z s => stp wt lim n z (p ++ s)) z) := by
          rw [catU_s, List.foldl_append, List.foldl_map]
          simp only [List.append_assoc, List.cons_append, List.nil_append]
        refine ⟨by unfold R32; omega, fun c3 y27 h27 => ⟨⟨g + 1, rfl, rfl, rfl, by omega, by omega, ?_, ?_, hF⟩, by omega⟩, fun c3 => ?_⟩
        · rw [efold, fold_skip _ (fun s _ => by rw [List.append_assoc, List.cons_append, List.nil_append]; exact may_no (by omega) (by omega))]
          exact hG
        · rw [efold, fold_skip _ (fun s _ => by rw [List.append_assoc, List.cons_append, List.nil_append]; exact may_no (by omega) (by omega))]
          exact hzz
        · have hlen : (p ++ [g]).length = p.length + 1 := by rw [List.length_append]; rfl
          have huf := uf_ext p g
          refine (c_put (n := 8) rfl (by omega) (by omega)).fn (hD := hD1) ⟨rfl, (c_put (n := 8) rfl (by omega) (by omega)).fn (hD := hD1) ⟨rfl, (c_atj_in (n := 256) rfl (by omega) (by omega)).fn (hD := hD1) ⟨_, rfl, (c_atj_in (n := 256) rfl (by omega) (by omega)).fn (hD := hD1) ⟨_, rfl, fun y39 h39 => ⟨by unfold R32; omega, by unfold R32; omega, fun y41 h41 => ?_⟩⟩⟩⟩⟩
          simp only [Int.toNat_natCast] at h39
          rw [Int.toNat_natCast p.length, Int.toNat_natCast g]
          rw [up_ne (by omega), up_ne (by omega), up_ne (by omega), up_ne (by omega), q3 _ s2, q3 _ (by omega)] at h39
          have hval := val_ext (wt := wt) (p := p) (g := g) h0 (by omega)
          have ih2 := ih (p ++ [g]) ((catU (fun g => (rf k (max (uf p p.length) (g + 1))).map (fun s => g :: s)) g).foldl (fun z s => stp wt lim n z (p ++ s)) z) (up (up M' 41 g ((so p g p.length ||| 2 ^ p.length : Nat) : Int)) 42 p.length (g : Nat)) (by omega) (by rw [hlen, huf]; omega) (fun g' hg' => ?_) hzz ?_
          · rw [hlen, huf, hval] at ih2
            rw [h39, show (p.length : Int) + 1 = ((p.length + 1 : Nat) : Int) by omega, show y41 = ((max (uf p p.length) (g + 1) : Nat) : Int) by rw [h41]; split <;> omega]
            refine ih2.mono (hD := Nat.le_refl _) ?_
            rintro _ M43 ⟨rfl, g1, g2, g3⟩
            obtain ⟨r1, r2, r3, r4, r5, r6⟩ := g1
            refine ⟨rfl, (c_put (n := 8) rfl (by omega) (by omega)).fn (hD := hD1) ⟨rfl, fun y11 h11 => ⟨⟨g + 1, rfl, rfl, rfl, by omega, by omega, ?_, ?_, ?_⟩, by omega⟩⟩⟩
            · rw [efold]
              refine ⟨by rw [up_ne (by omega)]; exact r1, by rw [up_ne (by omega)]; exact r2, fun s hs => by rw [up_ne (by omega)]; exact r3 s hs, fun g' hg' => ?_, fun j hj => ?_, r6.of (up_ne (by omega)) (up_ne (by omega)) (fun j _ => up_ne (by omega))⟩
              · rw [Int.toNat_natCast]
                by_cases d : g' = g
                · subst d
                  rw [up_eq]
                · rw [up_ne (by omega), r4 g' hg', hlen, so_ext, if_neg (fun q => d q.symm)]
              · rw [up_ne (by omega), r5 j (by omega), ro_app p [g] j hj]
            · rw [efold]
              exact g2
            · exact (((hF.put (by decide)).put (by decide)).tr g3).put (by decide)
          · rw [hlen, so_ext]
            by_cases d : g = g'
            · rw [if_pos d, ← d]; omega
            · rw [if_neg d]; exact hb g' hg'
          · refine ⟨by rw [up_ne (by omega), up_ne (by omega)]; exact q1, by rw [up_ne (by omega), up_ne (by omega)]; exact q2, fun s hs => by rw [up_ne (by omega), up_ne (by omega)]; exact q3 s hs, fun g' hg' => ?_, fun j hj => ?_, q6.of (by rw [up_ne (by omega), up_ne (by omega)]) (by rw [up_ne (by omega), up_ne (by omega)]) (fun j _ => by rw [up_ne (by omega), up_ne (by omega)])⟩
            · rw [up_ne (by omega), hlen, so_ext]
              by_cases d : g = g'
              · subst d
                rw [if_pos rfl, up_eq]
              · rw [if_neg d, up_ne (by omega)]
                exact q4 g' hg'
            · rw [hlen] at hj
              by_cases d : j = p.length
              · subst d
                rw [up_eq, ro_at]
              · rw [up_ne (by omega), up_ne (by omega), ro_app p [g] j (by omega)]
                exact q5 j (by omega)
end
