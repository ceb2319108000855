/-- what the class answers of a tape, and what it has read -/
def PRc (M0 : MM) (q : Option ((Nat → Int) × Nat × Nat) × Nat) (r : Option AV) (M' : MM) : Prop := Eqv M0 M' ∧ match q with
  | (none, a) => r = some (vi (-20 - (a : Int)))
  | (some (ms, set, lw), _) => r = some (vi (bcn 3 set : Nat)) ∧ M' 25 4 = set ∧ M' 25 5 = lw ∧ ∀ j, j < 3 → M' 27 j = ms j
def PRm (M0 : MM) (q : Option ((Nat → Int) × Nat × Nat) × Nat) (r : Option AV) (M' : MM) : Prop := Eqv M0 M' ∧ match q with
  | (none, a) => r = some (vi (a : Int))
  | (some (ms, set, lw), _) => r = some (vi (-1)) ∧ M' 44 9 = set ∧ M' 44 10 = lw ∧ ∀ j, j < 3 → M' 48 j = ms j
section
variable {E : FX} {l : Launch} {M0 M : MM} {T : Nat → Int} {L : Nat}
theorem SC.cnt {a : Nat} {c lw : Int} {k : Nat} {ms : Nat → Int} (h : SC M0 M a c lw k ms) {x : Int} : SC M0 (up M 25 4 x) a x lw k ms :=
  ⟨h.1.put rfl, by rw [up_ne (by decide)]; exact h.2.1, up_eq, by rw [up_ne (by decide)]; exact h.2.2.2.1, fun j hj => by rw [up_ne (by omega)]; exact h.2.2.2.2 j hj⟩
theorem SC.law {a : Nat} {c lw : Int} {k : Nat} {ms : Nat → Int} (h : SC M0 M a c lw k ms) {x : Int} : SC M0 (up M 25 5 x) a c x k ms :=
  ⟨h.1.put rfl, by rw [up_ne (by decide)]; exact h.2.1, by rw [up_ne (by decide)]; exact h.2.2.1, up_eq, fun j hj => by rw [up_ne (by omega)]; exact h.2.2.2.2 j hj⟩
theorem cn_s2 {n a s : Nat} {t : Nat} (ht : tw T L a = t) (h3 : t < 3) (hb : bt s t = 0) : cn T L (n + 1) a s = cn T L n (skp T L a + 1) (s ||| 2 ^ t) := by
  rw [cn_s, ht]
  simp only [Int.toNat_natCast]
  rw [if_pos ⟨by omega, hb⟩]
theorem c_readCounting {a : Nat} {c lw : Int} {k : Nat} {ms : Nat → Int} (hT : TpC M0 T L) (hI : IT T L) (h : SC M0 M a c lw k ms) (ha : a < L) : Con E l 4 qX9_readCounting [vr 25] M (fun r M' => r = some (vi (b01 (2 ≤ bcn 3 (cn T L 3 (a + 1) 0).2))) ∧ SC M0 M' (cn T L 3 (a + 1) 0).1 (cn T L 3 (a + 1) 0).2 lw k ms) := by
  have hL := hI.1
  refine (RX9_readCounting (D := 3) (fun M' x1 x2 => ∃ b s n : Nat, x1 = s ∧ x2 = n ∧ SC M0 M' b c lw k ms ∧ b ≤ L ∧ s < 8 ∧ n ≤ 3 ∧ cn T L (3 - n) b s = cn T L 3 (a + 1) 0) (fun _ _ x2 => (4 - x2).toNat) ?_ ?_)
  · unfold VX9_readCounting_0
    rintro M1 rfl
    exact ⟨a + 1, 0, 0, rfl, rfl, h.at (by rw [h.2.1]; omega), by omega, by omega, by omega, rfl⟩
  · rintro M' _ _ ⟨b, s, n, rfl, rfl, hs, hb, hs8, hn, e⟩
    have fin : ∀ (J : MM → Int → Int → Prop) (M1 : MM) (b : Nat), SC M0 M1 b c lw k ms → (b, s) = cn T L 3 (a + 1) 0 → VX9_readCounting_70 E l 3 (fun r M' => r = some (vi (b01 (2 ≤ bcn 3 (cn T L 3 (a + 1) 0).2))) ∧ SC M0 M' (cn T L 3 (a + 1) 0).1 (cn T L 3 (a + 1) 0).2 lw k ms) J M1 s := by
      intro J M1 b hs1 e1
      rw [← e1]
      unfold VX9_readCounting_70
      try unfold VX9_readCounting_88
      rintro M3 rfl
      have e8 := (bcn_8 s hs8).2
      have hle := bcn_le s 8
      refine (c_bitCount (by omega)).fn ⟨_, rfl, by unfold R32; omega, fun c1 => ⟨Or.inl rfl, ?_, hs1.cnt⟩, fun c1 => ⟨Or.inr rfl, ?_, hs1.cnt⟩⟩
      · show _ = some (vi (b01 (2 ≤ bcn 3 s)))
        rw [b01, if_neg (by omega)]
      · show _ = some (vi (b01 (2 ≤ bcn 3 s)))
        rw [b01, if_pos (by omega)]
    have skb := skp_b (T := T) hb
    unfold VX9_readCounting_14
    refine ⟨by unfold R32; omega, fun c1 => ?_, fun c1 => ?_⟩
    · obtain rfl : n = 3 := by omega
      have := fin (fun _ _ _ => True) M' b hs e
      unfold VX9_readCounting_70 at this
      exact this
    · have hg := sgn_R (T := T) (L := L) (a := skp T L b) hI
      have stop : ¬ ((0 ≤ tw T L b ∧ tw T L b ≤ 2) ∧ bt s (tw T L b).toNat = 0) → (skp T L b, s) = cn T L 3 (a + 1) 0 := by
        intro q
        rw [← e, show 3 - n = (2 - n) + 1 by omega, cn_s, if_neg q]
      refine (c_peek hT hI hs hb).mono ?_ (by decide)
      rintro _ M1 ⟨rfl, hs1⟩
      refine ⟨_, rfl, fun y22 h22 => ?_⟩
      have htw : tw T L b = y22 := h22.symm
      refine ⟨by unfold R32; omega, fun c2 => ?_, fun c2 => ⟨by unfold R32; omega, fun c3 => ?_, fun c3 => ?_⟩⟩
      · have := fin (fun _ _ _ => True) M1 (skp T L b) hs1 (stop (by omega))
        unfold VX9_readCounting_70 at this
        exact this
      · have := fin (fun _ _ _ => True) M1 (skp T L b) hs1 (stop (by omega))
        unfold VX9_readCounting_70 at this
        exact this
      · obtain ⟨t, ht⟩ : ∃ t : Nat, y22 = t := ⟨y22.toNat, by omega⟩
        rw [ht, bit_nat (by omega) (by omega)]
        have hbt := bt_01 s t
        refine ⟨by unfold R32; omega, fun c4 => ?_, fun c4 => ?_⟩
        · rintro y44 h44 M2 rfl y48 h48
          have ok := cn_ok s hs8 t (by omega) (by omega)
          rw [ishl_1 t (by omega), ior_nat (by omega) (by have : 2 ^ t < 2 ^ 3 := Nat.pow_lt_pow_right (by omega) (by omega); omega)] at h44
          have hlt := sgn_lt (T := T) (L := L) (a := skp T L b) (by unfold tw at htw; omega)
          refine ⟨⟨skp T L b + 1, _, n + 1, h44, by omega, hs1.at (by rw [hs1.2.1]; omega), by omega, ok.2, by omega, ?_⟩, by omega⟩
          rw [← e, show 3 - n = (3 - (n + 1)) + 1 by omega, cn_s2 (t := t) (by omega) (by omega) (by omega)]
        · refine fin _ M1 (skp T L b) hs1 (stop ?_)
          rintro ⟨_, q⟩
          rw [htw, ht, Int.toNat_natCast] at q
          omega
theorem c_tail {a set : Nat} {ms : Nat → Int} (hT : TpC M0 T L) (hI : IT T L) (h : SC M0 M a set 0 3 ms) (ha : a ≤ L) (hs : set < 8) : VX9_read_46 E l 7 (PRc M0 (tl T L a set ms)) M := by
  have hL := hI.1
  have hb := skp_b (T := T) ha
  have hg := sgn_R (T := T) (L := L) (a := skp T L a) hI
  have e8 := (bcn_8 set hs).2
  unfold VX9_read_46
  try unfold VX9_read_94
  try unfold VX9_read_70
  try unfold VX9_read_94
  refine (c_peek hT hI h ha).mono ?_ (by decide)
  rintro _ M1 ⟨rfl, h1⟩
  refine ⟨_, rfl, hg.1, fun c1 => ?_, ?_⟩
  · refine (c_peek hT hI h1 hb.2.1).mono ?_ (by decide)
    rintro _ M2 ⟨rfl, h2⟩
    rw [skp_skp ha] at h2 ⊢
    refine ⟨_, rfl, hg.1, fun c2 => ⟨h2.1, ?_⟩, fun c2 => ?_⟩
    · have e : tl T L a set ms = (none, skp T L a) := by
        unfold tl
        rw [if_neg c1, if_neg (by omega)]
      rw [e, h2.2.1]
    · rw [h2.2.2.1]
      refine (c_bitCount (by omega)).fn ⟨_, rfl, h2.1, ?_⟩
      have e : tl T L a set ms = (some (ms, set, 0), 0) := by
        unfold tl
        rw [if_neg c1, if_pos (by omega)]
      rw [e]
      exact ⟨by rw [e8], h2.2.2.1, h2.2.2.2.1, h2.2.2.2.2⟩
  · rintro c1 M2 rfl M3 rfl
    have hlt := sgn_lt (T := T) (L := L) (a := skp T L a) (by omega)
    have h3 := (h1.law (x := 1)).at (b := skp T L a + 1) (x := up M1 25 5 1 25 2 + 1) (by rw [up_ne (by decide), h1.2.1]; omega)
    refine (c_peek hT hI h3 (by omega)).mono ?_ (by decide)
    rintro _ M4 ⟨rfl, h4⟩
    have hg2 := sgn_R (T := T) (L := L) (a := skp T L (skp T L a + 1)) hI
    refine ⟨_, rfl, hg2.1, fun c2 => ⟨h4.1, ?_⟩, fun c2 => ?_⟩
    · have e : tl T L a set ms = (none, skp T L (skp T L a + 1)) := by
        unfold tl
        rw [if_pos c1, if_neg (by omega)]
      rw [e, h4.2.1]
    · rw [h4.2.2.1]
      refine (c_bitCount (by omega)).fn ⟨_, rfl, h4.1, ?_⟩
      have e : tl T L a set ms = (some (ms, set, 1), 0) := by
        unfold tl
        rw [if_pos c1, if_pos (by omega)]
      rw [e]
      exact ⟨by rw [e8], h4.2.2.1, h4.2.2.2.1, h4.2.2.2.2⟩
theorem c_read (hT : TpC M T L) (hI : IT T L) : Con E l 8 qX9_read [vr 25] M (PRc M (rd T L)) := by
  have hL := hI.1
  refine RX9_read (D := 7) ?_
  unfold VX9_read_0
  rintro M1 rfl M2 rfl M3 rfl
  have h0 : SC M (up (up (up M 25 2 0) 25 4 3) 25 5 0) 0 (3 : Nat) 0 0 (fun _ => 0) := ⟨((Eqv.rf.put rfl).put rfl).put rfl, by rw [up_ne (by decide), up_ne (by decide), up_eq]; rfl, by rw [up_ne (by decide), up_eq]; rfl, up_eq, fun j hj => by omega⟩
  have hr := rm_b T L 3
  refine (c_readMeasures hT hI h0).mono ?_ (by decide)
  rintro _ M4 ⟨x, ms', rfl, h4, h5⟩
  have hx : x = 0 ∨ x = 1 := by omega
  refine ⟨x, rfl, by unfold R32; omega, fun c1 => ⟨h4.1, ?_⟩, fun c1 => ?_⟩
  · rcases h5 with h5 | h5
    · omega
    · have e : rd T L = (none, (rm T L 3).1) := by
        unfold rd
        rw [if_neg (by rw [h5.1]; decide)]
      rw [e, h4.2.1]
  · rcases h5 with ⟨ok, _, hms⟩ | h5
    · have h6 : SC M M4 (rm T L 3).1 (3 : Nat) 0 3 (rm T L 3).2.1 := ⟨h4.1, h4.2.1, h4.2.2.1, h4.2.2.2.1, hms⟩
      have hb := skp_b (T := T) hr.1
      have hg := sgn_R (T := T) (L := L) (a := skp T L (rm T L 3).1) hI
      refine (c_peek hT hI h6 hr.1).mono ?_ (by decide)
      rintro _ M5 ⟨rfl, h7⟩
      refine ⟨_, rfl, hg.1, fun c2 => ?_, fun c2 => ?_⟩
      · have e : rd T L = tl T L (skp T L (rm T L 3).1) 3 (rm T L 3).2.1 := by
          unfold rd
          rw [if_pos ok, if_neg c2]
          unfold tl
          rw [skp_skp hr.1]
        rw [e]
        have := (c_tail (E := E) (l := l) hT hI h7 hb.2.1 (by decide))
        unfold VX9_read_46 at this
        exact this
      · have hlt := sgn_lt (T := T) (L := L) (a := skp T L (rm T L 3).1) (by omega)
        have hc := cn_b (T := T) (L := L) 3 (skp T L (rm T L 3).1 + 1) 0 (by omega) (by omega)
        refine (c_readCounting hT hI h7 hlt).mono ?_ (by decide)
        rintro _ M6 ⟨rfl, h8⟩
        refine ⟨_, rfl, b01_R, fun c3 => ?_, fun c3 => ⟨h8.1, ?_⟩⟩
        · rw [b01_n0] at c3
          have e : rd T L = tl T L (cn T L 3 (skp T L (rm T L 3).1 + 1) 0).1 (cn T L 3 (skp T L (rm T L 3).1 + 1) 0).2 (rm T L 3).2.1 := by
            unfold rd
            rw [if_pos ok, if_pos c2, if_neg (by omega)]
          rw [e]
          have := (c_tail (E := E) (l := l) hT hI h8 hc.1 hc.2)
          unfold VX9_read_46 at this
          exact this
        · rw [b01_0] at c3
          have e : rd T L = (none, (cn T L 3 (skp T L (rm T L 3).1 + 1) 0).1) := by
            unfold rd
            rw [if_pos ok, if_pos c2, if_pos (by omega)]
          rw [e, h8.2.1]
    · omega
end
