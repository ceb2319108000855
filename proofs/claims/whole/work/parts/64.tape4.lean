section
variable {E : FX} {l : Launch} {M0 M : MM} {T : Nat → Int} {L : Nat}
/-- the reference as it reads -/
def SM (M0 M : MM) (a : Nat) (c lw : Int) (k : Nat) (ms : Nat → Int) : Prop := Eqv M0 M ∧ M 44 7 = a ∧ M 44 9 = c ∧ M 44 10 = lw ∧ ∀ j, j < k → M 48 j = ms j
theorem SM.at {a : Nat} {c lw : Int} {k : Nat} {ms : Nat → Int} (h : SM M0 M a c lw k ms) {b : Nat} {x : Int} (hx : x = b) : SM M0 (up M 44 7 x) b c lw k ms :=
  ⟨h.1.put rfl, by rw [up_eq, hx], by rw [up_ne (by decide)]; exact h.2.2.1, by rw [up_ne (by decide)]; exact h.2.2.2.1, fun j hj => by rw [up_ne (by omega)]; exact h.2.2.2.2 j hj⟩
theorem SM.cnt {a : Nat} {c lw : Int} {k : Nat} {ms : Nat → Int} (h : SM M0 M a c lw k ms) {x : Int} : SM M0 (up M 44 9 x) a x lw k ms :=
  ⟨h.1.put rfl, by rw [up_ne (by decide)]; exact h.2.1, up_eq, by rw [up_ne (by decide)]; exact h.2.2.2.1, fun j hj => by rw [up_ne (by omega)]; exact h.2.2.2.2 j hj⟩
theorem SM.law {a : Nat} {c lw : Int} {k : Nat} {ms : Nat → Int} (h : SM M0 M a c lw k ms) {x : Int} : SM M0 (up M 44 10 x) a c x k ms :=
  ⟨h.1.put rfl, by rw [up_ne (by decide)]; exact h.2.1, by rw [up_ne (by decide)]; exact h.2.2.1, up_eq, fun j hj => by rw [up_ne (by omega)]; exact h.2.2.2.2 j hj⟩
theorem SM.grow {a : Nat} {c lw : Int} {k : Nat} {ms : Nat → Int} (h : SM M0 M a c lw k ms) {v : Int} : SM M0 (up M 48 k v) a c lw (k + 1) (upW ms k v) := by
  refine ⟨h.1.put rfl, by rw [up_ne (by omega)]; exact h.2.1, by rw [up_ne (by omega)]; exact h.2.2.1, by rw [up_ne (by omega)]; exact h.2.2.2.1, fun j hj => ?_⟩
  unfold upW
  by_cases e : j = k
  · rw [if_pos e, e, up_eq]
  · rw [if_neg e, up_ne (by omega)]
    exact h.2.2.2.2 j (by omega)
theorem c_ahead {a : Nat} {c lw : Int} {k : Nat} {ms : Nat → Int} (hT : TpM M0 T L) (hI : IT T L) (h : SM M0 M a c lw k ms) (ha : a ≤ L) : Con E l 2 qX12_ahead [vr 44] M (fun r M' => r = some (vi (sgn T L (skp T L a))) ∧ SM M0 M' (skp T L a) c lw k ms) := by
  have hL := hI.1
  refine (RX12_ahead (D := 1) (fun M' => ∃ b : Nat, SM M0 M' b c lw k ms ∧ b ≤ L ∧ skp T L b = skp T L a) (fun M' => (41 - M' 44 7).toNat) ?_ ?_)
  · exact ⟨a, h, ha, rfl⟩
  · rintro M' ⟨b, hs, hb, e⟩
    have hT' := hT.eqv hs.1
    have fin : ∀ (hl : ¬ L ≤ b), ¬ T b = 32 → (some (vi (M' 46 b)) = some (vi (sgn T L (skp T L a))) ∧ SM M0 M' (skp T L a) c lw k ms) := by
      intro hl h32
      have e2 := skp_off (L := L) h32
      rw [← e, e2]
      exact ⟨by rw [hT'.2 b (by omega)]; unfold sgn; rw [if_pos (by omega)], hs⟩
    unfold VX12_ahead_0
    try unfold VX12_ahead_62
    rw [hs.2.1, hT'.1, Int.toNat_natCast]
    refine ⟨by unfold R32; omega, by unfold R32; omega, fun c1 => ⟨by unfold R32; omega, by unfold R32; omega, fun c2 => ?_, fun c2 => absurd c1 c2⟩, fun c1 => ⟨by omega, by omega, ?_⟩⟩
    · have e2 := skp_end (T := T) (L := L) (a := b) (by omega)
      rw [← e, e2]
      exact ⟨by unfold sgn; rw [if_neg (by omega)], hs⟩
    · have hR := T_R hI (a := b) (by omega)
      have e26 := hT'.2 b (by omega)
      refine ⟨by rw [e26]; exact hR.1, fun c2 => ⟨by unfold R32; omega, by unfold R32; omega, fun c3 => absurd c3 c1, fun c3 => ⟨by omega, by omega, fin (by omega) (by rw [← e26]; exact c2)⟩⟩, ?_⟩
      rintro c2 M2 rfl
      refine ⟨⟨b + 1, hs.at (by omega), by omega, ?_⟩, ?_⟩
      · rw [← e]
        exact (skp_on (by omega) (e26.symm.trans c2)).symm
      · rw [up_eq]; omega
theorem m_tail {J17 : MM → Int → Prop} {J70 : MM → Int → Int → Int → Prop} {J191 : MM → Prop} {a set : Nat} {c : Int} {ms : Nat → Int} (hT : TpM M0 T L) (hI : IT T L) (h : SM M0 M a c 0 3 ms) (ha : a ≤ L) : VX12_faultOf_288 E l 4 (PRm M0 (tl T L a set ms)) J17 J70 J191 M set := by
  have hL := hI.1
  have hb := skp_b (T := T) ha
  have hg := sgn_R (T := T) (L := L) (a := skp T L a) hI
  unfold VX12_faultOf_288
  try unfold VX12_faultOf_315
  try unfold VX12_faultOf_330
  rintro M0' rfl
  have h0 := h.cnt (x := (set : Int))
  refine (c_ahead hT hI h0 ha).mono ?_ (by decide)
  rintro _ M1 ⟨rfl, h1⟩
  refine ⟨_, rfl, hg.1, fun c1 => ?_, ?_⟩
  · refine (c_ahead hT hI h1 hb.2.1).mono ?_ (by decide)
    rintro _ M2 ⟨rfl, h2⟩
    rw [skp_skp ha] at h2 ⊢
    refine ⟨_, rfl, hg.1, fun c2 => ⟨h2.1, ?_⟩, fun c2 => ⟨h2.1, ?_⟩⟩
    · have e : tl T L a set ms = (none, skp T L a) := by
        unfold tl
        rw [if_neg c1, if_neg (by omega)]
      rw [e, h2.2.1]
    · have e : tl T L a set ms = (some (ms, set, 0), 0) := by
        unfold tl
        rw [if_neg c1, if_pos (by omega)]
      rw [e]
      exact ⟨rfl, h2.2.2.1, h2.2.2.2.1, h2.2.2.2.2⟩
  · rintro c1 M2 rfl M3 rfl
    have hlt := sgn_lt (T := T) (L := L) (a := skp T L a) (by omega)
    have h3 := (h1.law (x := 1)).at (b := skp T L a + 1) (x := up M1 44 10 1 44 7 + 1) (by rw [up_ne (by decide), h1.2.1]; omega)
    refine (c_ahead hT hI h3 (by omega)).mono ?_ (by decide)
    rintro _ M4 ⟨rfl, h4⟩
    have hg2 := sgn_R (T := T) (L := L) (a := skp T L (skp T L a + 1)) hI
    refine ⟨_, rfl, hg2.1, fun c2 => ⟨h4.1, ?_⟩, fun c2 => ⟨h4.1, ?_⟩⟩
    · have e : tl T L a set ms = (none, skp T L (skp T L a + 1)) := by
        unfold tl
        rw [if_pos c1, if_neg (by omega)]
      rw [e, h4.2.1]
    · have e : tl T L a set ms = (some (ms, set, 1), 0) := by
        unfold tl
        rw [if_pos c1, if_pos (by omega)]
      rw [e]
      exact ⟨rfl, h4.2.2.1, h4.2.2.2.1, h4.2.2.2.2⟩
theorem m_54 {P : Option AV → MM → Prop} {J17 : MM → Int → Prop} {J70 : MM → Int → Int → Int → Prop} {J191 : MM → Prop} {a b : Nat} {c lw s1 s2 x1 : Int} {k : Nat} {ms : Nat → Int} (hT : TpM M0 T L) (hI : IT T L) (h : SM M0 M a c lw k ms) (hs : s1 + s2 = b) (hb : b ≤ L) (hJ : ∀ M', SM M0 M' (skp T L b) c lw k ms → J70 M' x1 (skp T L b : Nat) 0) : VX12_faultOf_54 E l 4 P J17 J70 J191 M x1 s1 s2 := by
  unfold VX12_faultOf_54
  rintro M1 rfl
  have h1 := h.at hs
  refine (c_ahead hT hI h1 hb).mono ?_ (by decide)
  rintro _ M2 ⟨rfl, h2⟩
  refine ⟨_, rfl, fun y h => ?_⟩
  rw [h, h2.2.1]
  exact hJ M2 h2
theorem m_faultOf (hT : TpM M T L) (hI : IT T L) : Con E l 5 qX12_faultOf [vr 44] M (PRm M (rd T L)) := by
  have hL := hI.1
  refine RX12_faultOf (D := 4) (fun M' x1 => ∃ k : Nat, x1 = k ∧ k ≤ 3 ∧ (rm T L k).2.2 = true ∧ SM M M' (rm T L k).1 0 0 k (rm T L k).2.1) (fun _ x1 => ((4 - x1) * 100).toNat) (fun M' x1 x2 x3 => ∃ k f b : Nat, x1 = k ∧ k < 3 ∧ x2 = f ∧ (rm T L k).2.2 = true ∧ SM M M' b 0 0 k (rm T L k).2.1 ∧ f ≤ b ∧ b ≤ L ∧ (0 ≤ x3 ∧ x3 ≤ 1000) ∧ nud T L b x3 = nud T L f 0 ∧ st1 T L k (rm T L k).1 = (if 1 ≤ (nud T L f 0).1 ∧ (nud T L f 0).1 ≤ 999 then nud T L f 0 else (0, f))) (fun M' x1 _ _ => ((4 - x1) * 100 - 50 + (41 - M' 44 7)).toNat) (fun M' => (rm T L 3).2.2 = true ∧ sgn T L (skp T L (rm T L 3).1) = 59 ∧ ∃ b s n : Nat, SM M M' b s 0 3 (rm T L 3).2.1 ∧ b ≤ L ∧ s < 8 ∧ bcn 3 s + n = 3 ∧ cn T L (n + 1) b s = cn T L 4 (skp T L (rm T L 3).1 + 1) 0) (fun M' => (41 - M' 44 7).toNat) ?_ ?_ ?_ ?_
  · unfold VX12_faultOf_0
    rintro M1 rfl M2 rfl M3 rfl
    exact ⟨0, rfl, by omega, rfl, ((Eqv.rf.put rfl).put rfl).put rfl, by rw [up_ne (by decide), up_ne (by decide), up_eq]; rfl, by rw [up_ne (by decide), up_eq], up_eq, fun j hj => by omega⟩
  · rintro M' _ ⟨k, rfl, hk, hok, hs⟩
    have hb := (rm_b T L k).1
    have skb := skp_b (T := T) hb
    have hg := sgn_R (T := T) (L := L) (a := skp T L (rm T L k).1) hI
    unfold VX12_faultOf_17
    refine ⟨by unfold R32; omega, fun c1 => ?_, fun c1 => ⟨by unfold R32; omega, fun c2 => ⟨by unfold R32; omega, fun _ => ?_, fun q => absurd c2 q⟩, fun c2 => ?_⟩⟩
    · obtain rfl : k = 3 := by omega
      refine (c_ahead hT hI hs hb).mono ?_ (by decide)
      rintro _ M1 ⟨rfl, h1⟩
      refine ⟨_, rfl, hg.1, fun c2 => ?_, ?_⟩
      · rw [h1.2.2.1]
        refine ⟨by decide, fun q => absurd rfl q, fun _ => ?_⟩
        have e : rd T L = tl T L (skp T L (rm T L 3).1) 3 (rm T L 3).2.1 := by
          unfold rd
          rw [if_pos hok, if_neg c2]
          unfold tl
          rw [skp_skp hb]
        rw [e]
        exact m_tail (set := 3) hT hI h1 skb.2.1
      · rintro c2 M2 rfl
        have hlt := sgn_lt (T := T) (L := L) (a := skp T L (rm T L 3).1) (by omega)
        refine ⟨⟨hok, c2, skp T L (rm T L 3).1 + 1, 0, 3, h1.at (by rw [h1.2.1]; omega), by omega, by omega, rfl, rfl⟩, ?_⟩
        rw [up_eq, h1.2.1]
        omega
    · refine m_54 hT hI hs (b := (rm T L k).1) (by rw [hs.2.1]; omega) hb (fun M1 h1 => ⟨⟨k, skp T L (rm T L k).1, skp T L (rm T L k).1, rfl, by omega, rfl, hok, h1, Nat.le_refl _, skb.2.1, by omega, rfl, ?_⟩, ?_⟩)
      · unfold st1 rn
        rw [if_neg (by omega)]
      · rw [h1.2.1]; omega
    · refine (c_ahead hT hI hs hb).mono ?_ (by decide)
      rintro _ M1 ⟨rfl, h1⟩
      refine ⟨_, rfl, hg.1, fun c3 => ⟨by unfold R32; omega, fun q => absurd q c2, fun _ => ?_⟩, fun c3 => ⟨h1.1, ?_⟩⟩
      · have hlt := sgn_lt (T := T) (L := L) (a := skp T L (rm T L k).1) (by omega)
        have skb2 := skp_b (T := T) (L := L) (a := skp T L (rm T L k).1 + 1) (by omega)
        refine m_54 hT hI h1 (b := skp T L (rm T L k).1 + 1) (by rw [h1.2.1]; omega) (by omega) (fun M2 h2 => ⟨⟨k, _, _, rfl, by omega, rfl, hok, h2, Nat.le_refl _, skb2.2.1, by omega, rfl, ?_⟩, ?_⟩)
        · unfold st1
          rw [if_pos (by omega), if_pos c3]
          rfl
        · rw [h2.2.1]; omega
      · have e0 : st1 T L k (rm T L k).1 = (0, skp T L (rm T L k).1) := by
          unfold st1
          rw [if_pos (by omega), if_neg c3]
        obtain ⟨e1, e2⟩ := rm_off (k := k) (by omega) hok (by rw [e0])
        have e : rd T L = (none, skp T L (rm T L k).1) := by
          unfold rd
          rw [if_neg (by rw [e2]; decide), e1, e0]
        rw [e, h1.2.1]
  · rintro M' _ _ v ⟨k, f, b, rfl, hk, rfl, hok, hs, hfb, hbL, hv, en, es⟩
    have hT' := hT.eqv hs.1
    have nx : ∀ y : Int, nud T L f 0 = (v, b) → (1 ≤ v ∧ v ≤ 999) → y = (k : Int) + 1 → (∃ k' : Nat, y = k' ∧ k' ≤ 3 ∧ (rm T L k').2.2 = true ∧ SM M (up M' 48 k v) (rm T L k').1 0 0 k' (rm T L k').2.1) ∧ ((4 - y) * 100).toNat < ((4 - (k : Int)) * 100 - 50 + (41 - M' 44 7)).toNat := by
      intro y q w hy
      have e1 : st1 T L k (rm T L k).1 = (v, b) := by
        rw [es, q]
        exact if_pos w
      have e2 := rm_on (k := k) hok (by rw [e1]; show v ≠ 0; omega)
      rw [e1] at e2
      refine ⟨⟨k + 1, by omega, by omega, by rw [e2], ?_⟩, ?_⟩
      · rw [e2]; exact hs.grow
      · rw [hs.2.1]; omega
    have bad : nud T L f 0 = (v, b) → ¬ (1 ≤ v ∧ v ≤ 999) → PRm M (rd T L) (some (vi f)) M' := by
      intro q w
      have e1 : st1 T L k (rm T L k).1 = (0, f) := by
        rw [es, q]
        exact if_neg w
      obtain ⟨e2, e3⟩ := rm_off hk hok (by rw [e1])
      have e : rd T L = (none, f) := by
        unfold rd
        rw [if_neg (by rw [e3]; decide), e2, e1]
      rw [e]
      exact ⟨hs.1, rfl⟩
    unfold VX12_faultOf_70
    rw [hs.2.1, hT'.1, Int.toNat_natCast, Int.toNat_natCast]
    refine ⟨by unfold R32; omega, by unfold R32; omega, fun c1 => ?_, fun c1 => ⟨by omega, by omega, ?_⟩⟩
    · have q : nud T L f 0 = (v, b) := by rw [← en, nud_end (by omega)]
      refine ⟨by unfold R32; omega, (c_in (by unfold R64; omega) (by decide) (by decide)).fn ⟨_, rfl, b01_R, fun c2 => ⟨by omega, by omega, ?_⟩, fun c2 => bad q (b01_0.mp c2)⟩⟩
      rintro M2 rfl y hy
      have := nx y q (b01_n0.mp c2) hy
      rw [hs.2.1] at this
      exact this
    · rw [hT'.2 b (by omega)]
      have hR := T_R hI (a := b) (by omega)
      refine ⟨hR.1, (c_in (r32_64 hR.1) (by decide) (by decide)).fn ⟨_, rfl, b01_R, fun c2 => ?_, fun c2 => ?_⟩⟩
      · have q : nud T L f 0 = (v, b) := by rw [← en, nud_off (b01_0.mp c2)]
        refine ⟨by unfold R32; omega, (c_in (by unfold R64; omega) (by decide) (by decide)).fn ⟨_, rfl, b01_R, fun c2 => ⟨by omega, by omega, ?_⟩, fun c2 => bad q (b01_0.mp c2)⟩⟩
        rintro M2 rfl y hy
        have := nx y q (b01_n0.mp c2) hy
        rw [hs.2.1] at this
        exact this
      · rw [b01_n0] at c2
        rw [hs.2.1, Int.toNat_natCast, hT'.2 b (by omega)]
        refine ⟨by unfold R32; omega, by omega, by omega, hR.1, (c_lesser (by unfold R64; omega) (by decide)).fn ⟨_, rfl, ?_⟩⟩
        rintro y98 h98 M2 rfl
        rw [hs.2.1]
        have hmn : mn (10 * v + T b - 48) = y98 := by
          rw [h98, w32_eq (by split <;> (unfold R32; omega))]
          rfl
        refine ⟨⟨k, f, b + 1, rfl, hk, rfl, hok, hs.at (by omega), by omega, by omega, ?_, ?_, es⟩, ?_⟩
        · rw [← hmn]; unfold mn; split <;> omega
        · rw [← en, nud_on (by omega) c2, hmn]
        · rw [up_eq]; omega
  · rintro M' ⟨hok, h59, b, s, n, hs, hbL, hs8, hn, e⟩
    have hb := (rm_b T L 3).1
    have skb := skp_b (T := T) hb
    have hlt := sgn_lt (T := T) (L := L) (a := skp T L (rm T L 3).1) (by omega)
    have hmore := cn_more (T := T) (L := L) 3 (skp T L (rm T L 3).1 + 1) 0 (by omega) (by omega) rfl
    have hcb := cn_b (T := T) (L := L) 3 (skp T L (rm T L 3).1 + 1) 0 (by omega) (by omega)
    have skb2 := skp_b (T := T) (L := L) (a := b) hbL
    have hg := sgn_R (T := T) (L := L) (a := skp T L b) hI
    have e8 := (bcn_8 s hs8).1
    have h3 := bcn_le s 3
    -- the end of the loop
    have fin : ∀ (J17 : MM → Int → Prop) (J70 : MM → Int → Int → Int → Prop) (J191 : MM → Prop) (M1 : MM), SM M M1 (skp T L b) s 0 3 (rm T L 3).2.1 → ¬ ((0 ≤ tw T L b ∧ tw T L b ≤ 2) ∧ bt s (tw T L b).toNat = 0) → VX12_faultOf_256 E l 4 (PRm M (rd T L)) J17 J70 J191 M1 := by
      intro J17 J70 J191 M1 h1 hst
      have e1 : cn T L 4 (skp T L (rm T L 3).1 + 1) 0 = (skp T L b, s) := by rw [← e, cn_s, if_neg hst]
      rw [e1] at hmore
      obtain ⟨g1, g2, g3⟩ := hmore
      have g1' : s = (cn T L 3 (skp T L (rm T L 3).1 + 1) 0).2 := g1
      have g2' : skp T L (skp T L b) = skp T L (cn T L 3 (skp T L (rm T L 3).1 + 1) 0).1 := g2
      unfold VX12_faultOf_256
      rw [h1.2.2.1]
      refine (c_ones (by omega)).fn ⟨_, rfl, by unfold R32; omega, fun c1 => ⟨by rw [h1.2.2.1]; unfold R32; omega, fun c2 => ?_, fun c2 => ?_⟩, fun c1 => ?_⟩
      · rw [h1.2.2.1]
        have er : rd T L = tl T L (skp T L b) s (rm T L 3).2.1 := by
          unfold rd
          rw [if_pos hok, if_pos h59, if_neg (by rw [← g1']; omega), ← g1']
          unfold tl
          rw [g2']
        rw [er]
        exact m_tail hT hI h1 skb2.2.1
      · rw [h1.2.2.1] at c2
        have : s = 0 := by omega
        subst this
        exact absurd e8 (by have : bcn 3 0 = 0 := rfl; omega)
      · have g4 := g3 (by rw [← g1']; omega)
        have er : rd T L = (none, skp T L b) := by
          unfold rd
          rw [if_pos hok, if_pos h59, if_pos (by rw [← g1']; omega), ← g4]
        rw [er]
        exact ⟨h1.1, by rw [h1.2.1]⟩
    unfold VX12_faultOf_191
    refine (c_ahead hT hI hs hbL).mono ?_ (by decide)
    rintro _ M1 ⟨rfl, h1⟩
    refine ⟨_, rfl, hg.1, (c_in (r32_64 hg.1) (by decide) (by decide)).fn ⟨_, rfl, b01_R, fun c1 => ?_, fun c1 => ?_⟩⟩
    · rw [b01_0] at c1
      have := fin (fun _ _ => True) (fun _ _ _ _ => True) (fun _ => True) M1 h1 (fun q => c1 (by unfold tw at q; omega))
      unfold VX12_faultOf_256 at this
      exact this
    · rw [b01_n0] at c1
      refine (c_ahead hT hI h1 skb2.2.1).mono ?_ (by decide)
      rintro _ M2 ⟨rfl, h2⟩
      rw [skp_skp hbL] at h2 ⊢
      obtain ⟨t, ht⟩ : ∃ t : Nat, sgn T L (skp T L b) - 48 = t := ⟨(sgn T L (skp T L b) - 48).toNat, by omega⟩
      refine ⟨_, rfl, ?_⟩
      rw [ht, h1.2.2.1]
      have hbt := bt_01 s t
      refine (c_has (by omega) (by omega)).fn ⟨_, rfl, by unfold R32; omega, fun c2 => ?_, fun c2 => ?_⟩
      · have := fin (fun _ _ => True) (fun _ _ _ _ => True) (fun _ => True) M2 h2 (fun q => by
          have q2 := q.2
          unfold tw at q2
          rw [ht, Int.toNat_natCast] at q2
          omega)
        unfold VX12_faultOf_256 at this
        exact this
      · refine (c_ahead hT hI h2 skb2.2.1).mono ?_ (by decide)
        rintro _ M3 ⟨rfl, h3'⟩
        rw [skp_skp hbL] at h3' ⊢
        refine ⟨_, rfl, ?_⟩
        rw [ht, h2.2.2.1]
        rintro M4 rfl M5 rfl
        have ok := cn_ok s hs8 t (by omega) (by omega)
        have hlt2 := sgn_lt (T := T) (L := L) (a := skp T L b) (by omega)
        rw [ishl_1 t (by omega), ior_nat (by omega) (by have : 2 ^ t < 2 ^ 3 := Nat.pow_lt_pow_right (by omega) (by omega); omega)]
        have hn1 : 1 ≤ n := by
          apply Decidable.byContradiction
          intro q
          have := cn_full s hs8 (by omega) t (by omega)
          omega
        refine ⟨⟨hok, h59, skp T L b + 1, _, n - 1, h3'.cnt.at (by rw [up_ne (by decide), h3'.2.1]; omega), by omega, ok.2, by omega, ?_⟩, ?_⟩
        · rw [← e, show n - 1 + 1 = n by omega]
          exact (cn_s2 (t := t) (by unfold tw; exact ht) (by omega) (by omega)).symm
        · rw [up_eq, up_ne (by decide), h3'.2.1, hs.2.1]; omega
end
