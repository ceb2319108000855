/-! what a tape says -/
def sgn (T : Nat → Int) (L a : Nat) : Int := if a < L then T a else -1
def sk (T : Nat → Int) : Nat → Nat → Nat
  | 0, a => a
  | d + 1, a => if T a = 32 then sk T d (a + 1) else a
theorem sk_s (T : Nat → Int) (d a : Nat) : sk T (d + 1) a = if T a = 32 then sk T d (a + 1) else a := rfl
def skp (T : Nat → Int) (L a : Nat) : Nat := sk T (L - a) a
theorem skp_on {T : Nat → Int} {L a : Nat} (h : a < L) (h2 : T a = 32) : skp T L a = skp T L (a + 1) := by
  unfold skp
  rw [show L - a = (L - (a + 1)) + 1 by omega, sk_s, if_pos h2]
theorem skp_off {T : Nat → Int} {L a : Nat} (h : ¬ T a = 32) : skp T L a = a := by
  unfold skp
  cases hd : L - a with
  | zero => rfl
  | succ d => rw [sk_s, if_neg h]
theorem skp_end {T : Nat → Int} {L a : Nat} (h : L ≤ a) : skp T L a = a := by
  unfold skp
  rw [show L - a = 0 by omega]
  rfl
theorem sk_b (T : Nat → Int) : ∀ d a, a ≤ sk T d a ∧ sk T d a ≤ a + d ∧ (sk T d a < a + d → ¬ T (sk T d a) = 32)
  | 0, a => ⟨Nat.le_refl _, Nat.le_refl _, fun h => absurd h (by show ¬ a < a + 0; omega)⟩
  | d + 1, a => by
    rw [sk_s]
    split
    · have ih := sk_b T d (a + 1)
      refine ⟨by omega, by omega, fun h => ih.2.2 (by omega)⟩
    · rename_i h
      exact ⟨by omega, by omega, fun _ => h⟩
theorem skp_b {T : Nat → Int} {L a : Nat} (h : a ≤ L) : a ≤ skp T L a ∧ skp T L a ≤ L ∧ (skp T L a < L → ¬ T (skp T L a) = 32) := by
  have := sk_b T (L - a) a
  rw [show a + (L - a) = L by omega] at this
  exact this
theorem skp_skp {T : Nat → Int} {L a : Nat} (h : a ≤ L) : skp T L (skp T L a) = skp T L a := by
  obtain ⟨_, h2, h3⟩ := skp_b (T := T) h
  by_cases c : skp T L a < L
  · exact skp_off (h3 c)
  · exact skp_end (by omega)
def mn (x : Int) : Int := if x < 1000 then x else 1000
def nu (T : Nat → Int) : Nat → Nat → Int → Int × Nat
  | 0, a, v => (v, a)
  | d + 1, a, v => if 48 ≤ T a ∧ T a ≤ 57 then nu T d (a + 1) (mn (10 * v + T a - 48)) else (v, a)
theorem nu_s (T : Nat → Int) (d a : Nat) (v : Int) : nu T (d + 1) a v = if 48 ≤ T a ∧ T a ≤ 57 then nu T d (a + 1) (mn (10 * v + T a - 48)) else (v, a) := rfl
def nud (T : Nat → Int) (L a : Nat) (v : Int) : Int × Nat := nu T (L - a) a v
theorem nud_on {T : Nat → Int} {L a : Nat} {v : Int} (h : a < L) (h2 : 48 ≤ T a ∧ T a ≤ 57) : nud T L a v = nud T L (a + 1) (mn (10 * v + T a - 48)) := by
  unfold nud
  rw [show L - a = (L - (a + 1)) + 1 by omega, nu_s, if_pos h2]
theorem nud_off {T : Nat → Int} {L a : Nat} {v : Int} (h : ¬ (48 ≤ T a ∧ T a ≤ 57)) : nud T L a v = (v, a) := by
  unfold nud
  cases hd : L - a with
  | zero => rfl
  | succ d => rw [nu_s, if_neg h]
theorem nud_end {T : Nat → Int} {L a : Nat} {v : Int} (h : L ≤ a) : nud T L a v = (v, a) := by
  unfold nud
  rw [show L - a = 0 by omega]
  rfl
theorem nu_b (T : Nat → Int) : ∀ d a v, (0 ≤ v ∧ v ≤ 1000) → (0 ≤ (nu T d a v).1 ∧ (nu T d a v).1 ≤ 1000) ∧ a ≤ (nu T d a v).2 ∧ (nu T d a v).2 ≤ a + d
  | 0, a, v, h => ⟨h, Nat.le_refl _, Nat.le_refl _⟩
  | d + 1, a, v, h => by
    rw [nu_s]
    split
    · rename_i h2
      have ih := nu_b T d (a + 1) (mn (10 * v + T a - 48)) (by unfold mn; split <;> omega)
      refine ⟨ih.1, by omega, by omega⟩
    · exact ⟨h, by show a ≤ a; omega, by show a ≤ a + (d + 1); omega⟩
theorem nud_b {T : Nat → Int} {L a : Nat} {v : Int} (ha : a ≤ L) (h : 0 ≤ v ∧ v ≤ 1000) : (0 ≤ (nud T L a v).1 ∧ (nud T L a v).1 ≤ 1000) ∧ a ≤ (nud T L a v).2 ∧ (nud T L a v).2 ≤ L := by
  have := nu_b T (L - a) a v h
  rw [show a + (L - a) = L by omega] at this
  exact this
/-- a number behind blanks, and the place behind it; 0: none, and its place -/
def rn (T : Nat → Int) (L a : Nat) : Int × Nat := if 1 ≤ (nud T L (skp T L a) 0).1 ∧ (nud T L (skp T L a) 0).1 ≤ 999 then nud T L (skp T L a) 0 else (0, skp T L a)
theorem rn_b {T : Nat → Int} {L a : Nat} (ha : a ≤ L) : (0 ≤ (rn T L a).1 ∧ (rn T L a).1 ≤ 999) ∧ a ≤ (rn T L a).2 ∧ (rn T L a).2 ≤ L := by
  have h := skp_b (T := T) ha
  have h2 := nud_b (T := T) (v := 0) h.2.1 (by omega)
  unfold rn
  split
  · omega
  · refine ⟨⟨?_, ?_⟩, ?_, ?_⟩
    · exact Int.le_refl _
    · show (0 : Int) ≤ 999; omega
    · exact h.1
    · exact h.2.1
def st1 (T : Nat → Int) (L k a : Nat) : Int × Nat := if 0 < k then (if sgn T L (skp T L a) = 44 then rn T L (skp T L a + 1) else (0, skp T L a)) else rn T L a
theorem sgn_lt {T : Nat → Int} {L a : Nat} (h : 0 ≤ sgn T L a) : a < L := by
  unfold sgn at h
  split at h
  · assumption
  · omega
theorem st1_b {T : Nat → Int} {L k a : Nat} (ha : a ≤ L) : (0 ≤ (st1 T L k a).1 ∧ (st1 T L k a).1 ≤ 999) ∧ (st1 T L k a).2 ≤ L := by
  have h := skp_b (T := T) ha
  unfold st1
  split
  · split
    · rename_i h2
      have := sgn_lt (T := T) (L := L) (a := skp T L a) (by omega)
      have := rn_b (T := T) (L := L) (a := skp T L a + 1) (by omega)
      omega
    · refine ⟨⟨Int.le_refl _, ?_⟩, h.2.1⟩
      show (0 : Int) ≤ 999; omega
  · have := rn_b (T := T) ha
    omega
/-- the first k measures, and where they end: or where they are wrong -/
def rm (T : Nat → Int) (L : Nat) : Nat → Nat × (Nat → Int) × Bool
  | 0 => (0, fun _ => 0, true)
  | k + 1 => if (rm T L k).2.2 = true then ((st1 T L k (rm T L k).1).2, upW (rm T L k).2.1 k (st1 T L k (rm T L k).1).1, decide ((st1 T L k (rm T L k).1).1 ≠ 0)) else rm T L k
theorem rm_s (T : Nat → Int) (L k : Nat) : rm T L (k + 1) = if (rm T L k).2.2 = true then ((st1 T L k (rm T L k).1).2, upW (rm T L k).2.1 k (st1 T L k (rm T L k).1).1, decide ((st1 T L k (rm T L k).1).1 ≠ 0)) else rm T L k := rfl
theorem rm_b (T : Nat → Int) (L : Nat) : ∀ k, (rm T L k).1 ≤ L ∧ ((rm T L k).2.2 = true → ∀ j, j < k → 1 ≤ (rm T L k).2.1 j ∧ (rm T L k).2.1 j ≤ 999)
  | 0 => ⟨Nat.zero_le _, fun _ j hj => by omega⟩
  | k + 1 => by
    have ih := rm_b T L k
    have h := st1_b (T := T) (L := L) (k := k) ih.1
    rw [rm_s]
    split
    · rename_i hk
      refine ⟨h.2, fun q j hj => ?_⟩
      have q' : decide ((st1 T L k (rm T L k).1).1 ≠ 0) = true := q
      rw [decide_eq_true_eq] at q'
      show 1 ≤ upW (rm T L k).2.1 k (st1 T L k (rm T L k).1).1 j ∧ upW (rm T L k).2.1 k (st1 T L k (rm T L k).1).1 j ≤ 999
      unfold upW
      split
      · omega
      · exact ih.2 hk j (by omega)
    · rename_i hk
      exact ⟨ih.1, fun q => absurd q hk⟩
theorem rm_f {T : Nat → Int} {L k : Nat} (h : (rm T L k).2.2 = false) : ∀ m, rm T L (k + m) = rm T L k
  | 0 => rfl
  | m + 1 => by
    rw [← Nat.add_assoc, rm_s, rm_f h m, h]
    rfl
/-- which town is named behind blanks -/
def tw (T : Nat → Int) (L a : Nat) : Int := sgn T L (skp T L a) - 48
def cn (T : Nat → Int) (L : Nat) : Nat → Nat → Nat → Nat × Nat
  | 0, a, s => (a, s)
  | n + 1, a, s => if (0 ≤ tw T L a ∧ tw T L a ≤ 2) ∧ bt s (tw T L a).toNat = 0 then cn T L n (skp T L a + 1) (s ||| 2 ^ (tw T L a).toNat) else (skp T L a, s)
theorem cn_s (T : Nat → Int) (L n a s : Nat) : cn T L (n + 1) a s = if (0 ≤ tw T L a ∧ tw T L a ≤ 2) ∧ bt s (tw T L a).toNat = 0 then cn T L n (skp T L a + 1) (s ||| 2 ^ (tw T L a).toNat) else (skp T L a, s) := rfl
theorem cn_ok : ∀ s, s < 8 → ∀ t, t < 3 → bt s t = 0 → bcn 3 (s ||| 2 ^ t) = bcn 3 s + 1 ∧ s ||| 2 ^ t < 8 := by decide +kernel
theorem cn_full : ∀ s, s < 8 → bcn 3 s = 3 → ∀ t, t < 3 → bt s t = 1 := by decide +kernel
theorem bcn_8 : ∀ s, s < 8 → bcn 6 s = bcn 3 s ∧ bcn 8 s = bcn 3 s := by decide +kernel
theorem cn_b {T : Nat → Int} {L : Nat} : ∀ n a s, a ≤ L → s < 8 → (cn T L n a s).1 ≤ L ∧ (cn T L n a s).2 < 8
  | 0, a, s, h, h2 => ⟨h, h2⟩
  | n + 1, a, s, h, h2 => by
    have hb := skp_b (T := T) h
    rw [cn_s]
    split
    · rename_i c
      have h3 := sgn_lt (T := T) (L := L) (a := skp T L a) (by have := c.1.1; unfold tw at this; omega)
      exact cn_b n _ _ (by omega) (cn_ok s h2 _ (by omega) c.2).2
    · exact ⟨hb.2.1, h2⟩
/-- once all towns are named, one look more changes nothing but the place, by blanks -/
theorem cn_more {T : Nat → Int} {L : Nat} : ∀ n a s, a ≤ L → s < 8 → bcn 3 s + n = 3 → (cn T L (n + 1) a s).2 = (cn T L n a s).2 ∧ skp T L (cn T L (n + 1) a s).1 = skp T L (cn T L n a s).1 ∧ (bcn 3 (cn T L n a s).2 < 3 → cn T L (n + 1) a s = cn T L n a s)
  | 0, a, s, h, h2, h3 => by
    have e : cn T L 1 a s = (skp T L a, s) := by
      rw [cn_s, if_neg]
      rintro ⟨q1, q2⟩
      rw [cn_full s h2 (by omega) _ (by omega)] at q2
      omega
    rw [e]
    refine ⟨rfl, skp_skp h, fun q => ?_⟩
    have q' : bcn 3 s < 3 := q
    omega
  | n + 1, a, s, h, h2, h3 => by
    have hb := skp_b (T := T) h
    by_cases c : (0 ≤ tw T L a ∧ tw T L a ≤ 2) ∧ bt s (tw T L a).toNat = 0
    · rw [(cn_s T L (n + 1) a s).trans (if_pos c), (cn_s T L n a s).trans (if_pos c)]
      have h4 := sgn_lt (T := T) (L := L) (a := skp T L a) (by have := c.1.1; unfold tw at this; omega)
      have h5 := cn_ok s h2 _ (by omega) c.2
      exact cn_more n _ _ (by omega) h5.2 (by omega)
    · rw [(cn_s T L (n + 1) a s).trans (if_neg c), (cn_s T L n a s).trans (if_neg c)]
      exact ⟨rfl, rfl, fun _ => rfl⟩
/-- none: a fault there -/
def tl (T : Nat → Int) (L a set : Nat) (ms : Nat → Int) : Option ((Nat → Int) × Nat × Nat) × Nat :=
  if sgn T L (skp T L a) = 116 then (if sgn T L (skp T L (skp T L a + 1)) < 0 then (some (ms, set, 1), 0) else (none, skp T L (skp T L a + 1))) else (if sgn T L (skp T L a) < 0 then (some (ms, set, 0), 0) else (none, skp T L a))
def rd (T : Nat → Int) (L : Nat) : Option ((Nat → Int) × Nat × Nat) × Nat :=
  if (rm T L 3).2.2 = true then (if sgn T L (skp T L (rm T L 3).1) = 59 then (if bcn 3 (cn T L 3 (skp T L (rm T L 3).1 + 1) 0).2 < 2 then (none, (cn T L 3 (skp T L (rm T L 3).1 + 1) 0).1) else tl T L (cn T L 3 (skp T L (rm T L 3).1 + 1) 0).1 (cn T L 3 (skp T L (rm T L 3).1 + 1) 0).2 (rm T L 3).2.1) else tl T L (rm T L 3).1 3 (rm T L 3).2.1) else (none, (rm T L 3).1)
section
variable {E : FX} {l : Launch} {M0 M : MM} {T : Nat → Int} {L : Nat}
/-- the class as it reads -/
def SC (M0 M : MM) (a : Nat) (c lw : Int) (k : Nat) (ms : Nat → Int) : Prop := Eqv M0 M ∧ M 25 2 = a ∧ M 25 4 = c ∧ M 25 5 = lw ∧ ∀ j, j < k → M 27 j = ms j
theorem SC.at {a : Nat} {c lw : Int} {k : Nat} {ms : Nat → Int} (h : SC M0 M a c lw k ms) {b : Nat} {x : Int} (hx : x = b) : SC M0 (up M 25 2 x) b c lw k ms :=
  ⟨h.1.put rfl, by rw [up_eq, hx], by rw [up_ne (by decide)]; exact h.2.2.1, by rw [up_ne (by decide)]; exact h.2.2.2.1, fun j hj => by rw [up_ne (by omega)]; exact h.2.2.2.2 j hj⟩
theorem T_R {a : Nat} (hI : IT T L) (ha : a < L) : R32 (T a) ∧ 0 ≤ T a ∧ T a ≤ 126 := by
  have := hI.2 a (by have := hI.1; omega)
  exact ⟨by unfold R32; omega, this⟩
theorem sgn_R {a : Nat} (hI : IT T L) : R32 (sgn T L a) ∧ -1 ≤ sgn T L a ∧ sgn T L a ≤ 126 := by
  unfold sgn
  split
  · rename_i h
    have := T_R hI h
    exact ⟨this.1, by omega, by omega⟩
  · exact ⟨by decide, by decide, by decide⟩
theorem c_peek {a : Nat} {c lw : Int} {k : Nat} {ms : Nat → Int} (hT : TpC M0 T L) (hI : IT T L) (h : SC M0 M a c lw k ms) (ha : a ≤ L) : Con E l 3 qX9_peek [vr 25] M (fun r M' => r = some (vi (sgn T L (skp T L a))) ∧ SC M0 M' (skp T L a) c lw k ms) := by
  have hL := hI.1
  refine (RX9_peek (D := 2) (fun M' => ∃ b : Nat, SC M0 M' b c lw k ms ∧ b ≤ L ∧ skp T L b = skp T L a) (fun M' => (41 - M' 25 2).toNat) ?_ ?_)
  · exact ⟨a, h, ha, rfl⟩
  · rintro M' ⟨b, hs, hb, e⟩
    have hT' := hT.eqv hs.1
    have fin : ∀ (hl : ¬ L ≤ b), ¬ T b = 32 → (some (vi (M' 26 b)) = some (vi (sgn T L (skp T L a))) ∧ SC M0 M' (skp T L a) c lw k ms) := by
      intro hl h32
      have e2 := skp_off (L := L) h32
      rw [← e, e2]
      exact ⟨by rw [hT'.2 b (by omega)]; unfold sgn; rw [if_pos (by omega)], hs⟩
    unfold VX9_peek_0
    try unfold VX9_peek_66
    rw [hs.2.1, hT'.1]
    have at26 : ∀ Q : Int → MM → Prop, b < L → (Q (M' 26 b) M') → Con E l 2 qX7_at [vr 26, vi (b : Int)] M' (fun r M1 => ∃ y, r = some (vi y) ∧ Q y M1) := by
      intro Q hl hq
      refine (c_at_in (n := 40) rfl (by omega) (by omega)).fn ⟨_, rfl, ?_⟩
      rw [Int.toNat_natCast]
      exact hq
    refine ⟨by unfold R32; omega, by unfold R32; omega, fun c1 => ⟨by unfold R32; omega, by unfold R32; omega, fun c2 => ?_, fun c2 => absurd c1 c2⟩, fun c1 => at26 _ (by omega) ?_⟩
    · have e2 := skp_end (T := T) (L := L) (a := b) (by omega)
      rw [← e, e2]
      exact ⟨by unfold sgn; rw [if_neg (by omega)], hs⟩
    · rw [hT'.2 b (by omega), hs.2.1, hT'.1]
      have hR := T_R hI (a := b) (by omega)
      refine ⟨hR.1, fun c2 => ⟨by unfold R32; omega, by unfold R32; omega, fun c3 => absurd c3 c1, fun c3 => at26 _ (by omega) (fin (by omega) c2)⟩, ?_⟩
      rintro c2 M2 rfl
      refine ⟨⟨b + 1, hs.at (by omega), by omega, ?_⟩, ?_⟩
      · rw [← e, skp_on (by omega) c2]
      · rw [up_eq]; omega
end
