/-! the sheets -/
theorem w16_R (a : Int) : R32 (w16 a) := by
  have h1 := Int32.le_toInt ((Int32.ofInt a).toInt16.toInt32)
  have h2 := Int32.toInt_lt ((Int32.ofInt a).toInt16.toInt32)
  unfold w16 R32
  omega
abbrev SS : Type := (Nat → Int) × (Nat → Int) × (Nat → Int) × (Nat → Nat → Int)
def CS (M : MM) (S : SS) : Prop := ∀ s, s < 4 → M (29 + s) 1 = S.1 s ∧ M (29 + s) 2 = S.2.1 s ∧ M (29 + s) 3 = S.2.2.1 s ∧ ∀ j, j < 16 → M (33 + s) j = S.2.2.2 s j
def MS (M : MM) (S : SS) : Prop := ∀ s, s < 4 → M 53 s = S.2.2.1 s ∧ M 52 s = (if S.1 s = 1 then S.2.1 s else -1) ∧ ∀ j, j < 16 → M 54 (16 * s + j) = S.2.2.2 s j
def IS (S : SS) : Prop := ∀ s, s < 4 → (S.1 s = 0 ∨ S.1 s = 1) ∧ (0 ≤ S.2.1 s ∧ S.2.1 s ≤ 2) ∧ (0 ≤ S.2.2.1 s ∧ S.2.2.1 s ≤ 16) ∧ ∀ j, j < 16 → R64 (S.2.2.2 s j)
theorem RSh_to {M : MM} (h : RSh M) : ∃ S, CS M S ∧ MS M S ∧ IS S := by
  refine ⟨(fun s => M (29 + s) 1, fun s => M (29 + s) 2, fun s => M (29 + s) 3, fun s j => M (33 + s) j), fun s hs => ⟨rfl, rfl, rfl, fun j hj => rfl⟩, fun s hs => ?_, fun s hs => ?_⟩
  · obtain ⟨h1, h2, h3, h4, h5, h6⟩ := h s hs
    exact ⟨h4, h5, fun j hj => (h6 j hj).1.symm⟩
  · obtain ⟨h1, h2, h3, h4, h5, h6⟩ := h s hs
    exact ⟨h1, h2, h3, fun j hj => (h6 j hj).2⟩
theorem RSh_of {M : MM} {S : SS} (h1 : CS M S) (h2 : MS M S) (h3 : IS S) : RSh M := by
  intro s hs
  obtain ⟨a1, a2, a3, a4⟩ := h1 s hs
  obtain ⟨b1, b2, b3⟩ := h2 s hs
  obtain ⟨c1, c2, c3, c4⟩ := h3 s hs
  rw [a1, a2, a3, b1, b2]
  exact ⟨c1, c2, c3, rfl, rfl, fun j hj => by rw [a4 j hj, b3 j hj]; exact ⟨rfl, c4 j hj⟩⟩
def FsC (M M' : MM) : Prop := ∀ k p, rg k p ≠ 0 → ¬ (29 ≤ k ∧ k ≤ 36) → M' k p = M k p
def FsM (M M' : MM) : Prop := ∀ k p, rg k p ≠ 0 → ¬ (52 ≤ k ∧ k ≤ 54) → M' k p = M k p
theorem FsC.rf {M : MM} : FsC M M := fun _ _ _ _ => rfl
theorem FsM.rf {M : MM} : FsM M M := fun _ _ _ _ => rfl
theorem FsC.tr {M M1 M2 : MM} (h : FsC M M1) (h2 : FsC M1 M2) : FsC M M2 := fun k p a b => (h2 k p a b).trans (h k p a b)
theorem FsM.tr {M M1 M2 : MM} (h : FsM M M1) (h2 : FsM M1 M2) : FsM M M2 := fun k p a b => (h2 k p a b).trans (h k p a b)
theorem FsC.eqv {M M' : MM} (h : Eqv M M') : FsC M M' := fun k p a _ => h k p (rg_sc a)
theorem FsM.eqv {M M' : MM} (h : Eqv M M') : FsM M M' := fun k p a _ => h k p (rg_sc a)
theorem FsC.put {M M1 : MM} {k j : Nat} {x : Int} (h : FsC M M1) (hk : rg k j = 0 ∨ (29 ≤ k ∧ k ≤ 36)) : FsC M (up M1 k j x) := by
  intro k' j' a b
  rw [up_ne (fun e => by obtain ⟨e1, e2⟩ := e; subst e1; subst e2; omega)]
  exact h k' j' a b
theorem FsM.put {M M1 : MM} {k j : Nat} {x : Int} (h : FsM M M1) (hk : rg k j = 0 ∨ (52 ≤ k ∧ k ≤ 54)) : FsM M (up M1 k j x) := by
  intro k' j' a b
  rw [up_ne (fun e => by obtain ⟨e1, e2⟩ := e; subst e1; subst e2; omega)]
  exact h k' j' a b
theorem rg_4c {k p : Nat} (h : 29 ≤ k ∧ k ≤ 36) : rg k p = 4 := by
  unfold rg
  rw [if_neg (by omega), if_neg (by omega), if_neg (by omega), if_pos (by omega)]
theorem rg_4m {k p : Nat} (h : 52 ≤ k ∧ k ≤ 54) : rg k p = 4 := by
  unfold rg
  rw [if_neg (by omega), if_neg (by omega), if_neg (by omega), if_pos (by omega)]
theorem FsC.ag {M M' : MM} (h : FsC M M') {i : Nat} (hi : i ≠ 0 ∧ i ≠ 4) : AG i M M' := fun k p e => h k p (by omega) (fun q => by have := rg_4c (p := p) q; omega)
theorem FsM.ag {M M' : MM} (h : FsM M M') {i : Nat} (hi : i ≠ 0 ∧ i ≠ 4) : AG i M M' := fun k p e => h k p (by omega) (fun q => by have := rg_4m (p := p) q; omega)
theorem CS.fr {M M' : MM} {S : SS} (h : CS M S) (e : FsM M M') : CS M' S := by
  intro s hs
  obtain ⟨a1, a2, a3, a4⟩ := h s hs
  have q : ∀ k p, 29 ≤ k → k ≤ 36 → M' k p = M k p := fun k p h1 h2 => e k p (by rw [rg_4c ⟨h1, h2⟩]; decide) (by omega)
  exact ⟨(q _ _ (by omega) (by omega)).trans a1, (q _ _ (by omega) (by omega)).trans a2, (q _ _ (by omega) (by omega)).trans a3, fun j hj => (q _ _ (by omega) (by omega)).trans (a4 j hj)⟩
theorem MS.fr {M M' : MM} {S : SS} (h : MS M S) (e : FsC M M') : MS M' S := by
  intro s hs
  obtain ⟨a1, a2, a3⟩ := h s hs
  have q : ∀ k p, 52 ≤ k → k ≤ 54 → M' k p = M k p := fun k p h1 h2 => e k p (by rw [rg_4m ⟨h1, h2⟩]; decide) (by omega)
  exact ⟨(q _ _ (by omega) (by omega)).trans a1, (q _ _ (by omega) (by omega)).trans a2, fun j hj => (q _ _ (by omega) (by omega)).trans (a3 j hj)⟩
theorem CS.eqv {M M' : MM} {S : SS} (h : CS M S) (e : Eqv M M') : CS M' S := h.fr (FsM.eqv e)
theorem MS.eqv {M M' : MM} {S : SS} (h : MS M S) (e : Eqv M M') : MS M' S := h.fr (FsC.eqv e)
/-- class and reference alike, where sheets may change -/
theorem eqH {E : FX} {l : Launch} {mk : Int → AV} {qc qm : MI} {As : List AV} (F : (Nat → Int) → SS → Int × SS)
    (hi : ∀ W S, IW W → IS S → IS (F W S).2)
    (hc : ∀ M W S, PC M W → CS M S → IW W → IS S → Con E l 20 qc (vr 0 :: As) M (fun r M' => r = some (mk (F W S).1) ∧ CS M' (F W S).2 ∧ FsC M M'))
    (hm : ∀ M W S, PM M W → MS M S → IW W → IS S → Con E l 20 qm (vr 44 :: As) M (fun r M' => r = some (mk (F W S).1) ∧ MS M' (F W S).2 ∧ FsM M M')) : EqA E l mk qc qm As := by
  intro M hR
  obtain ⟨⟨W, h1, h2, h3⟩, h4, h5, h6⟩ := hR
  obtain ⟨S, t1, t2, t3⟩ := RSh_to h5
  refine (hc M W S h1 t1 h3 t3).mono ?_ (Nat.le_refl _)
  rintro _ M1 ⟨rfl, s1, k1⟩
  refine ⟨_, rfl, (hm M1 W S (h2.ag (k1.ag (by decide))) (t2.fr k1) h3 t3).mono ?_ (Nat.le_refl _)⟩
  rintro _ M2 ⟨rfl, s2, k2⟩
  refine ⟨rfl, ⟨⟨W, (h1.ag (k1.ag (by decide))).ag (k2.ag (by decide)), (h2.ag (k1.ag (by decide))).ag (k2.ag (by decide)), h3⟩, ?_, RSh_of (s1.fr k2) s2 (hi W S h3 t3), ?_⟩, ?_⟩
  · exact (h4.ag (k1.ag (by decide))).ag (k2.ag (by decide))
  · exact (h6.ag (k1.ag (by decide))).ag (k2.ag (by decide))
  · exact (k1.ag (i := 6) (by decide)).tr (k2.ag (by decide))
theorem sh_kd : ∀ s, s < 4 → kd (29 + s) = (3, 6) ∧ (ft (29 + s))[0]? = some (33 + s + 2) ∧ (ft (29 + s))[1]? = some 0 ∧ (ft (29 + s))[2]? = some 0 ∧ (ft (29 + s))[3]? = some 0 ∧ kd (33 + s) = (1, 16) := by decide +kernel
def cutL (ln v : Int) : Int := if ln = 0 then w16 (w32 v) else if ln = 1 then w32 v else v
theorem cutL_R {ln v : Int} (h : R64 v) : R64 (cutL ln v) := by
  have h1 := w16_R (w32 v)
  have h2 := w32_R v
  unfold cutL R64 at *
  split
  · omega
  · split <;> omega
/-- what is against it -/
def barv (th ln sz lane i n : Int) : Int := if th = 0 then -11 else if ¬ ln = lane then -12 else if 0 ≤ i ∧ 0 ≤ n ∧ i + n ≤ sz then 0 else -13
theorem barv_R (th ln sz lane i n : Int) : R32 (barv th ln sz lane i n) ∧ barv th ln sz lane i n ≤ 0 := by
  unfold barv
  split
  · decide
  · split
    · decide
    · split <;> decide
theorem barv_0 {th ln sz lane i n : Int} (h : barv th ln sz lane i n = 0) : ¬ th = 0 ∧ ln = lane ∧ 0 ≤ i ∧ 0 ≤ n ∧ i + n ≤ sz := by
  unfold barv at h
  split at h
  · cases h
  · split at h
    · cases h
    · split at h
      · rename_i h1 h2 h3
        exact ⟨h1, Decidable.not_not.mp h2, h3⟩
      · cases h
def barS (S : SS) (a lane i n : Int) : Int := barv (S.1 a.toNat) (S.2.1 a.toNat) (S.2.2.1 a.toNat) lane i n
section
variable {E : FX} {l : Launch} {M : MM} {S : SS} {a lane i n : Int}
theorem c_sheetOf (ha : R32 a) : Con E l 1 qX11_sheetOf [vr 0, vi a] M (fun r M' => r = some (vo (if 0 ≤ a ∧ a ≤ 3 then some (29 + a.toNat) else none)) ∧ M' = M) := by
  refine RX11_sheetOf ?_
  unfold VX11_sheetOf_0
  try unfold VX11_sheetOf_23
  refine ⟨ha, fun c1 => ⟨?_, rfl⟩, fun c1 => ⟨ha, fun c2 => ⟨?_, rfl⟩, fun c2 => ⟨by omega, by omega, ?_, rfl⟩⟩⟩
  · rw [if_neg (by omega)]
  · rw [if_neg (by omega)]
  · rw [if_pos (by omega)]
theorem c_isSheet (ha : R32 a) : Con E l 2 qX12_isSheet [vi a] M (fun r M' => r = some (vi (b01 (0 ≤ a ∧ a ≤ 3))) ∧ M' = M) := by
  refine RX12_isSheet ?_
  unfold VX12_isSheet_0
  refine ⟨ha, (c_in (r32_64 ha) (by decide) (by decide)).fn ⟨_, rfl, ?_, rfl, rfl⟩⟩
  unfold b01
  split
  · exact Or.inr rfl
  · exact Or.inl rfl
theorem c_spans {s : Nat} (hs : s < 4) (hi : R32 i) (hn : R32 n) (h3 : 0 ≤ M (29 + s) 3 ∧ M (29 + s) 3 ≤ 16) : Con E l 1 qX8_spans [vr (29 + s), vi i, vi n] M (fun r M' => r = some (vi (b01 (0 ≤ i ∧ 0 ≤ n ∧ i + n ≤ M (29 + s) 3))) ∧ M' = M) := by
  obtain ⟨k1, k2, k3, k4, k5, k6⟩ := sh_kd s hs
  refine RX8_spans ?_
  unfold VX8_spans_0
  try unfold VX8_spans_43
  refine ⟨hi, fun c1 => ⟨Or.inl rfl, ?_, rfl⟩, fun c1 => ⟨hn, fun c2 => ⟨Or.inl rfl, ?_, rfl⟩, fun c2 => ⟨k1, k5, hn, by unfold R32; omega, fun c3 => ⟨Or.inl rfl, ?_, rfl⟩, fun c3 => ⟨k1, k5, hi, by unfold R32; omega, fun c4 => ⟨Or.inl rfl, ?_, rfl⟩, fun c4 => ⟨k1, k5, k1, 33 + s, k2, 1, 16, k6, by decide, by unfold R32; omega, by decide, fun c5 => absurd c5 (by omega), fun c5 => ⟨Or.inr rfl, ?_, rfl⟩⟩⟩⟩⟩⟩
  · rw [b01, if_neg (by omega)]
  · rw [b01, if_neg (by omega)]
  · rw [b01, if_neg (by omega)]
  · rw [b01, if_neg (by omega)]
  · rw [b01, if_pos (by omega)]
/-- the class's word on it -/
def refS (S : SS) (a lane i n : Int) : Int := if (0 ≤ a ∧ a ≤ 3) ∧ (0 ≤ lane ∧ lane ≤ 2) then barS S a lane i n else -1
theorem refS_R (S : SS) (a lane i n : Int) : R32 (refS S a lane i n) ∧ refS S a lane i n ≤ 0 := by
  unfold refS
  split
  · exact barv_R _ _ _ _ _ _
  · decide
theorem c_refusal (hC : CS M S) (hI : IS S) (ha : R32 a) (hl : R32 lane) (hi : R32 i) (hn : R32 n) : Con E l 2 qX11_refusal [vr 0, vi a, vi lane, vi i, vi n] M (fun r M' => r = some (vi (refS S a lane i n)) ∧ M' = M) := by
  refine RX11_refusal (D := 1) ?_
  unfold VX11_refusal_0
  try unfold VX11_refusal_63
  refine (c_sheetOf ha).fn ⟨_, rfl, fun c1 => ⟨?_, rfl⟩, fun k4 c1 => ?_⟩
  · unfold refS
    by_cases c : 0 ≤ a ∧ a ≤ 3
    · rw [if_pos c] at c1; cases c1
    · rw [if_neg (fun q => c q.1)]
  · by_cases c : 0 ≤ a ∧ a ≤ 3
    · rw [if_pos c] at c1
      cases c1
      obtain ⟨s, rfl⟩ : ∃ s : Nat, a = s := ⟨a.toNat, by omega⟩
      have hs : s < 4 := by omega
      rw [Int.toNat_natCast]
      obtain ⟨k1, k2, k3, k4, k5, k6⟩ := sh_kd s hs
      obtain ⟨e1, e2, e3, e4⟩ := hC s hs
      obtain ⟨i1, i2, i3, i4⟩ := hI s hs
      refine (c_within hl (by decide) (by decide)).fn ⟨_, rfl, b01_R, fun c2 => ?_, fun c2 => ⟨?_, rfl⟩⟩
      · rw [b01_n0] at c2
        have er : refS S s lane i n = barv (S.1 s) (S.2.1 s) (S.2.2.1 s) lane i n := by
          unfold refS barS
          rw [if_pos ⟨c, c2⟩, Int.toNat_natCast]
        rw [er, e1, e2]
        unfold barv
        refine ⟨k1, k3, by unfold R32; omega, fun c3 => ⟨k1, k4, by unfold R32; omega, hl, fun c4 => ⟨k1, (c_spans hs hi hn (by omega)).fn ⟨_, rfl, b01_R, fun c5 => ⟨?_, rfl⟩, fun c5 => ⟨?_, rfl⟩⟩⟩, fun c4 => ⟨?_, rfl⟩⟩, fun c3 => ⟨?_, rfl⟩⟩
        · rw [b01_0, e3] at c5
          rw [if_neg c3, if_neg (fun q => q c4), if_neg c5]
        · rw [b01_n0, e3] at c5
          rw [if_neg c3, if_neg (fun q => q c4), if_pos c5]
        · rw [if_neg c3, if_pos c4]
        · rw [if_pos c3]
      · rw [b01_0] at c2
        unfold refS
        rw [if_neg (fun q => c2 q.2)]
    · rw [if_neg c] at c1; cases c1
theorem m_bars {s : Nat} (hM : MS M S) (hI : IS S) (hs : s < 4) (hl : R32 lane) (hi : R32 i) (hn : R32 n) : Con E l 1 qX12_bars [vr 44, vi s, vi lane, vi i, vi n] M (fun r M' => r = some (vi (barv (S.1 s) (S.2.1 s) (S.2.2.1 s) lane i n)) ∧ M' = M) := by
  obtain ⟨e1, e2, e3⟩ := hM s hs
  obtain ⟨i1, i2, i3, i4⟩ := hI s hs
  refine RX12_bars ?_
  unfold VX12_bars_0
  try unfold VX12_bars_61
  rw [Int.toNat_natCast, e1, e2]
  have h52 : (S.1 s = 1 ∧ (if S.1 s = 1 then S.2.1 s else -1) = S.2.1 s) ∨ (S.1 s = 0 ∧ (if S.1 s = 1 then S.2.1 s else -1) = -1) := by
    rcases i1 with q | q
    · exact Or.inr ⟨q, if_neg (by omega)⟩
    · exact Or.inl ⟨q, if_pos q⟩
  rcases h52 with ⟨q, eq⟩ | ⟨q, eq⟩
  · rw [eq]
    unfold barv
    refine ⟨by omega, by omega, by unfold R32; omega, fun c1 => ⟨by omega, by omega, by unfold R32; omega, hl, fun c2 => ⟨hi, fun c3 => ⟨?_, rfl⟩, fun c3 => ⟨hn, fun c4 => ⟨?_, rfl⟩, fun c4 => ⟨hi, hn, by omega, by omega, by unfold R32; omega, by unfold R64; omega, by unfold R64; omega, fun c5 => ⟨?_, rfl⟩, fun c5 => ⟨?_, rfl⟩⟩⟩⟩, fun c2 => ⟨?_, rfl⟩⟩, fun c1 => by omega⟩
    · rw [if_neg (by omega), if_neg (fun w => w c2), if_neg (by omega)]
    · rw [if_neg (by omega), if_neg (fun w => w c2), if_neg (by omega)]
    · rw [if_neg (by omega), if_neg (fun w => w c2), if_pos (by omega)]
    · rw [if_neg (by omega), if_neg (fun w => w c2), if_neg (by omega)]
    · rw [if_neg (by omega), if_pos c2]
  · rw [eq]
    unfold barv
    exact ⟨by omega, by omega, by decide, fun c1 => absurd c1 (by decide), fun c1 => ⟨by rw [if_pos q], rfl⟩⟩
theorem c_cutTo {v : Int} (hl : 0 ≤ lane ∧ lane ≤ 2) : Con E l 1 qX12_cutTo [vi lane, vj v] M (fun r M' => r = some (vj (cutL lane v)) ∧ M' = M) := by
  refine RX12_cutTo ?_
  unfold VX12_cutTo_0
  try unfold VX12_cutTo_23
  refine ⟨by unfold R32; omega, fun c1 => ⟨by unfold R32; omega, fun c2 => ⟨?_, rfl⟩, fun c2 => ⟨w32_R _, ?_, rfl⟩⟩, fun c1 => ⟨w16_R _, ?_, rfl⟩⟩
  · unfold cutL; rw [if_neg c1, if_neg c2]
  · unfold cutL; rw [if_neg c1, if_pos c2]
  · unfold cutL; rw [if_pos c1]
theorem c_write {s : Nat} {v : Int} (hs : s < 4) (h2 : 0 ≤ M (29 + s) 2 ∧ M (29 + s) 2 ≤ 2) (hi : 0 ≤ i ∧ i < 16) : Con E l 2 qX8_write [vr (29 + s), vi i, vj v] M (fun r M' => r = none ∧ M' = up M (33 + s) i.toNat (cutL (M (29 + s) 2) v)) := by
  obtain ⟨k1, k2, k3, k4, k5, k6⟩ := sh_kd s hs
  refine RX8_write (D := 1) ?_
  unfold VX8_write_0
  try unfold VX8_write_34
  refine ⟨k1, 33 + s, k2, k1, k4, by unfold R32; omega, fun c1 => ⟨k1, k4, by unfold R32; omega, fun c2 => ?_, fun c2 => ⟨w32_R _, ?_⟩⟩, fun c1 => ⟨w16_R _, ?_⟩⟩
  · refine (c_putj (n := 16) k6 hi.1 hi.2).fn ⟨rfl, rfl, ?_⟩
    unfold cutL; rw [if_neg c1, if_neg c2]
  · refine (c_putj (n := 16) k6 hi.1 hi.2).fn ⟨rfl, rfl, ?_⟩
    unfold cutL; rw [if_neg c1, if_pos c2]
  · refine (c_putj (n := 16) k6 hi.1 hi.2).fn ⟨rfl, rfl, ?_⟩
    unfold cutL; rw [if_pos c1]
end
