/-! copy -/
theorem CS.cp {M : MM} {S : SS} {s0 s1 : Nat} {i j n : Int} (h : CS M S) (h0 : s0 < 4) (h1 : s1 < 4) (hi : 0 ≤ i) (hj : 0 ≤ j) (hn : 0 ≤ n) (h5 : i + n ≤ 16) : CS (cpM M (33 + s0) i.toNat (33 + s1) j.toNat n.toNat) (setI S s1 (fun q => if j ≤ (q : Int) ∧ (q : Int) < j + n then S.2.2.2 s0 (i.toNat + (q - j.toNat)) else S.2.2.2 s1 q)) := by
  intro s hs
  obtain ⟨a1, a2, a3, a4⟩ := h s hs
  have ne : ∀ p, cpM M (33 + s0) i.toNat (33 + s1) j.toNat n.toNat (29 + s) p = M (29 + s) p := fun p => by
    unfold cpM
    exact if_neg (by omega)
  refine ⟨(ne 1).trans a1, (ne 2).trans a2, (ne 3).trans a3, fun q hq => ?_⟩
  show _ = (if s = s1 then (if j ≤ (q : Int) ∧ (q : Int) < j + n then S.2.2.2 s0 (i.toNat + (q - j.toNat)) else S.2.2.2 s1 q) else S.2.2.2 s q)
  unfold cpM
  by_cases c : s = s1
  · subst c
    rw [if_pos rfl]
    by_cases d : j ≤ (q : Int) ∧ (q : Int) < j + n
    · rw [if_pos d, if_pos (by omega)]
      exact (h s0 h0).2.2.2 _ (by omega)
    · rw [if_neg d, if_neg (by omega)]
      exact a4 q hq
  · rw [if_neg c, if_neg (by omega)]
    exact a4 q hq
theorem FsC.cp {M M1 : MM} {k0 sp k1 dp n : Nat} (h : FsC M M1) (hk : 29 ≤ k1 ∧ k1 ≤ 36) : FsC M (cpM M1 k0 sp k1 dp n) := by
  intro k p a b
  unfold cpM
  rw [if_neg (by omega)]
  exact h k p a b
/-- what the copying wants -/
def okCp (S : SS) (a i b j n : Int) : Prop := ((0 ≤ a ∧ a ≤ 3) ∧ (0 ≤ b ∧ b ≤ 3)) ∧ (S.1 a.toNat = 1 ∧ S.1 b.toNat = 1) ∧ S.2.1 a.toNat = S.2.1 b.toNat ∧ (0 ≤ i ∧ 0 ≤ n ∧ i + n ≤ S.2.2.1 a.toNat) ∧ (0 ≤ j ∧ 0 ≤ n ∧ j + n ≤ S.2.2.1 b.toNat)
def cpS (S : SS) (a i b j n : Int) : SS := setI S b.toNat (fun q => if j ≤ (q : Int) ∧ (q : Int) < j + n then S.2.2.2 a.toNat (i.toNat + (q - j.toNat)) else S.2.2.2 b.toNat q)
theorem copyF_ok {S : SS} {a i b j n : Int} {W : Nat → Int} (h : okCp S a i b j n) : copyF a i b j n W S = (n, cpS S a i b j n) := by
  obtain ⟨h1, h2, h3, h4⟩ := h
  unfold copyF cpS
  rw [if_pos h1, if_neg (by omega), if_neg (fun q => q h3), if_pos h4]
theorem copyF_bad {S : SS} {a i b j n : Int} {W : Nat → Int} (h : ¬ ((0 ≤ a ∧ a ≤ 3) ∧ (0 ≤ b ∧ b ≤ 3))) : copyF a i b j n W S = (-1, S) := if_neg h
theorem copyF_nul {S : SS} {a i b j n : Int} {W : Nat → Int} (h : (0 ≤ a ∧ a ≤ 3) ∧ (0 ≤ b ∧ b ≤ 3)) (h2 : S.1 a.toNat = 0 ∨ S.1 b.toNat = 0) : copyF a i b j n W S = (-11, S) := by
  unfold copyF
  rw [if_pos h, if_pos h2]
theorem copyF_cst {S : SS} {a i b j n : Int} {W : Nat → Int} (h : (0 ≤ a ∧ a ≤ 3) ∧ (0 ≤ b ∧ b ≤ 3)) (h2 : ¬ (S.1 a.toNat = 0 ∨ S.1 b.toNat = 0)) (h3 : ¬ S.2.1 a.toNat = S.2.1 b.toNat) : copyF a i b j n W S = (-12, S) := by
  unfold copyF
  rw [if_pos h, if_neg h2, if_pos h3]
theorem copyF_idx {S : SS} {a i b j n : Int} {W : Nat → Int} (h : (0 ≤ a ∧ a ≤ 3) ∧ (0 ≤ b ∧ b ≤ 3)) (h2 : ¬ (S.1 a.toNat = 0 ∨ S.1 b.toNat = 0)) (h3 : S.2.1 a.toNat = S.2.1 b.toNat) (h4 : ¬ ((0 ≤ i ∧ 0 ≤ n ∧ i + n ≤ S.2.2.1 a.toNat) ∧ (0 ≤ j ∧ 0 ≤ n ∧ j + n ≤ S.2.2.1 b.toNat))) : copyF a i b j n W S = (-13, S) := by
  unfold copyF
  rw [if_pos h, if_neg h2, if_neg (fun q => q h3), if_neg h4]
section
variable {E : FX} {l : Launch} {M : MM} {S : SS} {a b lane i j n v : Int}
theorem k_copy {W : Nat → Int} (ha : R32 a) (hi : R32 i) (hb : R32 b) (hj : R32 j) (hn : R32 n) (hC : CS M S) (hS : IS S) : Con E l 20 qX11_copy [vr 0, vi a, vi i, vi b, vi j, vi n] M (fun r M' => r = some (vi (copyF a i b j n W S).1) ∧ CS M' (copyF a i b j n W S).2 ∧ FsC M M') := by
  refine (RX11_copy (D := 3) (by decide) ?_).up (by decide)
  unfold VX11_copy_0
  have bad : ∀ x, copyF a i b j n W S = (x, S) → some (vi x) = some (vi (copyF a i b j n W S).1) ∧ CS M (copyF a i b j n W S).2 ∧ FsC M M := fun x e => by
    rw [e]
    exact ⟨rfl, hC, FsC.rf⟩
  refine (c_sheetOf ha).fn ⟨_, rfl, (c_sheetOf hb).fn ⟨_, rfl, fun q1 => ?_, fun k7 q1 => ⟨fun q2 => ?_, fun k10 q2 => ?_⟩⟩⟩
  · refine bad _ (copyF_bad (fun q => ?_))
    rw [if_pos q.1] at q1
    cases q1
  · refine bad _ (copyF_bad (fun q => ?_))
    rw [if_pos q.2] at q2
    cases q2
  · have ca : 0 ≤ a ∧ a ≤ 3 := by
      apply Decidable.byContradiction
      intro q
      rw [if_neg q] at q1
      cases q1
    have cb : 0 ≤ b ∧ b ≤ 3 := by
      apply Decidable.byContradiction
      intro q
      rw [if_neg q] at q2
      cases q2
    rw [if_pos ca] at q1
    rw [if_pos cb] at q2
    cases q1
    cases q2
    have has : a.toNat < 4 := by omega
    have hbs : b.toNat < 4 := by omega
    obtain ⟨k1, k2, k3, k4, k5, k6⟩ := sh_kd a.toNat has
    obtain ⟨g1, g2, g3, g4, g5, g6⟩ := sh_kd b.toNat hbs
    obtain ⟨e1, e2, e3, e4⟩ := hC a.toNat has
    obtain ⟨f1, f2, f3, f4⟩ := hC b.toNat hbs
    obtain ⟨i1, i2, i3, i4⟩ := hS a.toNat has
    obtain ⟨j1, j2, j3, j4⟩ := hS b.toNat hbs
    have r1 : R32 (M (29 + a.toNat) 1) := by unfold R32; omega
    have r2 : R32 (M (29 + b.toNat) 1) := by unfold R32; omega
    have r3 : R32 (M (29 + a.toNat) 2) := by unfold R32; omega
    have r4 : R32 (M (29 + b.toNat) 2) := by unfold R32; omega
    refine ⟨k1, k3, r1, fun c1 => bad _ (copyF_nul ⟨ca, cb⟩ (Or.inl (by omega))), fun c1 => ⟨g1, g3, r2, fun c2 => ⟨k1, k4, g1, g4, r3, r4, fun c3 => ⟨k1, (c_spans has hi hn (by omega)).fn ⟨_, rfl, b01_R, fun c4 => ?_, fun c4 => ⟨g1, (c_spans hbs hj hn (by omega)).fn ⟨_, rfl, b01_R, fun c5 => ?_, fun c5 => ?_⟩⟩⟩⟩, fun c3 => bad _ (copyF_cst ⟨ca, cb⟩ (by omega) (by omega))⟩, fun c2 => bad _ (copyF_nul ⟨ca, cb⟩ (Or.inr (by omega)))⟩⟩
    · rw [b01_0] at c4
      exact bad _ (copyF_idx ⟨ca, cb⟩ (by omega) (by omega) (by omega))
    · rw [b01_n0] at c4 c5
      refine ⟨k1, 33 + a.toNat, k2, g1, 33 + b.toNat, g2, 16, k6, 16, g6, by omega, by omega, by omega, by omega, by omega, fun M33 h33 => ?_⟩
      rw [copyF_ok (S := S) ⟨⟨ca, cb⟩, by omega, by omega, by omega, by omega⟩, h33]
      exact ⟨rfl, CS.cp hC has hbs (by omega) (by omega) (by omega) (by omega), FsC.rf.cp (by omega)⟩
    · rw [b01_n0] at c4
      rw [b01_0] at c5
      exact bad _ (copyF_idx ⟨ca, cb⟩ (by omega) (by omega) (by omega))
theorem m_copy {W : Nat → Int} (ha : R32 a) (hi : R32 i) (hb : R32 b) (hj : R32 j) (hn : R32 n) (hC : MS M S) (hS : IS S) : Con E l 20 qX12_copy [vr 44, vi a, vi i, vi b, vi j, vi n] M (fun r M' => r = some (vi (copyF a i b j n W S).1) ∧ MS M' (copyF a i b j n W S).2 ∧ FsM M M') := by
  have bad : ∀ x, copyF a i b j n W S = (x, S) → some (vi x) = some (vi (copyF a i b j n W S).1) ∧ MS M (copyF a i b j n W S).2 ∧ FsM M M := fun x e => by
    rw [e]
    exact ⟨rfl, hC, FsM.rf⟩
  refine (RX12_copy (D := 3)
    (fun M' x1 x2 x3 x4 x5 x7 => x1 = a ∧ x2 = i ∧ x3 = b ∧ x4 = j ∧ x5 = n ∧ okCp S a i b j n ∧ FsM M M' ∧ MS M' S ∧ ∃ k : Nat, x7 = k ∧ (k : Int) ≤ n ∧ ∀ q, q < k → M' 55 q = S.2.2.2 a.toNat (i.toNat + q))
    (fun _ _ _ _ _ _ x7 => 100 + (16 - x7).toNat)
    (fun M' x3 x4 x5 x7 => x3 = b ∧ x4 = j ∧ x5 = n ∧ okCp S a i b j n ∧ FsM M M' ∧ ∃ k : Nat, x7 = k ∧ (k : Int) ≤ n ∧ (∀ q : Nat, (q : Int) < n → M' 55 q = S.2.2.2 a.toNat (i.toNat + q)) ∧ MS M' (cpS S a i b j k))
    (fun _ _ _ _ x7 => (16 - x7).toNat) ?_ ?_ ?_).up (by decide)
  · unfold VX12_copy_0
    refine (c_isSheet ha).fn ⟨_, rfl, b01_R, fun c1 => bad _ (copyF_bad (fun q => b01_0.mp c1 q.1)), fun c1 => (c_isSheet hb).fn ⟨_, rfl, b01_R, fun c2 => ?_, fun c2 => bad _ (copyF_bad (fun q => b01_0.mp c2 q.2))⟩⟩
    rw [b01_n0] at c1 c2
    obtain ⟨s, rfl⟩ : ∃ s : Nat, a = s := ⟨a.toNat, by omega⟩
    obtain ⟨t, rfl⟩ : ∃ t : Nat, b = t := ⟨b.toNat, by omega⟩
    have hs : s < 4 := by omega
    have ht : t < 4 := by omega
    obtain ⟨e1, e2, e3⟩ := hC s hs
    obtain ⟨f1, f2, f3⟩ := hC t ht
    obtain ⟨i1, i2, i3, i4⟩ := hS s hs
    obtain ⟨j1, j2, j3, j4⟩ := hS t ht
    have l1 : (S.1 s = 1 ∧ M 52 s = S.2.1 s) ∨ (S.1 s = 0 ∧ M 52 s = -1) := by
      rcases i1 with q | q
      · exact Or.inr ⟨q, by rw [e2, if_neg (by omega)]⟩
      · exact Or.inl ⟨q, by rw [e2, if_pos q]⟩
    have l2 : (S.1 t = 1 ∧ M 52 t = S.2.1 t) ∨ (S.1 t = 0 ∧ M 52 t = -1) := by
      rcases j1 with q | q
      · exact Or.inr ⟨q, by rw [f2, if_neg (by omega)]⟩
      · exact Or.inl ⟨q, by rw [f2, if_pos q]⟩
    rw [Int.toNat_natCast, Int.toNat_natCast]
    have r1 : R32 (M 52 s) := by unfold R32; omega
    have r2 : R32 (M 52 t) := by unfold R32; omega
    refine ⟨by omega, by omega, r1, fun c3 => bad _ (copyF_nul ⟨c1, c2⟩ (Or.inl (by show S.1 s = 0; omega))), fun c3 => ⟨by omega, by omega, r2, fun c4 => ⟨by omega, by omega, (m_bars hC hS hs r2 hi hn).fn ⟨_, rfl, (barv_R _ _ _ _ _ _).1, fun c5 => ?_, fun c5 => ⟨by omega, by omega, (m_bars hC hS ht r1 hj hn).fn ⟨_, rfl, ?_⟩⟩⟩⟩, fun c4 => bad _ (copyF_nul ⟨c1, c2⟩ (Or.inr (by show S.1 t = 0; omega)))⟩⟩
    · unfold VX12_copy_78
      refine ⟨(barv_R _ _ _ _ _ _).1, fun q => absurd q c5, fun _ => bad _ ?_⟩
      have nn : ¬ (S.1 ((s : Nat) : Int).toNat = 0 ∨ S.1 ((t : Nat) : Int).toNat = 0) := by show ¬ (S.1 s = 0 ∨ S.1 t = 0); omega
      unfold barv at c5 ⊢
      by_cases d : S.2.1 s = M 52 t
      · rw [if_neg (by omega), if_neg (fun q => q d)] at c5 ⊢
        by_cases d2 : 0 ≤ i ∧ 0 ≤ n ∧ i + n ≤ S.2.2.1 s
        · rw [if_pos d2] at c5
          exact absurd rfl c5
        · rw [if_neg d2]
          exact copyF_idx ⟨c1, c2⟩ nn (by show S.2.1 s = S.2.1 t; omega) (fun q => d2 q.1)
      · rw [if_neg (by omega), if_pos d]
        exact copyF_cst ⟨c1, c2⟩ nn (by show ¬ S.2.1 s = S.2.1 t; omega)
    · obtain ⟨b1, b2, b3⟩ := barv_0 c5
      have nn : ¬ (S.1 ((s : Nat) : Int).toNat = 0 ∨ S.1 ((t : Nat) : Int).toNat = 0) := by show ¬ (S.1 s = 0 ∨ S.1 t = 0); omega
      have d0 : S.2.1 s = S.2.1 t := by omega
      unfold VX12_copy_78
      have eb : barv (S.1 t) (S.2.1 t) (S.2.2.1 t) (M 52 s) j n = if 0 ≤ j ∧ 0 ≤ n ∧ j + n ≤ S.2.2.1 t then 0 else -13 := by
        unfold barv
        rw [if_neg (by omega), if_neg (by omega)]
      rw [eb]
      by_cases d2 : 0 ≤ j ∧ 0 ≤ n ∧ j + n ≤ S.2.2.1 t
      · rw [if_pos d2]
        refine ⟨by decide, fun _ => ⟨rfl, rfl, rfl, rfl, rfl, ⟨⟨c1, c2⟩, ⟨?_, ?_⟩, d0, b3, d2⟩, FsM.rf, hC, 0, rfl, by omega, fun q hq => absurd hq (by omega)⟩, fun q => absurd rfl q⟩
        · show S.1 s = 1
          omega
        · show S.1 t = 1
          omega
      · rw [if_neg d2]
        exact ⟨by decide, fun q => absurd q (by decide), fun _ => bad _ (copyF_idx ⟨c1, c2⟩ nn d0 (fun q => d2 q.2))⟩
  · rintro M' a i b j n _ ⟨rfl, rfl, rfl, rfl, rfl, ok, f, h, k, rfl, hk, hq⟩
    obtain ⟨⟨o1, o2⟩, ⟨o3, o4⟩, o5, o6, o7⟩ := id ok
    have hs : a.toNat < 4 := by omega
    obtain ⟨i1, i2, i3, i4⟩ := hS a.toNat hs
    obtain ⟨e1, e2, e3⟩ := h a.toNat hs
    unfold VX12_copy_91
    refine ⟨by unfold R32; omega, hn, fun c1 => ⟨⟨rfl, rfl, rfl, ok, f, 0, rfl, by omega, fun q hq2 => hq q (by omega), ?_⟩, by omega⟩, fun c1 => ⟨by omega, by omega, by omega, by omega, fun M27 h27 y29 h29 => ⟨⟨rfl, rfl, rfl, rfl, rfl, ok, ?_, ?_, k + 1, by omega, by omega, fun q hq2 => ?_⟩, by omega⟩⟩⟩
    · have e : cpS S a i b j (0 : Nat) = S := by
        unfold cpS
        have e0 : (fun q : Nat => if j ≤ (q : Int) ∧ (q : Int) < j + (0 : Nat) then S.2.2.2 a.toNat (i.toNat + (q - j.toNat)) else S.2.2.2 b.toNat q) = S.2.2.2 b.toNat := by
          funext q
          exact if_neg (by omega)
        rw [e0, setI_id]
      rw [e]
      exact h
    · rw [h27]
      exact f.put (Or.inl (by simp [rg]))
    · rw [h27]
      exact h.fr (FsC.rf.put (Or.inl (by simp [rg])))
    · rw [h27]
      by_cases d : q = k
      · subst d
        rw [Int.toNat_natCast, up_eq, show (16 * a + i + (q : Int)).toNat = 16 * a.toNat + (i.toNat + q) by omega]
        exact e3 _ (by omega)
      · rw [Int.toNat_natCast, up_ne (by omega)]
        exact hq q (by omega)
  · rintro M' b j n _ ⟨rfl, rfl, rfl, ok, f, k, rfl, hk, hq, h⟩
    obtain ⟨⟨o1, o2⟩, ⟨o3, o4⟩, o5, o6, o7⟩ := id ok
    have hs : a.toNat < 4 := by omega
    have ht : b.toNat < 4 := by omega
    obtain ⟨i1, i2, i3, i4⟩ := hS a.toNat hs
    obtain ⟨j1, j2, j3, j4⟩ := hS b.toNat ht
    unfold VX12_copy_128
    refine ⟨by unfold R32; omega, hn, fun c1 => ?_, fun c1 => ⟨by omega, by omega, by omega, by omega, fun M33 h33 y35 h35 => ⟨⟨rfl, rfl, rfl, ok, ?_, k + 1, by omega, by omega, fun q hq2 => ?_, ?_⟩, by omega⟩⟩⟩
    · rw [copyF_ok ok]
      obtain ek : (k : Int) = n := by omega
      rw [ek] at h
      exact ⟨rfl, h, f⟩
    · rw [h33]
      exact f.put (Or.inr (by decide))
    · rw [h33, up_ne (by omega)]
      exact hq q hq2
    · rw [h33, show (16 * b + j + (k : Int)).toNat = 16 * b.toNat + (j.toNat + k) by omega, Int.toNat_natCast, hq k (by omega)]
      refine MS.put h ht (by omega) (fun q hq2 => ?_)
      by_cases d : q = j.toNat + k
      · rw [if_pos d, if_pos (by omega), show i.toNat + (q - j.toNat) = i.toNat + k by omega]
      · rw [if_neg d]
        by_cases d2 : j ≤ (q : Int) ∧ (q : Int) < j + k
        · rw [if_pos d2, if_pos (by omega)]
        · rw [if_neg d2, if_neg (by omega)]
theorem e_copy (ha : R32 a) (hi : R32 i) (hb : R32 b) (hj : R32 j) (hn : R32 n) : EqA E l vi qX11_copy qX12_copy [vi a, vi i, vi b, vi j, vi n] := by
  refine eqH (copyF a i b j n) (fun W S hW hS => ?_) (fun M W S hP hC hW hS => k_copy ha hi hb hj hn hC hS) (fun M W S hP hC hW hS => m_copy ha hi hb hj hn hC hS)
  unfold copyF
  split
  · rename_i ok
    split
    · exact hS
    · split
      · exact hS
      · split
        · rename_i c3
          refine hS.setI (fun q hq => ?_)
          split
          · obtain ⟨_, _, h3, h4⟩ := hS a.toNat (by omega)
            exact h4 _ (by omega)
          · exact (hS b.toNat (by omega)).2.2.2 q hq
        · exact hS
  · exact hS
end
