/-! item, drop, sheet, film, copy -/
def setI (S : SS) (s : Nat) (f : Nat → Int) : SS := (S.1, S.2.1, S.2.2.1, fun s' j => if s' = s then f j else S.2.2.2 s' j)
theorem setI_s {S : SS} {s : Nat} {f : Nat → Int} : (setI S s f).2.2.2 s = f := by
  funext j
  unfold setI
  exact if_pos rfl
theorem setI_id {S : SS} {s : Nat} : setI S s (S.2.2.2 s) = S := by
  unfold setI
  obtain ⟨a, b, c, d⟩ := S
  congr
  funext s' j
  show (if s' = s then d s j else d s' j) = d s' j
  split
  · rename_i h; rw [h]
  · rfl
theorem IS.setI {S : SS} {s : Nat} {f : Nat → Int} (h : IS S) (hf : ∀ j, j < 16 → R64 (f j)) : IS (setI S s f) := by
  intro s' hs
  obtain ⟨h1, h2, h3, h4⟩ := h s' hs
  refine ⟨h1, h2, h3, fun j hj => ?_⟩
  show R64 (if s' = s then f j else S.2.2.2 s' j)
  split
  · exact hf j hj
  · exact h4 j hj
theorem CS.put {M : MM} {S : SS} {s : Nat} {f f' : Nat → Int} {j : Nat} {x : Int} (h : CS M (setI S s f)) (hs : s < 4) (hf : ∀ j', j' < 16 → f' j' = if j' = j then x else f j') : CS (up M (33 + s) j x) (setI S s f') := by
  intro s' hs'
  obtain ⟨h1, h2, h3, h4⟩ := h s' hs'
  refine ⟨by rw [up_ne (by omega)]; exact h1, by rw [up_ne (by omega)]; exact h2, by rw [up_ne (by omega)]; exact h3, fun j' hj' => ?_⟩
  have h5 := h4 j' hj'
  show _ = (if s' = s then f' j' else S.2.2.2 s' j')
  have h5' : M (33 + s') j' = (if s' = s then f j' else S.2.2.2 s' j') := h5
  by_cases c : s' = s
  · subst c
    rw [if_pos rfl] at h5' ⊢
    rw [hf j' hj']
    by_cases d : j' = j
    · subst d; rw [if_pos rfl, up_eq]
    · rw [if_neg d, up_ne (by omega)]; exact h5'
  · rw [if_neg c] at h5' ⊢
    rw [up_ne (by omega)]; exact h5'
theorem MS.put {M : MM} {S : SS} {s : Nat} {f f' : Nat → Int} {j : Nat} {x : Int} (h : MS M (setI S s f)) (hs : s < 4) (hj0 : j < 16) (hf : ∀ j', j' < 16 → f' j' = if j' = j then x else f j') : MS (up M 54 (16 * s + j) x) (setI S s f') := by
  intro s' hs'
  obtain ⟨h1, h2, h4⟩ := h s' hs'
  refine ⟨by rw [up_ne (by omega)]; exact h1, by rw [up_ne (by omega)]; exact h2, fun j' hj' => ?_⟩
  have h5' : M 54 (16 * s' + j') = (if s' = s then f j' else S.2.2.2 s' j') := h4 j' hj'
  show _ = (if s' = s then f' j' else S.2.2.2 s' j')
  by_cases c : s' = s
  · subst c
    rw [if_pos rfl] at h5' ⊢
    rw [hf j' hj']
    by_cases d : j' = j
    · subst d; rw [if_pos rfl, up_eq]
    · rw [if_neg d, up_ne (by omega)]; exact h5'
  · rw [if_neg c] at h5' ⊢
    rw [up_ne (by omega)]; exact h5'
def itemF (a lane i v : Int) (_ : Nat → Int) (S : SS) : Int × SS := if (0 ≤ a ∧ a ≤ 3) ∧ (0 ≤ lane ∧ lane ≤ 2) then (if barS S a lane i 1 = 0 then (1, setI S a.toNat (fun j => if j = i.toNat then cutL lane v else S.2.2.2 a.toNat j)) else (barS S a lane i 1, S)) else (-1, S)
def dropF (a : Int) (_ : Nat → Int) (S : SS) : Int × SS := if 0 ≤ a ∧ a ≤ 3 then (if S.1 a.toNat = 1 then (S.2.2.1 a.toNat, (upW S.1 a.toNat 0, S.2)) else (-11, S)) else (-1, S)
def sheetF (a lane n : Int) (_ : Nat → Int) (S : SS) : Int × SS := if ((0 ≤ a ∧ a ≤ 3) ∧ (0 ≤ lane ∧ lane ≤ 2)) ∧ n ≤ 16 then (if 0 ≤ n then (n, setI (upW S.1 a.toNat 1, upW S.2.1 a.toNat lane, upW S.2.2.1 a.toNat n, S.2.2.2) a.toNat (fun _ => 0)) else (-14, S)) else (-1, S)
section
variable {E : FX} {l : Launch} {M : MM} {S : SS} {a lane i n v : Int}
theorem e_item (ha : R32 a) (hl : R32 lane) (hi : R32 i) (hv : R64 v) : EqA E l vi qX11_item qX12_item [vi a, vi lane, vi i, vj v] := by
  refine eqH (itemF a lane i v) (fun W S hW hS => ?_) (fun M W S hP hC hW hS => ?_) (fun M W S hP hC hW hS => ?_)
  · unfold itemF
    split
    · rename_i ok
      split
      · refine hS.setI (fun j hj => ?_)
        split
        · exact cutL_R hv
        · exact (hS a.toNat (by omega)).2.2.2 j hj
      · exact hS
    · exact hS
  · refine (RX11_item (D := 3) ?_).up (by decide)
    unfold VX11_item_0
    try unfold VX11_item_38
    have hr := refS_R S a lane i 1
    refine (c_refusal hC hS ha hl hi (by decide)).fn ⟨_, rfl, hr.1, fun c1 => ?_, fun c1 => ?_⟩
    · have h0 : refS S a lane i 1 = 0 := by omega
      have ok : (0 ≤ a ∧ a ≤ 3) ∧ (0 ≤ lane ∧ lane ≤ 2) := by
        apply Decidable.byContradiction
        intro q
        unfold refS at h0
        rw [if_neg q] at h0
        cases h0
      have hb : barS S a lane i 1 = 0 := by
        unfold refS at h0
        rw [if_pos ok] at h0
        exact h0
      have e : itemF a lane i v W S = (1, setI S a.toNat (fun j => if j = i.toNat then cutL lane v else S.2.2.2 a.toNat j)) := by
        unfold itemF
        rw [if_pos ok, if_pos hb]
      rw [e]
      obtain ⟨b1, b2, b3⟩ := barv_0 hb
      have hs : a.toNat < 4 := by omega
      obtain ⟨i1, i2, i3, i4⟩ := hS a.toNat hs
      obtain ⟨e1, e2, e3, e4⟩ := hC a.toNat hs
      obtain ⟨k1, k2, k3, k4, k5, k6⟩ := sh_kd a.toNat hs
      refine (c_sheetOf ha).fn ⟨_, rfl, fun c2 => ?_, fun k9 c2 => ?_⟩
      · rw [if_pos ok.1] at c2; cases c2
      · rw [if_pos ok.1] at c2
        cases c2
        refine ⟨k1, (c_write hs (by omega) (by omega)).fn ⟨rfl, rfl, ?_, FsC.rf.put (Or.inr (by omega))⟩⟩
        refine CS.put (f := S.2.2.2 a.toNat) (by rw [setI_id]; exact hC) hs (fun j' hj' => ?_)
        rw [e2, b2]
    · have e : itemF a lane i v W S = (refS S a lane i 1, S) := by
        unfold itemF refS at *
        by_cases ok : (0 ≤ a ∧ a ≤ 3) ∧ (0 ≤ lane ∧ lane ≤ 2)
        · rw [if_pos ok] at c1
          rw [if_pos ok, if_neg (by omega), if_pos ok]
        · rw [if_neg ok, if_neg ok]
      rw [e]
      exact ⟨rfl, hC, FsC.rf⟩
  · refine (RX12_item (D := 3) ?_).up (by decide)
    unfold VX12_item_0
    refine (c_isSheet ha).fn ⟨_, rfl, b01_R, fun c1 => ?_, fun c1 => ⟨hl, (c_in (r32_64 hl) (by decide) (by decide)).fn ⟨_, rfl, b01_R, fun c2 => ?_, fun c2 => ?_⟩⟩⟩
    · rw [b01_0] at c1
      have e : itemF a lane i v W S = (-1, S) := if_neg (fun q => c1 q.1)
      rw [e]
      exact ⟨rfl, hC, FsM.rf⟩
    · rw [b01_n0] at c1 c2
      obtain ⟨s, rfl⟩ : ∃ s : Nat, a = s := ⟨a.toNat, by omega⟩
      have hs : s < 4 := by omega
      obtain ⟨i1, i2, i3, i4⟩ := hS s hs
      have eb : barS S s lane i 1 = barv (S.1 s) (S.2.1 s) (S.2.2.1 s) lane i 1 := rfl
      have hr := barv_R (S.1 s) (S.2.1 s) (S.2.2.1 s) lane i 1
      refine (m_bars hC hS hs hl hi (by decide)).fn ⟨_, rfl, hr.1, fun c3 => ?_, fun c3 => ?_⟩
      · obtain ⟨b1, b2, b3⟩ := barv_0 c3
        have e : itemF s lane i v W S = (1, setI S s (fun j => if j = i.toNat then cutL lane v else S.2.2.2 s j)) := by
          unfold itemF
          rw [if_pos ⟨c1, c2⟩, eb, if_pos c3, Int.toNat_natCast]
        rw [e]
        refine (c_cutTo c2).fn ⟨_, rfl, by omega, by omega, ?_⟩
        rintro M2 rfl
        rw [show (16 * (s : Int) + i).toNat = 16 * s + i.toNat by omega]
        exact ⟨rfl, MS.put (f := S.2.2.2 s) (by rw [setI_id]; exact hC) hs (by omega) (fun j' hj' => rfl), FsM.rf.put (Or.inr (by decide))⟩
      · have e : itemF s lane i v W S = (barS S s lane i 1, S) := by
          unfold itemF
          rw [if_pos ⟨c1, c2⟩, if_neg (by rw [eb]; exact c3)]
        rw [e]
        exact ⟨rfl, hC, FsM.rf⟩
    · rw [b01_0] at c2
      have e : itemF a lane i v W S = (-1, S) := if_neg (fun q => c2 q.2)
      rw [e]
      exact ⟨rfl, hC, FsM.rf⟩
theorem e_drop (ha : R32 a) : EqA E l vi qX11_drop qX12_drop [vi a] := by
  refine eqH (dropF a) (fun W S hW hS => ?_) (fun M W S hP hC hW hS => ?_) (fun M W S hP hC hW hS => ?_)
  · unfold dropF
    split
    · split
      · intro s hs
        obtain ⟨i1, i2, i3, i4⟩ := hS s hs
        refine ⟨?_, i2, i3, i4⟩
        show upW S.1 a.toNat 0 s = 0 ∨ upW S.1 a.toNat 0 s = 1
        unfold upW
        split
        · exact Or.inl rfl
        · exact i1
      · exact hS
    · exact hS
  · refine (RX11_drop (D := 1) ?_).up (by decide)
    unfold VX11_drop_0
    refine (c_sheetOf ha).fn ⟨_, rfl, fun c1 => ?_, fun k4 c1 => ?_⟩
    · by_cases c : 0 ≤ a ∧ a ≤ 3
      · rw [if_pos c] at c1; cases c1
      · have e : dropF a W S = (-1, S) := if_neg c
        rw [e]
        exact ⟨rfl, hC, FsC.rf⟩
    · by_cases c : 0 ≤ a ∧ a ≤ 3
      · rw [if_pos c] at c1
        cases c1
        have hs : a.toNat < 4 := by omega
        obtain ⟨i1, i2, i3, i4⟩ := hS a.toNat hs
        obtain ⟨e1, e2, e3, e4⟩ := hC a.toNat hs
        obtain ⟨k1, k2, k3, k4, k5, k6⟩ := sh_kd a.toNat hs
        refine ⟨k1, k3, by unfold R32; omega, fun c2 => ⟨k1, k3, ?_⟩, fun c2 => ?_⟩
        · rintro M2 rfl
          have e : dropF a W S = (S.2.2.1 a.toNat, (upW S.1 a.toNat 0, S.2)) := by
            unfold dropF
            rw [if_pos c, if_pos (by omega)]
          rw [e]
          refine ⟨k1, k5, by rw [up_ne (by omega), e3], ?_, FsC.rf.put (Or.inr (by omega))⟩
          intro s' hs'
          obtain ⟨f1, f2, f3, f4⟩ := hC s' hs'
          refine ⟨?_, by rw [up_ne (by omega)]; exact f2, by rw [up_ne (by omega)]; exact f3, fun j hj => by rw [up_ne (by omega)]; exact f4 j hj⟩
          show _ = upW S.1 a.toNat 0 s'
          unfold upW
          by_cases d : s' = a.toNat
          · rw [if_pos d, d, up_eq]
          · rw [if_neg d, up_ne (by omega)]; exact f1
        · have e : dropF a W S = (-11, S) := by
            unfold dropF
            rw [if_pos c, if_neg (by omega)]
          rw [e]
          exact ⟨rfl, hC, FsC.rf⟩
      · rw [if_neg c] at c1; cases c1
  · refine (RX12_drop (D := 2) ?_).up (by decide)
    unfold VX12_drop_0
    refine (c_isSheet ha).fn ⟨_, rfl, b01_R, fun c1 => ?_, fun c1 => ?_⟩
    · rw [b01_n0] at c1
      obtain ⟨s, rfl⟩ : ∃ s : Nat, a = s := ⟨a.toNat, by omega⟩
      have hs : s < 4 := by omega
      obtain ⟨i1, i2, i3, i4⟩ := hS s hs
      obtain ⟨e1, e2, e3⟩ := hC s hs
      rw [Int.toNat_natCast, e2]
      have h52 : (S.1 s = 1 ∧ (if S.1 s = 1 then S.2.1 s else -1) = S.2.1 s) ∨ (S.1 s = 0 ∧ (if S.1 s = 1 then S.2.1 s else -1) = -1) := by
        rcases i1 with q | q
        · exact Or.inr ⟨q, if_neg (by omega)⟩
        · exact Or.inl ⟨q, if_pos q⟩
      refine ⟨by omega, by omega, by unfold R32; omega, fun c2 => ⟨by omega, by omega, ?_⟩, fun c2 => ?_⟩
      · rintro M2 rfl
        have h1 : S.1 s = 1 := by omega
        have e : dropF s W S = (S.2.2.1 s, (upW S.1 s 0, S.2)) := by
          unfold dropF
          rw [if_pos c1, Int.toNat_natCast, if_pos h1]
        rw [e]
        refine ⟨by omega, by omega, by rw [up_ne (by omega), e1], ?_, FsM.rf.put (Or.inr (by decide))⟩
        intro s' hs'
        obtain ⟨f1, f2, f3⟩ := hC s' hs'
        refine ⟨by rw [up_ne (by omega)]; exact f1, ?_, fun j hj => by rw [up_ne (by omega)]; exact f3 j hj⟩
        show _ = (if upW S.1 s 0 s' = 1 then S.2.1 s' else -1)
        unfold upW
        by_cases d : s' = s
        · rw [if_pos d, d, up_eq]; rfl
        · rw [if_neg d, up_ne (by omega)]; exact f2
      · have e : dropF s W S = (-11, S) := by
          unfold dropF
          rw [if_pos c1, Int.toNat_natCast, if_neg (by omega)]
        rw [e]
        exact ⟨rfl, hC, FsM.rf⟩
    · rw [b01_0] at c1
      have e : dropF a W S = (-1, S) := if_neg c1
      rw [e]
      exact ⟨rfl, hC, FsM.rf⟩
theorem c_begin {s : Nat} (hC : CS M S) (hs : s < 4) (hn : 0 ≤ n ∧ n ≤ 16) (hl : 0 ≤ lane ∧ lane ≤ 2) : Con E l 2 qX8_begin [vr (29 + s), vi lane, vi n] M (fun r M' => r = none ∧ CS M' (setI (upW S.1 s 1, upW S.2.1 s lane, upW S.2.2.1 s n, S.2.2.2) s (fun _ => 0)) ∧ FsC M M') := by
  obtain ⟨k1, k2, k3, k4, k5, k6⟩ := sh_kd s hs
  refine RX8_begin (D := 1) (fun M' x0 x1 x2 x3 => x0 = 29 + s ∧ x1 = lane ∧ x2 = n ∧ FsC M M' ∧ ∃ k : Nat, x3 = k ∧ k ≤ 16 ∧ CS M' (setI S s (fun j => if j < k then 0 else S.2.2.2 s j))) (fun _ _ _ _ x3 => (17 - x3).toNat) ?_ ?_
  · refine ⟨rfl, rfl, rfl, FsC.rf, 0, rfl, by omega, ?_⟩
    have e : (fun j => if j < 0 then (0 : Int) else S.2.2.2 s j) = S.2.2.2 s := by
      funext j
      exact if_neg (by omega)
    rw [e, setI_id]
    exact hC
  · rintro M' _ lane n _ ⟨rfl, rfl, rfl, f, k, rfl, hk, h⟩
    unfold VX8_begin_2
    refine ⟨k1, 33 + s, k2, 1, 16, k6, by decide, by unfold R32; omega, by decide, fun c1 => ⟨k1, k3, ?_⟩, fun c1 => ⟨k1, 33 + s, k2, 16, k6, by omega, by omega, ?_⟩⟩
    · rintro M2 rfl
      refine ⟨k1, k4, ?_⟩
      rintro M3 rfl
      refine ⟨k1, k5, ?_⟩
      rintro M4 rfl
      refine ⟨rfl, ?_, ((f.put (Or.inr (by omega))).put (Or.inr (by omega))).put (Or.inr (by omega))⟩
      intro s' hs'
      obtain ⟨f1, f2, f3, f4⟩ := h s' hs'
      refine ⟨?_, ?_, ?_, fun j hj => ?_⟩
      · show _ = upW S.1 s 1 s'
        unfold upW
        by_cases d : s' = s
        · rw [if_pos d, d, up_ne (by omega), up_ne (by omega), up_eq]
        · rw [if_neg d, up_ne (by omega), up_ne (by omega), up_ne (by omega)]; exact f1
      · show _ = upW S.2.1 s lane s'
        unfold upW
        by_cases d : s' = s
        · rw [if_pos d, d, up_ne (by omega), up_eq]
        · rw [if_neg d, up_ne (by omega), up_ne (by omega), up_ne (by omega)]; exact f2
      · show _ = upW S.2.2.1 s n s'
        unfold upW
        by_cases d : s' = s
        · rw [if_pos d, d, up_eq]
        · rw [if_neg d, up_ne (by omega), up_ne (by omega), up_ne (by omega)]; exact f3
      · have f5 : M' (33 + s') j = (if s' = s then (if j < k then 0 else S.2.2.2 s j) else S.2.2.2 s' j) := f4 j hj
        show _ = (if s' = s then 0 else S.2.2.2 s' j)
        rw [up_ne (by omega), up_ne (by omega), up_ne (by omega), f5]
        by_cases d : s' = s
        · rw [if_pos d, if_pos d, if_pos (by omega)]
        · rw [if_neg d, if_neg d]
    · rintro M2 rfl y16 h16
      rw [Int.toNat_natCast]
      refine ⟨⟨rfl, rfl, rfl, f.put (Or.inr (by omega)), k + 1, by omega, by omega, h.put hs (fun j' hj' => ?_)⟩, by omega⟩
      by_cases d : j' = k
      · subst d; rw [if_pos (by omega), if_pos rfl]
      · rw [if_neg d]
        by_cases d2 : j' < k
        · rw [if_pos d2, if_pos (by omega)]
        · rw [if_neg d2, if_neg (by omega)]
theorem e_sheet (ha : R32 a) (hl : R32 lane) (hn : R32 n) : EqA E l vi qX11_sheet qX12_sheet [vi a, vi lane, vi n] := by
  refine eqH (sheetF a lane n) (fun W S hW hS => ?_) (fun M W S hP hC hW hS => ?_) (fun M W S hP hC hW hS => ?_)
  · unfold sheetF
    split
    · rename_i ok
      split
      · refine IS.setI (S := (upW S.1 a.toNat 1, upW S.2.1 a.toNat lane, upW S.2.2.1 a.toNat n, S.2.2.2)) ?_ (fun j hj => by decide)
        intro s hs
        obtain ⟨i1, i2, i3, i4⟩ := hS s hs
        refine ⟨?_, ?_, ?_, i4⟩
        · show upW S.1 a.toNat 1 s = 0 ∨ upW S.1 a.toNat 1 s = 1
          unfold upW
          split
          · exact Or.inr rfl
          · exact i1
        · show 0 ≤ upW S.2.1 a.toNat lane s ∧ upW S.2.1 a.toNat lane s ≤ 2
          unfold upW
          split
          · exact ok.1.2
          · exact i2
        · show 0 ≤ upW S.2.2.1 a.toNat n s ∧ upW S.2.2.1 a.toNat n s ≤ 16
          unfold upW
          split
          · omega
          · exact i3
      · exact hS
    · exact hS
  · have bad : ¬ (((0 ≤ a ∧ a ≤ 3) ∧ (0 ≤ lane ∧ lane ≤ 2)) ∧ n ≤ 16) → some (vi (-1)) = some (vi (sheetF a lane n W S).1) ∧ CS M (sheetF a lane n W S).2 ∧ FsC M M := fun q => by
      have e : sheetF a lane n W S = (-1, S) := if_neg q
      rw [e]
      exact ⟨rfl, hC, FsC.rf⟩
    refine (RX11_sheet (D := 2) ?_).up (by decide)
    unfold VX11_sheet_0
    refine (c_sheetOf ha).fn ⟨_, rfl, fun c1 => ?_, fun k4 c1 => ?_⟩
    · by_cases c : 0 ≤ a ∧ a ≤ 3
      · rw [if_pos c] at c1; cases c1
      · exact bad (fun q => c q.1.1)
    · by_cases c : 0 ≤ a ∧ a ≤ 3
      · rw [if_pos c] at c1
        cases c1
        have hs : a.toNat < 4 := by omega
        obtain ⟨k1, k2, k3, k4, k5, k6⟩ := sh_kd a.toNat hs
        refine (c_within hl (by decide) (by decide)).fn ⟨_, rfl, b01_R, fun c2 => bad (fun q => b01_0.mp c2 q.1.2), fun c2 => ⟨hn, fun c3 => ⟨hn, fun c4 => ⟨k1, ?_⟩, fun c4 => ?_⟩, fun c3 => bad (fun q => c3 q.2)⟩⟩
        · rw [b01_n0] at c2
          refine (c_begin hC hs (by omega) c2).mono ?_ (by decide)
          rintro _ M1 ⟨rfl, h1, f1⟩
          have e : sheetF a lane n W S = (n, setI (upW S.1 a.toNat 1, upW S.2.1 a.toNat lane, upW S.2.2.1 a.toNat n, S.2.2.2) a.toNat (fun _ => 0)) := by
            unfold sheetF
            rw [if_pos ⟨⟨c, c2⟩, c3⟩, if_pos c4]
          rw [e]
          exact ⟨rfl, rfl, h1, f1⟩
        · rw [b01_n0] at c2
          have e : sheetF a lane n W S = (-14, S) := by
            unfold sheetF
            rw [if_pos ⟨⟨c, c2⟩, c3⟩, if_neg c4]
          rw [e]
          exact ⟨rfl, hC, FsC.rf⟩
      · rw [if_neg c] at c1; cases c1
  · have bad : ¬ (((0 ≤ a ∧ a ≤ 3) ∧ (0 ≤ lane ∧ lane ≤ 2)) ∧ n ≤ 16) → some (vi (-1)) = some (vi (sheetF a lane n W S).1) ∧ MS M (sheetF a lane n W S).2 ∧ FsM M M := fun q => by
      have e : sheetF a lane n W S = (-1, S) := if_neg q
      rw [e]
      exact ⟨rfl, hC, FsM.rf⟩
    refine (RX12_sheet (D := 2) (fun M' x1 x3 x4 => x1 = a ∧ x3 = n ∧ (((0 ≤ a ∧ a ≤ 3) ∧ (0 ≤ lane ∧ lane ≤ 2)) ∧ n ≤ 16) ∧ 0 ≤ n ∧ FsM M M' ∧ ∃ k : Nat, x4 = k ∧ k ≤ 16 ∧ MS M' (setI (upW S.1 a.toNat 1, upW S.2.1 a.toNat lane, upW S.2.2.1 a.toNat n, S.2.2.2) a.toNat (fun j => if j < k then 0 else S.2.2.2 a.toNat j))) (fun _ _ _ x4 => (17 - x4).toNat) ?_ ?_).up (by decide)
    · unfold VX12_sheet_0
      refine (c_isSheet ha).fn ⟨_, rfl, b01_R, fun c1 => bad (fun q => b01_0.mp c1 q.1.1), fun c1 => ⟨hl, (c_in (r32_64 hl) (by decide) (by decide)).fn ⟨_, rfl, b01_R, fun c2 => bad (fun q => b01_0.mp c2 q.1.2), fun c2 => ⟨hn, fun c3 => ⟨hn, fun c4 => ?_, fun c4 => ?_⟩, fun c3 => bad (fun q => c3 q.2)⟩⟩⟩⟩
      · rw [b01_n0] at c1 c2
        refine ⟨by omega, by omega, ?_⟩
        rintro M2 rfl
        refine ⟨by omega, by omega, ?_⟩
        rintro M3 rfl
        refine ⟨rfl, rfl, ⟨⟨c1, c2⟩, c3⟩, c4, (FsM.rf.put (Or.inr (by decide))).put (Or.inr (by decide)), 0, rfl, by omega, ?_⟩
        intro s' hs'
        obtain ⟨f1, f2, f3⟩ := hC s' hs'
        refine ⟨?_, ?_, fun j hj => ?_⟩
        · show _ = upW S.2.2.1 a.toNat n s'
          unfold upW
          by_cases d : s' = a.toNat
          · rw [if_pos d, d, up_eq]
          · rw [if_neg d, up_ne (by omega), up_ne (by omega)]; exact f1
        · show _ = (if upW S.1 a.toNat 1 s' = 1 then upW S.2.1 a.toNat lane s' else -1)
          unfold upW
          by_cases d : s' = a.toNat
          · rw [if_pos d, if_pos d, d, up_ne (by omega), up_eq]; rfl
          · rw [if_neg d, if_neg d, up_ne (by omega), up_ne (by omega)]; exact f2
        · show _ = (if s' = a.toNat then (if j < 0 then 0 else S.2.2.2 a.toNat j) else S.2.2.2 s' j)
          rw [up_ne (by omega), up_ne (by omega), f3 j hj]
          by_cases d : s' = a.toNat
          · rw [if_pos d, if_neg (by omega), d]
          · rw [if_neg d]
      · rw [b01_n0] at c1 c2
        have e : sheetF a lane n W S = (-14, S) := by
          unfold sheetF
          rw [if_pos ⟨⟨c1, c2⟩, c3⟩, if_neg c4]
        rw [e]
        exact ⟨rfl, hC, FsM.rf⟩
    · rintro M' a n _ ⟨rfl, rfl, ok, hn0, f, k, rfl, hk, h⟩
      unfold VX12_sheet_51
      refine ⟨by unfold R32; omega, fun c1 => ?_, fun c1 => ⟨by omega, by omega, ?_⟩⟩
      · have e : sheetF a lane n W S = (n, setI (upW S.1 a.toNat 1, upW S.2.1 a.toNat lane, upW S.2.2.1 a.toNat n, S.2.2.2) a.toNat (fun _ => 0)) := by
          unfold sheetF
          rw [if_pos ok, if_pos hn0]
        rw [e]
        refine ⟨rfl, ?_, f⟩
        intro s' hs'
        obtain ⟨f1, f2, f3⟩ := h s' hs'
        refine ⟨f1, f2, fun j hj => ?_⟩
        have f5 : M' 54 (16 * s' + j) = (if s' = a.toNat then (if j < k then 0 else S.2.2.2 a.toNat j) else S.2.2.2 s' j) := f3 j hj
        show _ = (if s' = a.toNat then 0 else S.2.2.2 s' j)
        rw [f5]
        by_cases d : s' = a.toNat
        · rw [if_pos d, if_pos d, if_pos (by omega)]
        · rw [if_neg d, if_neg d]
      · rintro M2 rfl y23 h23
        rw [show (16 * a + (k : Int)).toNat = 16 * a.toNat + k by omega]
        refine ⟨⟨rfl, rfl, ok, hn0, f.put (Or.inr (by decide)), k + 1, by omega, by omega, h.put (by omega) (by omega) (fun j' hj' => ?_)⟩, by omega⟩
        by_cases d : j' = k
        · subst d; rw [if_pos (by omega), if_pos rfl]
        · rw [if_neg d]
          by_cases d2 : j' < k
          · rw [if_pos d2, if_pos (by omega)]
          · rw [if_neg d2, if_neg (by omega)]
end
