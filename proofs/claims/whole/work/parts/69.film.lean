def filmF (a lane i : Int) (W : Nat → Int) (S : SS) : Int × SS := if (0 ≤ a ∧ a ≤ 3) ∧ (0 ≤ lane ∧ lane ≤ 2) then (if barS S a lane i (W 6) = 0 then (W 6, setI S a.toNat (fun j => if i ≤ (j : Int) ∧ (j : Int) < i + W 6 then cutL lane (W (15 + ((j : Int) - i).toNat)) else S.2.2.2 a.toNat j)) else (barS S a lane i (W 6), S)) else (-1, S)
def copyF (a i b j n : Int) (_ : Nat → Int) (S : SS) : Int × SS := if (0 ≤ a ∧ a ≤ 3) ∧ (0 ≤ b ∧ b ≤ 3) then (if S.1 a.toNat = 0 ∨ S.1 b.toNat = 0 then (-11, S) else if ¬ S.2.1 a.toNat = S.2.1 b.toNat then (-12, S) else if (0 ≤ i ∧ 0 ≤ n ∧ i + n ≤ S.2.2.1 a.toNat) ∧ (0 ≤ j ∧ 0 ≤ n ∧ j + n ≤ S.2.2.1 b.toNat) then (n, setI S b.toNat (fun q => if j ≤ (q : Int) ∧ (q : Int) < j + n then S.2.2.2 a.toNat (i.toNat + (q - j.toNat)) else S.2.2.2 b.toNat q)) else (-13, S)) else (-1, S)
section
variable {E : FX} {l : Launch} {M : MM} {S : SS} {a b lane i j n v : Int}
theorem e_film (ha : R32 a) (hl : R32 lane) (hi : R32 i) : EqA E l vi qX11_film qX12_film [vi a, vi lane, vi i] := by
  refine eqH (filmF a lane i) (fun W S hW hS => ?_) (fun M W S hP hC hW hS => ?_) (fun M W S hP hC hW hS => ?_)
  · unfold filmF
    split
    · rename_i ok
      split
      · rename_i hb
        obtain ⟨b1, b2, b3⟩ := barv_0 hb
        obtain ⟨i1, i2, i3, i4⟩ := hS a.toNat (by omega)
        have w6 := hW.held
        refine hS.setI (fun j hj => ?_)
        split
        · have := hW.le (j := ((j : Int) - i).toNat) (by omega)
          exact cutL_R (by unfold R64; omega)
        · exact i4 j hj
      · exact hS
    · exact hS
  · have w6 := hW.held
    have hr := refS_R S a lane i (W 6)
    refine (RX11_film (D := 3) (fun M' x3 x4 x6 x7 => x3 = i ∧ x4 = W 6 ∧ x6 = some (29 + a.toNat) ∧ ((0 ≤ a ∧ a ≤ 3) ∧ (0 ≤ lane ∧ lane ≤ 2)) ∧ barS S a lane i (W 6) = 0 ∧ FsC M M' ∧ ∃ k : Nat, x7 = k ∧ k ≤ W 6 ∧ CS M' (setI S a.toNat (fun j => if i ≤ (j : Int) ∧ (j : Int) < i + k then cutL lane (W (15 + ((j : Int) - i).toNat)) else S.2.2.2 a.toNat j))) (fun _ _ _ _ x7 => (9 - x7).toNat) ?_ ?_).up (by decide)
    · unfold VX11_film_0
      intro y1 h1
      rw [hP.held] at h1
      subst h1
      refine (c_refusal hC hS ha hl hi (by unfold R32; omega)).fn ⟨_, rfl, hr.1, fun c1 => ?_, fun c1 => ?_⟩
      · have h0 : refS S a lane i (W 6) = 0 := by omega
        have ok : (0 ≤ a ∧ a ≤ 3) ∧ (0 ≤ lane ∧ lane ≤ 2) := by
          apply Decidable.byContradiction
          intro q
          unfold refS at h0
          rw [if_neg q] at h0
          cases h0
        have hb : barS S a lane i (W 6) = 0 := by
          unfold refS at h0
          rw [if_pos ok] at h0
          exact h0
        refine (c_sheetOf ha).fn ⟨_, rfl, rfl, rfl, if_pos ok.1, ok, hb, FsC.rf, 0, rfl, by omega, ?_⟩
        have e : (fun j : Nat => if i ≤ (j : Int) ∧ (j : Int) < i + (0 : Nat) then cutL lane (W (15 + ((j : Int) - i).toNat)) else S.2.2.2 a.toNat j) = S.2.2.2 a.toNat := by
          funext j
          exact if_neg (by omega)
        rw [e, setI_id]
        exact hC
      · have e : filmF a lane i W S = (refS S a lane i (W 6), S) := by
          unfold filmF refS at *
          by_cases ok : (0 ≤ a ∧ a ≤ 3) ∧ (0 ≤ lane ∧ lane ≤ 2)
          · rw [if_pos ok] at c1
            rw [if_pos ok, if_neg (by omega), if_pos ok]
          · rw [if_neg ok, if_neg ok]
        rw [e]
        exact ⟨rfl, hC, FsC.rf⟩
    · rintro M' i _ _ _ ⟨rfl, rfl, rfl, ok, hb, f, k, rfl, hk, h⟩
      have e : filmF a lane i W S = (W 6, setI S a.toNat (fun j => if i ≤ (j : Int) ∧ (j : Int) < i + W 6 then cutL lane (W (15 + ((j : Int) - i).toNat)) else S.2.2.2 a.toNat j)) := by
        unfold filmF
        rw [if_pos ok, if_pos hb]
      obtain ⟨b1, b2, b3⟩ := barv_0 hb
      have hs : a.toNat < 4 := by omega
      obtain ⟨i1, i2, i3, i4⟩ := hS a.toNat hs
      obtain ⟨e1, e2, e3, e4⟩ := h a.toNat hs
      obtain ⟨k1, k2, k3, k4, k5, k6⟩ := sh_kd a.toNat hs
      have e2' : M' (29 + a.toNat) 2 = S.2.1 a.toNat := e2
      unfold VX11_film_41
      refine ⟨by unfold R32; omega, by unfold R32; omega, fun c1 => ?_, fun c1 => ⟨fun q => (by cases q), ?_⟩⟩
      · rw [e]
        obtain ek : (k : Int) = W 6 := by omega
        rw [ek] at h
        exact ⟨rfl, h, f⟩
      · rintro k13 q
        cases q
        have hle := hW.le (j := k) (by omega)
        have hPk : M' 7 k = W (15 + k) := (hP.ag (f.ag (by decide))).le (by omega)
        refine (c_at_in (n := 8) rfl (by omega) (by omega)).fn ⟨_, rfl, ?_⟩
        rw [Int.toNat_natCast, hPk]
        refine ⟨by unfold R32; omega, k1, (c_write hs (by omega) (by omega)).fn ⟨rfl, fun y21 h21 => ⟨⟨rfl, rfl, rfl, ok, hb, f.put (Or.inr (by omega)), k + 1, by omega, by omega, h.put hs (fun j' hj' => ?_)⟩, by omega⟩⟩⟩
        by_cases d : j' = (i + (k : Int)).toNat
        · rw [if_pos d, if_pos (by omega), e2', b2, show ((j' : Int) - i).toNat = k by omega]
        · rw [if_neg d]
          by_cases d2 : i ≤ (j' : Int) ∧ (j' : Int) < i + k
          · rw [if_pos d2, if_pos (by omega)]
          · rw [if_neg d2, if_neg (by omega)]
  · have w6 := hW.held
    have bad : ¬ ((0 ≤ a ∧ a ≤ 3) ∧ (0 ≤ lane ∧ lane ≤ 2)) → some (vi (-1)) = some (vi (filmF a lane i W S).1) ∧ MS M (filmF a lane i W S).2 ∧ FsM M M := fun q => by
      have e : filmF a lane i W S = (-1, S) := if_neg q
      rw [e]
      exact ⟨rfl, hC, FsM.rf⟩
    refine (RX12_film (D := 3) (fun M' x1 x2 x3 x5 => x1 = a ∧ x2 = lane ∧ x3 = i ∧ ((0 ≤ a ∧ a ≤ 3) ∧ (0 ≤ lane ∧ lane ≤ 2)) ∧ barS S a lane i (W 6) = 0 ∧ FsM M M' ∧ ∃ k : Nat, x5 = k ∧ k ≤ W 6 ∧ MS M' (setI S a.toNat (fun j => if i ≤ (j : Int) ∧ (j : Int) < i + k then cutL lane (W (15 + ((j : Int) - i).toNat)) else S.2.2.2 a.toNat j))) (fun _ _ _ _ x5 => (9 - x5).toNat) ?_ ?_).up (by decide)
    · unfold VX12_film_0
      refine (c_isSheet ha).fn ⟨_, rfl, b01_R, fun c1 => bad (fun q => b01_0.mp c1 q.1), fun c1 => ⟨hl, (c_in (r32_64 hl) (by decide) (by decide)).fn ⟨_, rfl, b01_R, fun c2 => ?_, fun c2 => bad (fun q => b01_0.mp c2 q.2)⟩⟩⟩
      rw [b01_n0] at c1 c2
      rw [hP 6 (by decide)]
      obtain ⟨s, rfl⟩ : ∃ s : Nat, a = s := ⟨a.toNat, by omega⟩
      have hs : s < 4 := by omega
      have eb : barS S s lane i (W 6) = barv (S.1 s) (S.2.1 s) (S.2.2.1 s) lane i (W 6) := rfl
      have hr := barv_R (S.1 s) (S.2.1 s) (S.2.2.1 s) lane i (W 6)
      refine (m_bars hC hS hs hl hi (by unfold R32; omega)).fn ⟨_, rfl, hr.1, fun c3 => ⟨rfl, rfl, rfl, ⟨c1, c2⟩, by rw [eb]; exact c3, FsM.rf, 0, rfl, by omega, ?_⟩, fun c3 => ?_⟩
      · have e : (fun j : Nat => if i ≤ (j : Int) ∧ (j : Int) < i + (0 : Nat) then cutL lane (W (15 + ((j : Int) - i).toNat)) else S.2.2.2 ((s : Nat) : Int).toNat j) = S.2.2.2 ((s : Nat) : Int).toNat := by
          funext j
          exact if_neg (by omega)
        rw [e, setI_id]
        exact hC
      · have e : filmF s lane i W S = (barS S s lane i (W 6), S) := by
          unfold filmF
          rw [if_pos ⟨c1, c2⟩, if_neg (by rw [eb]; exact c3)]
        rw [e]
        exact ⟨rfl, hC, FsM.rf⟩
    · rintro M' a lane i _ ⟨rfl, rfl, rfl, ok, hb, f, k, rfl, hk, h⟩
      have e : filmF a lane i W S = (W 6, setI S a.toNat (fun j => if i ≤ (j : Int) ∧ (j : Int) < i + W 6 then cutL lane (W (15 + ((j : Int) - i).toNat)) else S.2.2.2 a.toNat j)) := by
        unfold filmF
        rw [if_pos ok, if_pos hb]
      obtain ⟨b1, b2, b3⟩ := barv_0 hb
      have hs : a.toNat < 4 := by omega
      obtain ⟨i1, i2, i3, i4⟩ := hS a.toNat hs
      have hP' := hP.ag (f.ag (i := 2) (by decide))
      unfold VX12_film_48
      rw [hP' 6 (by decide)]
      refine ⟨by unfold R32; omega, by unfold R32; omega, fun c1 => ?_, fun c1 => ⟨by omega, by omega, ?_⟩⟩
      · rw [e]
        obtain ek : (k : Int) = W 6 := by omega
        rw [ek] at h
        exact ⟨rfl, h, f⟩
      · have hle := hW.le (j := k) (by omega)
        rw [show (15 + (k : Int)).toNat = 15 + k by omega, hP' (15 + k) (by omega)]
        refine ⟨by unfold R32; omega, (c_cutTo ok.2).fn ⟨_, rfl, by omega, by omega, ?_⟩⟩
        rintro M2 rfl y23 h23
        rw [show (16 * a + i + (k : Int)).toNat = 16 * a.toNat + (i + (k : Int)).toNat by omega]
        refine ⟨⟨rfl, rfl, rfl, ok, hb, f.put (Or.inr (by decide)), k + 1, by omega, by omega, h.put hs (by omega) (fun j' hj' => ?_)⟩, by omega⟩
        by_cases d : j' = (i + (k : Int)).toNat
        · rw [if_pos d, if_pos (by omega), show ((j' : Int) - i).toNat = k by omega]
        · rw [if_neg d]
          by_cases d2 : i ≤ (j' : Int) ∧ (j' : Int) < i + k
          · rw [if_pos d2, if_pos (by omega)]
          · rw [if_neg d2, if_neg (by omega)]
end
