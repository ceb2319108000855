/-! THE START: the picture of a new class object beside a new reference -/
def M0 : MM := fun k j => match k with
  | 3 => if j = 1 then 3 else 0
  | 14 => if j = 1 then 3 else 0
  | 4 => fTw j
  | 15 => fTw j
  | 5 => if j = 5 then 2 else 0
  | 16 => if j = 5 then 2 else 0
  | 12 => fCo 16 j
  | 13 => fCo 16 j
  | 23 => fCo 16 j
  | 24 => fCo 16 j
  | 45 => fWi 32 j
  | 52 => fLn 4 j
  | _ => 0
theorem rel_M0 : Rel0 M0 := by
  refine ⟨⟨fWi 32, PC_lc.mpr (by decide +kernel), fun j _ => rfl, IW_iff.mpr ⟨by decide +kernel, by decide +kernel⟩⟩, ⟨rfl, by decide +kernel, by decide +kernel, fun j _ => ⟨rfl, ⟨Int.le_refl 0, (show (0 : Int) ≤ 126 by decide)⟩⟩⟩, ?_, ⟨rfl, Or.inl rfl, fun h => absurd h (by decide +kernel)⟩⟩
  have r0 : R64 (0 : Int) := by unfold R64; omega
  intro q hq
  rcases (show q = 0 ∨ q = 1 ∨ q = 2 ∨ q = 3 by omega) with rfl | rfl | rfl | rfl
  · exact ⟨Or.inl rfl, ⟨by decide +kernel, by decide +kernel⟩, ⟨by decide +kernel, by decide +kernel⟩, rfl, by decide +kernel, fun j _ => ⟨rfl, r0⟩⟩
  · exact ⟨Or.inl rfl, ⟨by decide +kernel, by decide +kernel⟩, ⟨by decide +kernel, by decide +kernel⟩, rfl, by decide +kernel, fun j _ => ⟨rfl, r0⟩⟩
  · exact ⟨Or.inl rfl, ⟨by decide +kernel, by decide +kernel⟩, ⟨by decide +kernel, by decide +kernel⟩, rfl, by decide +kernel, fun j _ => ⟨rfl, r0⟩⟩
  · exact ⟨Or.inl rfl, ⟨by decide +kernel, by decide +kernel⟩, ⟨by decide +kernel, by decide +kernel⟩, rfl, by decide +kernel, fun j _ => ⟨rfl, r0⟩⟩
theorem gi_M0 : GI M0 := ⟨Or.inl rfl, ⟨by decide +kernel, by decide +kernel⟩, ⟨by decide +kernel, by decide +kernel⟩, rfl, fun _ _ => ⟨(show (-4398046511104 : Int) ≤ 0 by decide), (show (0 : Int) ≤ 4398046511104 by decide)⟩, fun _ _ => rfl, fun h => absurd h (by decide +kernel)⟩
/-- where a cell stands among those made, in the order in which they are made -/
def posn (k : Nat) : Nat := [0, 1, 13, 2, 3, 4, 5, 6, 7, 8, 9, 10, 11, 12, 14, 15, 16, 17, 18, 19, 20, 21, 22, 23, 24, 25, 26, 27, 28, 36, 38, 40, 42, 37, 39, 41, 43, 29, 30, 31, 32, 33, 34, 35, 44, 45, 46, 47, 48, 49, 50, 51, 52, 53, 54, 55].getD k k
theorem posn_inj : ∀ i, i < 56 → ∀ j, j < 56 → posn i = posn j → i = j := by decide +kernel
/-- the addresses by cell; behind them the script's and the enum's -/
def adr (b cl : Nat) (e : Nat → Nat) (q : Nat → Nat) : Nat → Nat := fun k => if k < 56 then q (posn k) else if k = 99 then b else if k = 100 then cl else e (k - 101)
theorem adr_lt {b cl : Nat} {e : Nat → Nat} {q : Nat → Nat} {k : Nat} (h : k < 56) : adr b cl e q k = q (posn k) := if_pos h
theorem adr_b {b cl : Nat} {e : Nat → Nat} {q : Nat → Nat} : adr b cl e q 99 = b := rfl
theorem adr_cl {b cl : Nat} {e : Nat → Nat} {q : Nat → Nat} : adr b cl e q 100 = cl := rfl
theorem adr_e {b cl : Nat} {e : Nat → Nat} {q : Nat → Nat} (i : Nat) : adr b cl e q (101 + i) = e i := by
  unfold adr
  rw [if_neg (by omega), if_neg (by omega), if_neg (by omega)]
  congr 1
  omega
/-- the world, behind both constructors -/
def bornW (T : T3) (q : Nat → Nat) : va_W := [cO (q 0) 9 [.ref (q 1), .ref (q 13), vI 0, .ref (q 25), .ref (q 28), .ref (q 29), .ref (q 31)], cO (q 1) 4 [.ref (q 2), .ref (q 4), .ref (q 8), .ref (q 10)], cO (q 2) 8 [.ref (q 3), vI 3, vI 0], cI T (q 3) 3 fTw, cO (q 4) 0 [.ref (q 5), .ref (q 6), .ref (q 7), vI 0, vI 0, vI 2], cI T (q 5) 8 (fun _ => 0), cI T (q 6) 8 (fun _ => 0), cI T (q 7) 8 (fun _ => 0), cO (q 8) 1 [.ref (q 9), vI 0], cI T (q 9) 6 (fun _ => 0), cO (q 10) 2 [.ref (q 11), .ref (q 12)], cI T (q 11) 16 (fCo 16), cI T (q 12) 16 (fCo 16), cO (q 13) 4 [.ref (q 14), .ref (q 16), .ref (q 20), .ref (q 22)], cO (q 14) 8 [.ref (q 15), vI 3, vI 0], cI T (q 15) 3 fTw, cO (q 16) 0 [.ref (q 17), .ref (q 18), .ref (q 19), vI 0, vI 0, vI 2], cI T (q 17) 8 (fun _ => 0), cI T (q 18) 8 (fun _ => 0), cI T (q 19) 8 (fun _ => 0), cO (q 20) 1 [.ref (q 21), vI 0], cI T (q 21) 6 (fun _ => 0), cO (q 22) 2 [.ref (q 23), .ref (q 24)], cI T (q 23) 16 (fCo 16), cI T (q 24) 16 (fCo 16), cO (q 25) 7 [.ref (q 26), vI 0, vI 0, .ref (q 27), vI 0, vI 0], cI T (q 26) 40 (fun _ => 0), cI T (q 27) 3 (fun _ => 0), cQ T (q 28) 4 (va_up (va_up (va_up (va_up (fun _ => none) 0 (some (q 36))) 1 (some (q 38))) 2 (some (q 40))) 3 (some (q 42))), cO (q 29) 5 [.ref (q 30), vI 0, vJ 0], cJ T (q 30) 3 (fun _ => 0), cO (q 31) 3 [.ref (q 32), .ref (q 33), .ref (q 34), .ref (q 35), vI 0, vI 0, vI 0, vI 0, vJ 0], cJ T (q 32) 256 (fun _ => 0), cI T (q 33) 8 (fun _ => 0), cI T (q 34) 8 (fun _ => 0), cI T (q 35) 8 (fun _ => 0), cO (q 36) 6 [.ref (q 37), vI 0, vI 0, vI 0], cJ T (q 37) 16 (fun _ => 0), cO (q 38) 6 [.ref (q 39), vI 0, vI 0, vI 0], cJ T (q 39) 16 (fun _ => 0), cO (q 40) 6 [.ref (q 41), vI 0, vI 0, vI 0], cJ T (q 41) 16 (fun _ => 0), cO (q 42) 6 [.ref (q 43), vI 0, vI 0, vI 0], cJ T (q 43) 16 (fun _ => 0), cO (q 44) 10 [.ref (q 45), vI 0, .ref (q 46), vI 0, .ref (q 47), vI 0, vJ 0, vI 0, .ref (q 48), vI 0, vI 0, .ref (q 49), .ref (q 50), vI 0, .ref (q 51), .ref (q 52), .ref (q 53), .ref (q 54), .ref (q 55)], cI T (q 45) 140 (fWi 32), cI T (q 46) 40 (fun _ => 0), cJ T (q 47) 3 (fun _ => 0), cI T (q 48) 3 (fun _ => 0), cI T (q 49) 8 (fun _ => 0), cI T (q 50) 8 (fun _ => 0), cI T (q 51) 8 (fun _ => 0), cI T (q 52) 4 (fLn 4), cI T (q 53) 4 (fun _ => 0), cJ T (q 54) 64 (fun _ => 0), cJ T (q 55) 16 (fun _ => 0)]
theorem rf_cell {cA : ClassId} {f g : Nat → Option Nat} {n : Nat} (h : ∀ j, j < n → f j = g j) : vp_cell cA (n, .inr (.inr (.inr (.inr f)))) = vp_cell cA (n, .inr (.inr (.inr (.inr g)))) := by
  rw [vp_cell_q, vp_cell_q]
  unfold arrV
  congr 2
  funext j
  show va_rf (f j.1) = va_rf (g j.1)
  rw [h j.1 j.2]
theorem born_len {T : T3} {q : Nat → Nat} : (bornW T q).length = 56 := rfl
theorem adr_up {b cl : Nat} {e : Nat → Nat} {q : Nat → Nat} : adr b cl e q 28 = q 28 := rfl
/-- each cell of the start stands in the world made -/
theorem born_at {b cl : Nat} {e q : Nat → Nat} {G : va_G} {T : T3} : (List.range 56).map (fun k => (bornW T q)[posn k]?) = (List.range 56).map (fun k => some (adr b cl e q k, if k = 28 then .inl (T.2.2, 4, .inr (.inr (.inr (.inr (va_up (va_up (va_up (va_up (fun _ => none) 0 (some (q 36))) 1 (some (q 38))) 2 (some (q 40))) 3 (some (q 42))))))) else cel (adr b cl e q, G, T) M0 k)) := rfl
