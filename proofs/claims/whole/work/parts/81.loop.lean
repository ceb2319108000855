/-! the reference's way through all rows -/
def RBm (e : Int) (M : MM) (n : Nat) (z : ZZ) (x : Int) : Prop := match z with
  | none => x = -1
  | some q => x = e * q.1 ∧ M 44 13 = (q.2.1 : Nat) ∧ ∀ j, j < n → M 50 j = (ro q.2.2 j : Nat)
theorem RBm.of {e x : Int} {M M' : MM} {n : Nat} {z : ZZ} (h : RBm e M n z x) (h4 : M' 44 13 = M 44 13) (hr : ∀ j, j < n → M' 50 j = M 50 j) : RBm e M' n z x := by
  unfold RBm at *
  cases z with
  | none => exact h
  | some q => exact ⟨h.1, h4.trans h.2.1, fun j hj => (hr j hj).trans (h.2.2 j hj)⟩
def zE (e : Int) (z : ZZ) : Prop := ∀ q, z = some q → 0 ≤ e * q.1
def LpC (wt : Nat → Int) (lim n : Nat) (e : Int) (M : MM) (x : Int) (cur : List Nat) (rest : List (List Nat)) (z : ZZ) : Prop := cur.length = n ∧ rgs cur n ∧ (∀ j, j < n → M 49 j = (ro cur j : Nat)) ∧ Ch (Nx 0) (Ls n 0) (cur :: rest) ∧ RBm e M n z x ∧ zB z ∧ zE e z ∧ (cur :: rest).foldl (stp wt lim n) z = res wt lim n
def LpI (wt : Nat → Int) (lim n : Nat) (e : Int) (M : MM) (x x6 : Int) : Prop := (x6 = 0 ∧ RBm e M n (res wt lim n) x) ∨ (x6 = 1 ∧ ∃ cur rest z, LpC wt lim n e M x cur rest z)
/-- a row as one number -/
def cdM (M : MM) : Nat → Nat
  | 0 => 0
  | k + 1 => 9 * cdM M k + (M 49 k).toNat
theorem cdM_s (M : MM) (k : Nat) : cdM M (k + 1) = 9 * cdM M k + (M 49 k).toNat := rfl
theorem cdM_le {M : MM} : ∀ n, (∀ j, j < n → M 49 j ≤ 8) → cdM M n + 1 ≤ 9 ^ n
  | 0, _ => Nat.le_refl _
  | n + 1, h => by
    have ih := cdM_le n (fun j hj => h j (by omega))
    have h2 := h n (by omega)
    rw [cdM_s, Nat.pow_succ]
    omega
theorem cdM_cong {M M' : MM} : ∀ n, (∀ j, j < n → M' 49 j = M 49 j) → cdM M' n = cdM M n
  | 0, _ => rfl
  | n + 1, h => by rw [cdM_s, cdM_s, h n (by omega), cdM_cong n (fun j hj => h j (by omega))]
theorem cdM_lt {M M' : MM} {i : Nat} (h0 : 0 ≤ M 49 i) (h1 : ∀ j, j < i → M' 49 j = M 49 j) (h2 : M' 49 i = M 49 i + 1) : ∀ n, i < n → (∀ j, j < n → M 49 j ≤ 8) → cdM M n < cdM M' n
  | 0, h, _ => absurd h (by omega)
  | n + 1, h, hb => by
    have hb2 := hb n (by omega)
    rw [cdM_s, cdM_s]
    by_cases c : i = n
    · subst c
      rw [cdM_cong i h1, h2]
      omega
    · have ih := cdM_lt h0 h1 h2 n (by omega) (fun j hj => hb j (by omega))
      omega
def K3 (M M' : MM) : Prop := ∀ k j, k ≠ 49 → k ≠ 50 → ¬ (k = 44 ∧ j = 13) → M' k j = M k j
theorem K3.eqv {M M1 M2 : MM} (h : K3 M1 M2) (e : Eqv M M1) : Eqv M M2 := by
  intro k j q
  rw [h k j (fun c => by rw [c] at q; cases q) (fun c => by rw [c] at q; cases q) (fun c => by rw [c.1, c.2] at q; cases q)]
  exact e k j q
theorem K3.mk {M M' : MM} {n g : Nat} {f : Nat → Nat} (h : K3 M M') (e : MkM M n f g) : MkM M' n f g := by
  obtain ⟨e1, e2, e3⟩ := e
  exact ⟨(h 44 5 (by decide) (by decide) (by decide)).trans e1, (h 44 6 (by decide) (by decide) (by decide)).trans e2, fun i hi => (h 47 i (by decide) (by decide) (by omega)).trans (e3 i hi)⟩
theorem LpI_0 {wt : Nat → Int} {lim n : Nat} {e : Int} {M : MM} (h : ∀ j, j < n → M 49 j = 0) : LpI wt lim n e M (-1) 1 := by
  obtain ⟨t, ht⟩ := (rf_ch n 0).2
  refine Or.inr ⟨rfl, List.replicate n 0, t, none, List.length_replicate, rgs_z n, fun j hj => ?_, ?_, rfl, fun q e => (by cases e), fun q e => (by cases e), ?_⟩
  · rw [h j hj, ro_z]
    rfl
  · rw [← ht]
    exact (rf_ch n 0).1
  · unfold res
    rw [ht]
section
variable {E : FX} {l : Launch} {M : MM}
theorem c_next {wt : Nat → Int} {lim n : Nat} {e x : Int} {cur : List Nat} {rest : List (List Nat)} {z : ZZ} (hn : n ≤ 8) (hl : cur.length = n) (hg : rgs cur n) (hr : ∀ j, j < n → M 49 j = (ro cur j : Nat)) (hc : Ch (Nx 0) (Ls n 0) (cur :: rest)) (hb : RBm e M n z x) (hz : zB z) (he : zE e z) (hf : rest.foldl (stp wt lim n) z = res wt lim n) : Con E l 1 qX12_goesOn [vr 44, vi n] M (fun r M2 => ∃ y : Int, r = some (vi y) ∧ LpI wt lim n e M2 x y ∧ Only 49 M M2 ∧ (y = 0 ∨ (cdM M n < cdM M2 n ∧ cdM M2 n < 43046721))) := by
  rcases Ch_c.mp hc with ⟨h1, h2⟩ | ⟨b, t, h1, h2, h3⟩
  · subst h1
    refine (c_goes_ls hn hg hr h2).mono ?_
    rintro _ M2 ⟨rfl, rfl⟩
    have hf' : z = res wt lim n := hf
    rw [hf'] at hb
    exact ⟨0, rfl, Or.inl ⟨rfl, hb⟩, Only.rf, Or.inl rfl⟩
  · subst h1
    have hlb : b.length = n := h2.1.trans hl
    have hgb : rgs b n := by
      have := rgs_nx (by rw [hl]; exact hg) h2
      rw [hlb] at this
      exact this
    refine (c_goes_nx hn hl hg hr h2).mono ?_
    rintro _ M2 ⟨rfl, q1, q2⟩
    refine ⟨1, rfl, Or.inr ⟨rfl, b, t, z, hlb, hgb, q1, h3, hb.of (q2 44 13 (by decide)) (fun j _ => q2 50 j (by decide)), hz, he, hf⟩, q2, Or.inr ⟨?_, ?_⟩⟩
    · obtain ⟨g1, i, g2, g3, g4, g5, g6, g7⟩ := h2
      refine cdM_lt (i := i) (by rw [hr i (by omega)]; omega) (fun j hj => ?_) ?_ n (by omega) (fun j hj => ?_)
      · rw [q1 j (by omega), hr j (by omega), g6 j hj]
      · rw [q1 i (by omega), hr i (by omega), g5]
        rfl
      · have := rgs_le hg hj
        rw [hr j hj]
        omega
    · have h9 := cdM_le (M := M2) n (fun j hj => by
        have := rgs_le hgb hj
        rw [q1 j hj]
        omega)
      have hp : 9 ^ n ≤ 9 ^ 8 := Nat.pow_le_pow_right (by omega) hn
      omega
/-- a row that isn't better -/
theorem lp_skip {wt : Nat → Int} {lim n : Nat} {e x : Int} {cur : List Nat} {rest : List (List Nat)} {z : ZZ} (hn : n ≤ 8) (h : LpC wt lim n e M x cur rest z) (hs : ¬ (mayB lim n cur = true ∧ bet z (val wt cur n) (uf cur n) = true)) : Con E l 1 qX12_goesOn [vr 44, vi n] M (fun r M2 => ∃ y : Int, r = some (vi y) ∧ LpI wt lim n e M2 x y ∧ K3 M M2 ∧ (y = 0 ∨ (cdM M n < cdM M2 n ∧ cdM M2 n < 43046721))) := by
  obtain ⟨h1, h2, h3, h4, h5, h6, h7, h8⟩ := h
  rw [List.foldl_cons] at h8
  have es : stp wt lim n z cur = z := by
    unfold stp
    rw [if_neg hs]
  rw [es] at h8
  refine (c_next hn h1 h2 h3 h4 h5 h6 h7 h8).mono ?_
  rintro _ M2 ⟨y, rfl, g1, g2, g3⟩
  exact ⟨y, rfl, g1, fun k j a _ _ => g2 k j a, g3⟩
/-- a row that is better -/
theorem lp_take {wt : Nat → Int} {lim n : Nat} {e x : Int} {cur : List Nat} {rest : List (List Nat)} {z : ZZ} (hn : n ≤ 8) (hw : wB wt) (h : LpC wt lim n e M x cur rest z) (hs : mayB lim n cur = true ∧ bet z (val wt cur n) (uf cur n) = true) (hv : 0 ≤ e * val wt cur n) : Con E l 1 qX12_take [vr 44, vi n, vi (uf cur n : Nat)] M (fun r M1 => r = none ∧ Con E l 1 qX12_goesOn [vr 44, vi n] M1 (fun r M2 => ∃ y : Int, r = some (vi y) ∧ LpI wt lim n e M2 (e * val wt cur n) y ∧ K3 M M2 ∧ (y = 0 ∨ (cdM M n < cdM M2 n ∧ cdM M2 n < 43046721)))) := by
  obtain ⟨h1, h2, h3, h4, h5, h6, h7, h8⟩ := h
  rw [List.foldl_cons] at h8
  have es : stp wt lim n z cur = some (val wt cur n, uf cur n, cur) := by
    unfold stp
    rw [if_pos hs]
  have hu := rgs_uf n h2
  have hzb := stp_zB (lim := lim) (z := z) (r := cur) hw hn (by omega) h6
  rw [es] at h8 hzb
  refine (c_take hn h3).mono ?_
  rintro _ M1 ⟨rfl, q1, q2, q3⟩
  have e49 : ∀ j, M1 49 j = M 49 j := fun j => by rw [q3 49 j (by decide), up_ne (by omega)]
  have ec : cdM M1 n = cdM M n := cdM_cong n (fun j _ => e49 j)
  refine ⟨rfl, (c_next hn h1 h2 (fun j hj => (e49 j).trans (h3 j hj)) h4 (z := some (val wt cur n, uf cur n, cur)) ⟨rfl, q1, q2⟩ hzb (fun q a => by cases a; exact hv) h8).mono ?_⟩
  rintro _ M2 ⟨y, rfl, g1, g2, g3⟩
  rw [ec] at g3
  refine ⟨y, rfl, g1, fun k j a b c => ?_, g3⟩
  rw [g2 k j a, q3 k j b, up_ne c]
end
