/-! ROWS: which group each is of, groups being numbered as they come; in their order -/
def catU (f : Nat → List (List Nat)) : Nat → List (List Nat)
  | 0 => []
  | n + 1 => catU f n ++ f n
theorem catU_s (f : Nat → List (List Nat)) (n : Nat) : catU f (n + 1) = catU f n ++ f n := rfl
def rf : Nat → Nat → List (List Nat)
  | 0, _ => [[]]
  | k + 1, m => catU (fun g => (rf k (max m (g + 1))).map (fun s => g :: s)) (m + 1)
theorem rf_s (k m : Nat) : rf (k + 1) m = catU (fun g => (rf k (max m (g + 1))).map (fun s => g :: s)) (m + 1) := rfl
def ro (r : List Nat) (i : Nat) : Nat := r.getD i 0
theorem ro_0 (g : Nat) (s : List Nat) : ro (g :: s) 0 = g := by simp [ro]
theorem ro_s (g : Nat) (s : List Nat) (i : Nat) : ro (g :: s) (i + 1) = ro s i := by simp [ro]
theorem ro_n (i : Nat) : ro [] i = 0 := by simp [ro]
theorem ro_z : ∀ k i, ro (List.replicate k 0) i = 0
  | 0, i => ro_n i
  | k + 1, 0 => by rw [List.replicate_succ, ro_0]
  | k + 1, i + 1 => by rw [List.replicate_succ, ro_s]; exact ro_z k i
theorem ro_app : ∀ (p s : List Nat) (k : Nat), k < p.length → ro (p ++ s) k = ro p k
  | [], _, _, h => absurd h (by simp)
  | a :: p, s, 0, _ => by rw [List.cons_append, ro_0, ro_0]
  | a :: p, s, k + 1, h => by
    rw [List.cons_append, ro_s, ro_s]
    exact ro_app p s k (by simpa using h)
theorem ro_at : ∀ (p : List Nat) (g : Nat) (s : List Nat), ro (p ++ g :: s) p.length = g
  | [], g, s => by rw [List.nil_append]; exact ro_0 g s
  | a :: p, g, s => by
    rw [List.cons_append, List.length_cons, ro_s]
    exact ro_at p g s
/-- how many groups the first i are of -/
def uf (r : List Nat) : Nat → Nat
  | 0 => 0
  | i + 1 => max (uf r i) (ro r i + 1)
theorem uf_s (r : List Nat) (i : Nat) : uf r (i + 1) = max (uf r i) (ro r i + 1) := rfl
theorem uf_c (g : Nat) (s : List Nat) : ∀ i, uf (g :: s) (i + 1) = max (g + 1) (uf s i)
  | 0 => by
    rw [uf_s, ro_0]
    show max 0 (g + 1) = max (g + 1) 0
    omega
  | i + 1 => by
    rw [uf_s, uf_c g s i, ro_s, uf_s]
    omega
def Nx (m : Nat) (s s' : List Nat) : Prop := s'.length = s.length ∧ ∃ i, i < s.length ∧ ro s i < max m (uf s i) ∧ (∀ k, i < k → k < s.length → ¬ ro s k < max m (uf s k)) ∧ ro s' i = ro s i + 1 ∧ (∀ k, k < i → ro s' k = ro s k) ∧ (∀ k, i < k → ro s' k = 0)
def Ls (n m : Nat) (s : List Nat) : Prop := s.length = n ∧ ∀ k, k < n → ¬ ro s k < max m (uf s k)
def Ch (R : List Nat → List Nat → Prop) (e : List Nat → Prop) : List (List Nat) → Prop
  | [] => False
  | a :: t => (t = [] ∧ e a) ∨ ∃ b t', t = b :: t' ∧ R a b ∧ Ch R e t
theorem Ch_c {R : List Nat → List Nat → Prop} {e : List Nat → Prop} {a : List Nat} {t : List (List Nat)} : Ch R e (a :: t) ↔ ((t = [] ∧ e a) ∨ ∃ b t', t = b :: t' ∧ R a b ∧ Ch R e t) := Iff.rfl
theorem Ch_app {R : List Nat → List Nat → Prop} {e e' : List Nat → Prop} {B : List (List Nat)} (hB : Ch R e' B) (j : ∀ a b t, e a → B = b :: t → R a b) : ∀ A, Ch R e A → Ch R e' (A ++ B)
  | [], h => h.elim
  | a :: A, h => by
    show Ch R e' (a :: (A ++ B))
    rcases Ch_c.mp h with ⟨hA, he⟩ | ⟨b, t, hA, hR, hc⟩
    · subst hA
      cases B with
      | nil => exact hB.elim
      | cons b t => exact Ch_c.mpr (Or.inr ⟨b, t, rfl, j a b t he rfl, hB⟩)
    · have ih := Ch_app hB j A hc
      subst hA
      exact Ch_c.mpr (Or.inr ⟨b, t ++ B, rfl, hR, ih⟩)
theorem Ch_map {R R' : List Nat → List Nat → Prop} {e e' : List Nat → Prop} {f : List Nat → List Nat} (hR : ∀ a b, R a b → R' (f a) (f b)) (he : ∀ a, e a → e' (f a)) : ∀ A, Ch R e A → Ch R' e' (A.map f)
  | [], h => h.elim
  | a :: A, h => by
    show Ch R' e' (f a :: A.map f)
    rcases Ch_c.mp h with ⟨hA, h2⟩ | ⟨b, t, hA, h2, hc⟩
    · subst hA
      exact Ch_c.mpr (Or.inl ⟨rfl, he a h2⟩)
    · have ih := Ch_map hR he A hc
      subst hA
      exact Ch_c.mpr (Or.inr ⟨f b, t.map f, rfl, hR a b h2, ih⟩)
theorem Ch_wk {R : List Nat → List Nat → Prop} {e e' : List Nat → Prop} (he : ∀ a, e a → e' a) {A : List (List Nat)} (h : Ch R e A) : Ch R e' A := by
  have := Ch_map (R' := R) (f := fun a => a) (fun a b q => q) he A h
  rwa [List.map_id'] at this
theorem Nx_c {m g : Nat} {s s' : List Nat} (h : Nx (max m (g + 1)) s s') : Nx m (g :: s) (g :: s') := by
  obtain ⟨h1, i, h2, h3, h4, h5, h6, h7⟩ := h
  refine ⟨by rw [List.length_cons, List.length_cons, h1], i + 1, by rw [List.length_cons]; omega, ?_, fun k a b => ?_, ?_, fun k a => ?_, fun k a => ?_⟩
  · rw [ro_s, uf_c]; omega
  · obtain ⟨k', rfl⟩ : ∃ k', k = k' + 1 := ⟨k - 1, by omega⟩
    rw [List.length_cons] at b
    have := h4 k' (by omega) (by omega)
    rw [ro_s, uf_c]; omega
  · rw [ro_s, ro_s]; exact h5
  · cases k with
    | zero => rw [ro_0, ro_0]
    | succ k => rw [ro_s, ro_s]; exact h6 k (by omega)
  · obtain ⟨k', rfl⟩ : ∃ k', k = k' + 1 := ⟨k - 1, by omega⟩
    rw [ro_s]; exact h7 k' (by omega)
theorem Nx_j {m g k : Nat} {s : List Nat} (hg : g < m) (h : Ls k (max m (g + 1)) s) : Nx m (g :: s) ((g + 1) :: List.replicate k 0) := by
  obtain ⟨h1, h2⟩ := h
  refine ⟨by rw [List.length_cons, List.length_cons, List.length_replicate, h1], 0, by rw [List.length_cons]; omega, ?_, fun i a b => ?_, ?_, fun i a => absurd a (by omega), fun i a => ?_⟩
  · rw [ro_0]; omega
  · obtain ⟨i', rfl⟩ : ∃ i', i = i' + 1 := ⟨i - 1, by omega⟩
    rw [List.length_cons] at b
    have := h2 i' (by omega)
    rw [ro_s, uf_c]; omega
  · rw [ro_0, ro_0]
  · obtain ⟨i', rfl⟩ : ∃ i', i = i' + 1 := ⟨i - 1, by omega⟩
    rw [ro_s]; exact ro_z k i'
theorem Ls_c {m k : Nat} {s : List Nat} (h : Ls k (max m (m + 1)) s) : Ls (k + 1) m (m :: s) := by
  obtain ⟨h1, h2⟩ := h
  refine ⟨by rw [List.length_cons, h1], fun i hi => ?_⟩
  cases i with
  | zero =>
    rw [ro_0]
    show ¬ m < max m 0
    omega
  | succ i =>
    have := h2 i (by omega)
    rw [ro_s, uf_c]; omega
theorem rf_ch : ∀ k m, Ch (Nx m) (Ls k m) (rf k m) ∧ ∃ t, rf k m = List.replicate k 0 :: t
  | 0, m => ⟨Ch_c.mpr (Or.inl ⟨rfl, rfl, fun k h => absurd h (by omega)⟩), [], rfl⟩
  | k + 1, m => by
    have ih := rf_ch k
    have blk : ∀ g, Ch (Nx m) (fun s => ∃ s', s = g :: s' ∧ Ls k (max m (g + 1)) s') ((rf k (max m (g + 1))).map (fun s => g :: s)) := fun g => Ch_map (fun a b q => Nx_c q) (fun a q => ⟨a, rfl, q⟩) _ (ih (max m (g + 1))).1
    have go : ∀ g, g ≤ m → Ch (Nx m) (fun s => ∃ s', s = g :: s' ∧ Ls k (max m (g + 1)) s') (catU (fun g => (rf k (max m (g + 1))).map (fun s => g :: s)) (g + 1)) ∧ ∃ t, catU (fun g => (rf k (max m (g + 1))).map (fun s => g :: s)) (g + 1) = List.replicate (k + 1) 0 :: t := by
      intro g
      induction g with
      | zero =>
        intro _
        refine ⟨blk 0, ?_⟩
        obtain ⟨t, ht⟩ := (ih (max m (0 + 1))).2
        refine ⟨t.map (fun s => 0 :: s), ?_⟩
        show (rf k (max m (0 + 1))).map (fun s => 0 :: s) = _
        rw [ht, List.map_cons, List.replicate_succ]
      | succ g gi =>
        intro hg
        obtain ⟨g1, t, g2⟩ := gi (by omega)
        refine ⟨?_, ?_⟩
        · rw [catU_s]
          refine Ch_app (blk (g + 1)) ?_ _ g1
          rintro a b u ⟨s', rfl, hs⟩ hB
          obtain ⟨t2, ht2⟩ := (ih (max m (g + 1 + 1))).2
          rw [ht2, List.map_cons] at hB
          obtain ⟨hb, _⟩ := List.cons.inj hB
          rw [← hb]
          exact Nx_j (by omega) hs
        · rw [catU_s, g2]
          exact ⟨_, rfl⟩
    obtain ⟨g1, g2⟩ := go m (Nat.le_refl _)
    refine ⟨Ch_wk ?_ g1, g2⟩
    rintro a ⟨s', rfl, hs⟩
    exact Ls_c hs
/-- the set of those of group g -/
def so (r : List Nat) (g : Nat) : Nat → Nat
  | 0 => 0
  | n + 1 => if ro r n = g then so r g n ||| 2 ^ n else so r g n
theorem so_s (r : List Nat) (g n : Nat) : so r g (n + 1) = if ro r n = g then so r g n ||| 2 ^ n else so r g n := rfl
theorem so_lt (r : List Nat) (g : Nat) : ∀ n, so r g n < 2 ^ n
  | 0 => Nat.one_pos
  | n + 1 => by
    have ih := so_lt r g n
    have h2 : 2 ^ n < 2 ^ (n + 1) := Nat.pow_lt_pow_right (by omega) (by omega)
    rw [so_s]
    split
    · exact Nat.or_lt_two_pow (by omega) h2
    · omega
theorem bt_0 (k : Nat) : bt 0 k = 0 := by
  unfold bt
  rw [Nat.zero_div]
theorem so_bt (r : List Nat) (g k : Nat) : ∀ n, bt (so r g n) k = if k < n ∧ ro r k = g then 1 else 0
  | 0 => by
    rw [if_neg (by omega)]
    exact bt_0 k
  | n + 1 => by
    have ih := so_bt r g k n
    rw [so_s]
    by_cases c : ro r n = g
    · rw [if_pos c, bt_or, bt_pow, ih]
      by_cases d : n = k
      · subst d
        rw [if_pos (by simp), if_pos ⟨by omega, c⟩]
      · by_cases e : k < n ∧ ro r k = g
        · rw [if_pos e, if_pos (by simp), if_pos ⟨by omega, e.2⟩]
        · rw [if_neg e, if_neg d, if_neg (by decide), if_neg (fun q => e ⟨by omega, q.2⟩)]
    · rw [if_neg c, ih]
      by_cases e : k < n ∧ ro r k = g
      · rw [if_pos e, if_pos ⟨by omega, e.2⟩]
      · rw [if_neg e, if_neg (fun q => by
          by_cases d : k = n
          · subst d; exact c q.2
          · exact e ⟨by omega, q.2⟩)]
theorem so_cong {r r' : List Nat} {g : Nat} : ∀ n, (∀ k, k < n → ro r k = ro r' k) → so r g n = so r' g n
  | 0, _ => rfl
  | n + 1, h => by rw [so_s, so_s, h n (by omega), so_cong n (fun k hk => h k (by omega))]
theorem uf_cong {r r' : List Nat} : ∀ n, (∀ k, k < n → ro r k = ro r' k) → uf r n = uf r' n
  | 0, _ => rfl
  | n + 1, h => by rw [uf_s, uf_s, h n (by omega), uf_cong n (fun k hk => h k (by omega))]
theorem so_0 {r : List Nat} {g : Nat} : ∀ n, uf r n ≤ g → so r g n = 0
  | 0, _ => rfl
  | n + 1, h => by
    rw [uf_s] at h
    rw [so_s, if_neg (by omega)]
    exact so_0 n (by omega)
theorem uf_ro {r : List Nat} {k : Nat} : ∀ n, k < n → ro r k < uf r n
  | 0, h => absurd h (by omega)
  | n + 1, h => by
    rw [uf_s]
    by_cases d : k = n
    · subst d; omega
    · have := uf_ro (r := r) n (show k < n by omega)
      omega
/-- each is of a group that is there, or of the next one -/
def rgs (r : List Nat) (n : Nat) : Prop := ∀ k, k < n → ro r k ≤ uf r k
theorem rgs_uf {r : List Nat} : ∀ n, rgs r n → uf r n ≤ n
  | 0, _ => Nat.le_refl _
  | n + 1, h => by
    have h1 := rgs_uf n (fun k hk => h k (by omega))
    have h2 := h n (by omega)
    rw [uf_s]
    omega
theorem rgs_on {r : List Nat} {g : Nat} : ∀ n, rgs r n → g < uf r n → ∃ k, k < n ∧ ro r k = g
  | 0, _, h => absurd h (Nat.not_lt_zero _)
  | n + 1, h, hg => by
    have h2 := h n (by omega)
    rw [uf_s] at hg
    by_cases d : g < uf r n
    · obtain ⟨k, hk, e⟩ := rgs_on n (fun k hk => h k (by omega)) d
      exact ⟨k, by omega, e⟩
    · exact ⟨n, by omega, by omega⟩
theorem rgs_so {r : List Nat} {g n : Nat} (h : rgs r n) (hg : g < uf r n) : so r g n ≠ 0 := by
  obtain ⟨k, hk, e⟩ := rgs_on n h hg
  have := so_bt r g k n
  rw [if_pos ⟨hk, e⟩] at this
  intro q
  rw [q, bt_0] at this
  exact absurd this (by decide)
theorem rgs_nx {s s' : List Nat} (h : rgs s s.length) (q : Nx 0 s s') : rgs s' s'.length := by
  obtain ⟨h1, i, h2, h3, h4, h5, h6, h7⟩ := q
  intro k hk
  rw [h1] at hk
  by_cases c : k < i
  · rw [h6 k c, uf_cong (r' := s) k (fun j hj => h6 j (by omega))]
    exact h k hk
  · by_cases d : k = i
    · subst d
      rw [h5, uf_cong (r' := s) k (fun j hj => h6 j (by omega))]
      omega
    · rw [h7 k (by omega)]
      omega
theorem rgs_z (k : Nat) : rgs (List.replicate k 0) k := fun i _ => by rw [ro_z]; omega
theorem so_ext (p : List Nat) (g g' : Nat) : so (p ++ [g]) g' (p.length + 1) = if g = g' then so p g' p.length ||| 2 ^ p.length else so p g' p.length := by
  rw [so_s, ro_at, so_cong p.length (fun k hk => ro_app p [g] k hk)]
theorem uf_ext (p : List Nat) (g : Nat) : uf (p ++ [g]) (p.length + 1) = max (uf p p.length) (g + 1) := by
  rw [uf_s, ro_at, uf_cong p.length (fun k hk => ro_app p [g] k hk)]
theorem sumZ_upd {f f' : Nat → Int} {g : Nat} : ∀ n, g < n → (∀ j, j < n → j ≠ g → f' j = f j) → sumZ f' n = sumZ f n + (f' g - f g)
  | 0, h, _ => absurd h (by omega)
  | n + 1, h, e => by
    rw [sumZ_s, sumZ_s]
    by_cases c : g = n
    · subst c
      rw [sumZ_cong (fun j hj => e j (by omega) (by omega))]
      omega
    · rw [sumZ_upd n (by omega) (fun j hj => e j (by omega)), e n (by omega) (fun q => c q.symm)]
      omega
theorem sumZ_bb {f : Nat → Int} {B : Int} : ∀ n : Nat, (∀ j, j < n → -B ≤ f j ∧ f j ≤ B) → -((n : Int) * B) ≤ sumZ f n ∧ sumZ f n ≤ (n : Int) * B
  | 0, _ => by simp [sumZ]
  | n + 1, h => by
    have i1 := sumZ_bb n (fun j hj => h j (by omega))
    have i2 := h n (by omega)
    rw [sumZ_s, Int.natCast_add, Int.add_mul]
    omega
/-- what a row is worth -/
def val (wt : Nat → Int) (r : List Nat) (n : Nat) : Int := sumZ (fun g => wt (so r g n)) (uf r n)
theorem val_ext {wt : Nat → Int} {p : List Nat} {g : Nat} (h0 : wt 0 = 0) (hg : g ≤ uf p p.length) : val wt (p ++ [g]) (p.length + 1) = val wt p p.length + (wt (so p g p.length ||| 2 ^ p.length) - wt (so p g p.length)) := by
  unfold val
  rw [uf_ext]
  have e : ∀ j, wt (so (p ++ [g]) j (p.length + 1)) = if g = j then wt (so p j p.length ||| 2 ^ p.length) else wt (so p j p.length) := fun j => by
    rw [so_ext]
    split <;> rfl
  by_cases c : g < uf p p.length
  · rw [show max (uf p p.length) (g + 1) = uf p p.length by omega]
    have h := sumZ_upd (f := fun j => wt (so p j p.length)) (f' := fun j => wt (so (p ++ [g]) j (p.length + 1))) (g := g) (uf p p.length) c (fun j hj hne => by
      show wt (so (p ++ [g]) j (p.length + 1)) = wt (so p j p.length)
      rw [e, if_neg (fun q => hne q.symm)])
    rw [h]
    show _ + (wt (so (p ++ [g]) g (p.length + 1)) - wt (so p g p.length)) = _
    rw [e, if_pos rfl]
  · have eg : g = uf p p.length := by omega
    rw [show max (uf p p.length) (g + 1) = g + 1 by omega, sumZ_s, so_0 (g := g) p.length (by omega), h0]
    have h : sumZ (fun j => wt (so (p ++ [g]) j (p.length + 1))) g = sumZ (fun j => wt (so p j p.length)) (uf p p.length) := by
      rw [← eg]
      exact sumZ_cong (fun j hj => by
        show wt (so (p ++ [g]) j (p.length + 1)) = wt (so p j p.length)
        rw [e, if_neg (by omega)])
    rw [h]
    show _ + wt (so (p ++ [g]) g (p.length + 1)) = _
    rw [e, if_pos rfl, so_0 (g := g) p.length (by omega)]
    omega
def mayB (lim n : Nat) (r : List Nat) : Bool := decide (∀ g, g < uf r n → bcn 8 (so r g n) ≤ lim)
abbrev ZZ : Type := Option (Int × Nat × List Nat)
def bet (z : ZZ) (v : Int) (u : Nat) : Bool := match z with
  | none => true
  | some q => decide (q.1 < v ∨ (q.1 = v ∧ q.2.1 < u))
def stp (wt : Nat → Int) (lim n : Nat) (z : ZZ) (r : List Nat) : ZZ := if mayB lim n r = true ∧ bet z (val wt r n) (uf r n) = true then some (val wt r n, uf r n, r) else z
def res (wt : Nat → Int) (lim n : Nat) : ZZ := (rf n 0).foldl (stp wt lim n) none
theorem val_cong {wt wt' : Nat → Int} {n : Nat} (h : ∀ s, s < 2 ^ n → wt s = wt' s) (r : List Nat) : val wt r n = val wt' r n := sumZ_cong (fun g _ => h _ (so_lt r g n))
theorem stp_cong {wt wt' : Nat → Int} {lim n : Nat} (h : ∀ s, s < 2 ^ n → wt s = wt' s) : stp wt lim n = stp wt' lim n := by
  funext z r
  unfold stp
  rw [val_cong h]
theorem res_cong {wt wt' : Nat → Int} {lim n : Nat} (h : ∀ s, s < 2 ^ n → wt s = wt' s) : res wt lim n = res wt' lim n := by
  unfold res
  rw [stp_cong h]
theorem fold_skip {wt : Nat → Int} {lim n : Nat} {p : List Nat} {z : ZZ} : ∀ L : List (List Nat), (∀ s, s ∈ L → mayB lim n (p ++ s) = false) → L.foldl (fun z s => stp wt lim n z (p ++ s)) z = z
  | [], _ => rfl
  | a :: L, h => by
    rw [List.foldl_cons]
    have e : stp wt lim n z (p ++ a) = z := by
      unfold stp
      rw [if_neg]
      rw [h a (List.mem_cons_self)]
      exact fun q => absurd q.1 (by decide)
    rw [e]
    exact fold_skip L (fun s hs => h s (List.mem_cons_of_mem _ hs))
theorem bcn_mono {s s' : Nat} (h : ∀ k, bt s k ≤ bt s' k) : ∀ n, bcn n s ≤ bcn n s'
  | 0 => Nat.le_refl _
  | n + 1 => by
    have := bcn_mono h n
    have := h n
    show bcn n s + bt s n ≤ bcn n s' + bt s' n
    omega
theorem may_no {lim n g : Nat} {p s : List Nat} (hp : p.length < n) (h : lim < bcn 8 (so p g p.length ||| 2 ^ p.length)) : mayB lim n (p ++ g :: s) = false := by
  unfold mayB
  rw [decide_eq_false_iff_not]
  intro q
  have e : ro (p ++ g :: s) p.length = g := ro_at p g s
  have h1 : g < uf (p ++ g :: s) n := by
    have := uf_ro (r := p ++ g :: s) (k := p.length) n hp
    omega
  have h2 := q g h1
  have h3 : so (p ++ g :: s) g (p.length + 1) = so p g p.length ||| 2 ^ p.length := by
    rw [so_s, e, if_pos rfl, so_cong p.length (fun k hk => ro_app p (g :: s) k hk)]
  have h4 : bcn 8 (so (p ++ g :: s) g (p.length + 1)) ≤ bcn 8 (so (p ++ g :: s) g n) := bcn_mono (fun k => by
    rw [so_bt, so_bt]
    by_cases c : k < p.length + 1 ∧ ro (p ++ g :: s) k = g
    · rw [if_pos c, if_pos ⟨by omega, c.2⟩]
      exact Nat.le_refl _
    · rw [if_neg c]
      exact Nat.zero_le _) 8
  rw [h3] at h4
  omega
theorem may_8 {lim n : Nat} (h : 8 ≤ lim) (r : List Nat) : mayB lim n r = true := by
  unfold mayB
  rw [decide_eq_true_iff]
  exact fun g _ => Nat.le_trans (bcn_le _ 8) h
theorem stp_ne {wt : Nat → Int} {lim n : Nat} {z : ZZ} {r : List Nat} (h : z ≠ none ∨ mayB lim n r = true) : stp wt lim n z r ≠ none := by
  unfold stp
  cases z with
  | none =>
    rcases h with h | h
    · exact absurd rfl h
    · rw [if_pos ⟨h, rfl⟩]
      exact fun q => by cases q
  | some q =>
    split
    · exact fun q => by cases q
    · exact fun q => by cases q
theorem fold_ne {wt : Nat → Int} {lim n : Nat} : ∀ (L : List (List Nat)) (z : ZZ), (z ≠ none ∨ ∃ r, r ∈ L ∧ mayB lim n r = true) → L.foldl (stp wt lim n) z ≠ none
  | [], z, h => by
    rcases h with h | ⟨r, h, _⟩
    · exact h
    · exact absurd h (List.not_mem_nil)
  | a :: L, z, h => by
    rw [List.foldl_cons]
    refine fold_ne L _ ?_
    rcases h with h | ⟨r, h, hm⟩
    · exact Or.inl (stp_ne (Or.inl h))
    · rcases List.mem_cons.mp h with e | h2
      · subst e
        exact Or.inl (stp_ne (Or.inr hm))
      · exact Or.inr ⟨r, h2, hm⟩
/-- each by itself -/
def idr : Nat → Nat → List Nat
  | 0, _ => []
  | k + 1, m => m :: idr k (m + 1)
theorem mem_catU {f : Nat → List (List Nat)} {x : List Nat} {g : Nat} : ∀ n, g < n → x ∈ f g → x ∈ catU f n
  | 0, h, _ => absurd h (by omega)
  | n + 1, h, hx => by
    rw [catU_s]
    by_cases c : g = n
    · subst c
      exact List.mem_append_right _ hx
    · exact List.mem_append_left _ (mem_catU n (by omega) hx)
theorem idr_mem : ∀ k m, idr k m ∈ rf k m
  | 0, _ => List.mem_cons_self
  | k + 1, m => by
    rw [rf_s]
    refine mem_catU (g := m) (m + 1) (by omega) ?_
    have h := idr_mem k (m + 1)
    rw [show max m (m + 1) = m + 1 by omega]
    exact List.mem_map_of_mem h
theorem idr_may : ∀ n, n < 9 → mayB 1 n (idr n 0) = true := by decide +kernel
theorem may_up {lim lim' n : Nat} {r : List Nat} (h : lim ≤ lim') (q : mayB lim n r = true) : mayB lim' n r = true := by
  unfold mayB at *
  rw [decide_eq_true_iff] at *
  exact fun g hg => Nat.le_trans (q g hg) h
theorem res_ne {wt : Nat → Int} {lim n : Nat} (hn : n ≤ 8) (hl : 1 ≤ lim) : res wt lim n ≠ none := fold_ne _ _ (Or.inr ⟨idr n 0, idr_mem n 0, may_up hl (idr_may n (by omega))⟩)
def zB (z : ZZ) : Prop := ∀ q, z = some q → (-70368744177664 ≤ q.1 ∧ q.1 ≤ 70368744177664) ∧ q.2.1 ≤ 8
def wB (wt : Nat → Int) : Prop := ∀ s, s < 256 → -4398046511104 ≤ wt s ∧ wt s ≤ 4398046511104
theorem val_b {wt : Nat → Int} {r : List Nat} {n : Nat} (hw : wB wt) (hn : n ≤ 8) (hu : uf r n ≤ 8) : -35184372088832 ≤ val wt r n ∧ val wt r n ≤ 35184372088832 := by
  have h2 : 2 ^ n ≤ 2 ^ 8 := Nat.pow_le_pow_right (by omega) hn
  have h := sumZ_bb (f := fun g => wt (so r g n)) (B := 4398046511104) (uf r n) (fun j _ => hw _ (Nat.lt_of_lt_of_le (so_lt r j n) h2))
  unfold val
  omega
theorem stp_zB {wt : Nat → Int} {lim n : Nat} {z : ZZ} {r : List Nat} (hw : wB wt) (hn : n ≤ 8) (hu : uf r n ≤ 8) (hz : zB z) : zB (stp wt lim n z r) := by
  have hv := val_b (r := r) hw hn hu
  unfold stp
  split
  · rintro q ⟨rfl⟩
    exact ⟨⟨by show -70368744177664 ≤ val wt r n; omega, by show val wt r n ≤ 70368744177664; omega⟩, hu⟩
  · exact hz
