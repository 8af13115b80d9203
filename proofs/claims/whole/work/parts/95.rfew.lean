/-! THE WALK THAT COUNTS ONE BAR'S STEPS, AS THE REFERENCE WALKS IT -/
theorem own_01 (b v : Int) : ownV b v = 0 ∨ ownV b v = 1 := by unfold ownV; split <;> omega
theorem cnN_le {P P' : Int → Bool} : ∀ {n : Nat}, (∀ i : Int, 0 ≤ i → i < n → P i = true → P' i = true) → cnN P n ≤ cnN P' n
  | 0, _ => Int.le_refl _
  | n + 1, h => by
    have ih := cnN_le (P := P) (P' := P') (n := n) (fun i g0 g1 => h i g0 (by omega))
    have hn := h n (by omega) (by omega)
    rw [cnN, cnN]
    by_cases e : P n = true
    · rw [if_pos e, if_pos (hn e)]; omega
    · rw [if_neg e]; split <;> omega
theorem cnN_lt {P P' : Int → Bool} {s : Int} (hs : P s = false) (hs2 : P' s = true) : ∀ {n : Nat}, 0 ≤ s → s < n → (∀ i : Int, 0 ≤ i → i < n → P i = true → P' i = true) → cnN P n + 1 ≤ cnN P' n
  | 0, h0, h1, _ => by omega
  | n + 1, h0, h1, h => by
    have hn := h n (by omega) (by omega)
    rw [cnN, cnN]
    by_cases e : s = n
    · have ih := cnN_le (P := P) (P' := P') (n := n) (fun i g0 g1 => h i g0 (by omega))
      rw [← e, hs, hs2, if_neg (by decide), if_pos rfl]; omega
    · have ih := cnN_lt hs hs2 (n := n) h0 (by omega) (fun i g0 g1 => h i g0 (by omega))
      by_cases e2 : P n = true
      · rw [if_pos e2, if_pos (hn e2)]; omega
      · rw [if_neg e2]; split <;> omega
def cl (nx : Int → Int → Int) (b : Int) (D : Int → Int) (u v : Int) : Prop := nx u v ≠ -1 → D (nx u v) ≠ -1 ∧ D (nx u v) ≤ D u + ownV b v
def DI (nx : Int → Int → Int) (b : Int) (k n : Nat) (z : Int) (D : Int → Int) (r : Int) : Prop := D z = 0 ∧ 0 ≤ r ∧ (∀ s : Int, 0 ≤ s → s < n → D s ≠ -1 → (0 ≤ D s ∧ D s ≤ r + 1) ∧ ∃ i : Nat, pth nx b k n z i s (D s)) ∧ ∀ u v : Int, 0 ≤ u → u < n → 0 ≤ v → v < k → 0 ≤ D u → D u < r → cl nx b D u v
def DV (nx : Int → Int → Int) (b : Int) (k n : Nat) (z : Int) (D O : Int → Int) (m r : Int) : Prop := DI nx b k n z D r ∧ (∀ i : Int, 0 ≤ i → i < m → (0 ≤ O i ∧ O i < n) ∧ D (O i) = r) ∧ (∀ s : Int, 0 ≤ s → s < n → D s = r → ∃ i : Int, 0 ≤ i ∧ i < m ∧ O i = s) ∧ m = cnN (fun s => decide (D s = r)) n ∧ r ≤ cnN (fun s => decide (0 ≤ D s) && decide (D s < r)) n
section
variable {nx : Int → Int → Int} {b : Int} {k n : Nat} {z : Int} {D O : Int → Int} {m r : Int}
theorem DI_end (N : NX nx k n) (h0 : 0 ≤ z) (h1 : z < n) (V : DI nx b k n z D r) (T : ∀ s : Int, 0 ≤ s → s < n → D s < r) {s : Int} (s0 : 0 ≤ s) (s1 : s < n) : DW nx b k n z s (D s) := by
  obtain ⟨hz, hr, hs, hc⟩ := V
  have near : ∀ (i : Nat) (s d : Int), pth nx b k n z i s d → D s ≠ -1 ∧ D s ≤ d := by
    intro i
    induction i with
    | zero => intro s d h; rw [pth] at h; rw [h.1, h.2, hz]; omega
    | succ i ih =>
      intro s d h
      rw [pth] at h
      obtain ⟨u, v, hu, hv, ex, hs2, q⟩ := h
      have ih := ih u _ q
      have q1 := (hs u hu.1 hu.2 ih.1).1
      have q2 := hc u v hu.1 hu.2 hv.1 hv.2 q1.1 (T u hu.1 hu.2) (by rw [ex]; exact hs2)
      rw [ex] at q2
      exact ⟨q2.1, by omega⟩
  by_cases e : D s = -1
  · rw [e]; exact Or.inl ⟨rfl, fun i d h => (near i s d h).1 e⟩
  · exact Or.inr ⟨(hs s s0 s1 e).2, fun i d h => (near i s d h).2⟩
theorem DI_upd (N : NX nx k n) (V : DI nx b k n z D r) {u v : Int} (hu : 0 ≤ u ∧ u < n) (hD : D u = r) (hv : 0 ≤ v ∧ v < k) (hx : nx u v ≠ -1) (c : D (nx u v) = -1 ∨ r + ownV b v < D (nx u v)) : DI nx b k n z (u1 D (nx u v) (r + ownV b v)) r ∧ (∀ u2 v2 : Int, 0 ≤ D u2 → D u2 ≤ r → u1 D (nx u v) (r + ownV b v) u2 = D u2 ∧ (cl nx b D u2 v2 → cl nx b (u1 D (nx u v) (r + ownV b v)) u2 v2)) ∧ cl nx b (u1 D (nx u v) (r + ownV b v)) u v ∧ ∀ s, s ≠ nx u v → u1 D (nx u v) (r + ownV b v) s = D s := by
  have ho := own_01 b v
  have hN := N u v hu.1 hu.2 hv.1 hv.2 hx
  have hr := V.2.1
  have ne : ∀ s, 0 ≤ D s → D s ≤ r → s ≠ nx u v := fun s g0 g1 g2 => by rw [g2] at g0 g1; omega
  have carry : ∀ u2 v2 : Int, 0 ≤ D u2 → D u2 ≤ r → u1 D (nx u v) (r + ownV b v) u2 = D u2 ∧ (cl nx b D u2 v2 → cl nx b (u1 D (nx u v) (r + ownV b v)) u2 v2) := fun u2 v2 g0 g1 => by
    refine ⟨u1_ne (ne u2 g0 g1), fun g => ?_⟩
    unfold cl
    intro q
    have g := g q
    rw [u1_ne (ne u2 g0 g1)]
    by_cases e : nx u2 v2 = nx u v
    · rw [e, u1_eq]
      rw [e] at g
      omega
    · rw [u1_ne e]; exact g
  refine ⟨⟨?_, hr, fun s s0 s1 hs => ?_, fun u2 v2 a0 a1 a2 a3 a4 a5 => ?_⟩, carry, ?_, fun s hs => u1_ne hs⟩
  · rw [u1_ne (ne z (by rw [V.1]; omega) (by rw [V.1]; omega))]; exact V.1
  · by_cases e : s = nx u v
    · rw [e, u1_eq]
      obtain ⟨i, hi⟩ := (V.2.2.1 u hu.1 hu.2 (by omega)).2
      refine ⟨by omega, i + 1, ?_⟩
      rw [pth]
      exact ⟨u, v, hu, hv, rfl, hx, by rw [Int.add_sub_cancel, ← hD]; exact hi⟩
    · rw [u1_ne e] at hs ⊢; exact V.2.2.1 s s0 s1 hs
  · by_cases e : u2 = nx u v
    · rw [e, u1_eq] at a5; omega
    · rw [u1_ne e] at a4 a5
      exact (carry u2 v2 a4 (by omega)).2 (V.2.2.2 u2 v2 a0 a1 a2 a3 a4 a5)
  · unfold cl
    intro _
    rw [u1_eq, u1_ne (ne u (by omega) (by omega)), hD]
    omega
theorem DV_upd (N : NX nx k n) (V : DV nx b k n z D O m r) {u v : Int} (hu : 0 ≤ u ∧ u < n) (hD : D u = r) (hv : 0 ≤ v ∧ v < k) (hx : nx u v ≠ -1) (c : D (nx u v) = -1 ∨ r + ownV b v < D (nx u v)) : m ≤ n ∧ (ownV b v = 0 → m < n ∧ DV nx b k n z (u1 D (nx u v) (r + ownV b v)) (u1 O m (nx u v)) (m + 1) r) ∧ (ownV b v = 1 → DV nx b k n z (u1 D (nx u v) (r + ownV b v)) O m r) := by
  have hN := N u v hu.1 hu.2 hv.1 hv.2 hx
  obtain ⟨hI, hq, hqs, hm, hl⟩ := V
  obtain ⟨d1, d2, d3, d4⟩ := DI_upd N hI hu hD hv hx c
  have hr := hI.2.1
  have hxr : D (nx u v) ≠ r := by have := own_01 b v; omega
  have hrg := cnN_rng (fun s => decide (D s = r)) n
  have ne : ∀ s, D s = r → s ≠ nx u v := fun s g e => hxr (by rw [← e]; exact g)
  have lev : r ≤ cnN (fun s => decide (0 ≤ u1 D (nx u v) (r + ownV b v) s) && decide (u1 D (nx u v) (r + ownV b v) s < r)) n := by
    rw [cnN_congr (Q := fun s => decide (0 ≤ D s) && decide (D s < r)) (fun s s0 s1 => ?_)]
    · exact hl
    · by_cases e : s = nx u v
      · rw [e, u1_eq]
        have := own_01 b v
        rw [decide_eq_false (show ¬ (r + ownV b v < r) by omega), Bool.and_false]
        rcases c with c | c
        · rw [c]; rfl
        · rw [decide_eq_false (show ¬ (D (nx u v) < r) by omega), Bool.and_false]
      · rw [u1_ne e]
  have one := cnN_one (P := fun s => decide (D s = r)) (P' := fun s => decide (u1 D (nx u v) (r + ownV b v) s = r)) (s := nx u v) (decide_eq_false hxr) (n := n) hN.1 hN.2 (fun i _ _ q => by show decide (u1 D _ _ i = r) = _; rw [u1_ne q])
  have hrg2 := cnN_rng (fun s => decide (u1 D (nx u v) (r + ownV b v) s = r)) n
  refine ⟨by omega, fun o => ?_, fun o => ?_⟩
  · have ev : decide (u1 D (nx u v) (r + ownV b v) (nx u v) = r) = true := by rw [u1_eq, o]; exact decide_eq_true (by omega)
    rw [if_pos ev, ← hm] at one
    refine ⟨by omega, d1, fun i i0 i1 => ?_, fun s s0 s1 hs => ?_, one.symm, lev⟩
    · by_cases e : i = m
      · rw [e, u1_eq, u1_eq, o]; exact ⟨hN, by omega⟩
      · rw [u1_ne e]
        have := hq i i0 (by omega)
        rw [d4 _ (ne _ this.2)]; exact this
    · by_cases e : s = nx u v
      · exact ⟨m, by omega, by omega, by rw [u1_eq, e]⟩
      · rw [d4 s e] at hs
        obtain ⟨i, i0, i1, i2⟩ := hqs s s0 s1 hs
        exact ⟨i, i0, by omega, by rw [u1_ne (by omega)]; exact i2⟩
  · have ev : decide (u1 D (nx u v) (r + ownV b v) (nx u v) = r) = false := by rw [u1_eq, o]; exact decide_eq_false (by omega)
    rw [ev, if_neg (by decide), ← hm] at one
    refine ⟨d1, fun i i0 i1 => ?_, fun s s0 s1 hs => ?_, by rw [one]; omega, lev⟩
    · have := hq i i0 i1
      rw [d4 _ (ne _ this.2)]; exact this
    · by_cases e : s = nx u v
      · rw [e, u1_eq] at hs; omega
      · rw [d4 s e] at hs
        exact hqs s s0 s1 hs
/-- a level done: the next -/
theorem DV_next (V : DV nx b k n z D O m r) (C : ∀ i v : Int, 0 ≤ i → i < m → 0 ≤ v → v < k → cl nx b D (O i) v) : DI nx b k n z D (r + 1) ∧ (0 < m → r + 1 ≤ cnN (fun s => decide (0 ≤ D s) && decide (D s < r + 1)) n) := by
  obtain ⟨hI, hq, hqs, hm, hl⟩ := V
  have hr := hI.2.1
  refine ⟨⟨hI.1, by omega, fun s s0 s1 hs => ⟨by have := (hI.2.2.1 s s0 s1 hs).1; omega, (hI.2.2.1 s s0 s1 hs).2⟩, fun u v u0 u1_ v0 v1 a b_ => ?_⟩, fun m0 => ?_⟩
  · by_cases e : D u = r
    · obtain ⟨i, i0, i1, i2⟩ := hqs u u0 u1_ e
      rw [← i2]; exact C i v i0 i1 v0 v1
    · exact hI.2.2.2 u v u0 u1_ v0 v1 a (by omega)
  · have q := hq 0 (by omega) m0
    have := cnN_lt (P := fun s => decide (0 ≤ D s) && decide (D s < r)) (P' := fun s => decide (0 ≤ D s) && decide (D s < r + 1)) (s := O 0) (by show (decide _ && decide _) = false; rw [q.2, decide_eq_false (show ¬ (r < r) by omega), Bool.and_false]) (by show (decide _ && decide _) = true; rw [q.2, decide_eq_true hr, decide_eq_true (show r < r + 1 by omega)]; rfl) (n := n) q.1.1 q.1.2 (fun i _ _ g => by
      have g : (decide (0 ≤ D i) && decide (D i < r)) = true := g
      show (decide (0 ≤ D i) && decide (D i < r + 1)) = true
      rw [Bool.and_eq_true, decide_eq_true_eq, decide_eq_true_eq] at g ⊢
      omega)
    omega
end
