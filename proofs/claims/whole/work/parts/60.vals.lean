/-! COUNTS OVER WHAT WAS MET -/
theorem cnN_congr {P Q : Int → Bool} {n : Nat} (h : ∀ i : Int, 0 ≤ i → i < n → P i = Q i) : cnN P n = cnN Q n := by
  induction n with
  | zero => rfl
  | succ n ih =>
    show cnN P n + _ = cnN Q n + _
    rw [ih (fun i g0 g1 => h i g0 (by omega)), h n (by omega) (by omega)]
theorem cnN_false {P : Int → Bool} {n : Nat} (h : ∀ i : Int, 0 ≤ i → i < n → P i = false) : cnN P n = 0 := by
  induction n with
  | zero => rfl
  | succ n ih =>
    show cnN P n + _ = 0
    rw [ih (fun i g0 g1 => h i g0 (by omega)), h n (by omega) (by omega)]; rfl
theorem cnN_true {P : Int → Bool} {n : Nat} (h : ∀ i : Int, 0 ≤ i → i < n → P i = true) : cnN P n = n := by
  induction n with
  | zero => rfl
  | succ n ih =>
    show cnN P n + _ = _
    rw [ih (fun i g0 g1 => h i g0 (by omega)), h n (by omega) (by omega)]; simp
/-- one place more -/
theorem cnN_one {P P' : Int → Bool} {s : Int} (hs : P s = false) : ∀ {n : Nat}, 0 ≤ s → s < n → (∀ i : Int, 0 ≤ i → i < n → i ≠ s → P' i = P i) → cnN P' n = cnN P n + (if P' s = true then 1 else 0)
  | 0, h0, h1, _ => absurd h1 (by omega)
  | n + 1, h0, h1, h => by
    show cnN P' n + _ = cnN P n + _ + _
    by_cases e : s = n
    · subst e
      rw [cnN_congr (P := P') (Q := P) (fun i g0 g1 => h i g0 (by omega) (by omega)), hs, if_neg (show ¬ (false = true) by decide)]
      omega
    · rw [cnN_one hs h0 (by omega) (fun i g0 g1 g2 => h i g0 (by omega) g2), h n (by omega) (by omega) (by omega)]
      omega
def CQ (n : Nat) (S : tB) : Prop := ∀ Q : Int → Bool, cnN (fun i => Q (bO S i)) (bM S).toNat = cnN (fun s => decide (bF S s ≠ -1) && Q s) n
theorem CQ_tk {n : Nat} {S : tB} (C : CQ n S) (hm : 0 ≤ bM S) {s d : Int} (h0 : 0 ≤ s) (h1 : s < n) (hd : d ≠ -1) : CQ n (tk S s d) := by
  unfold tk
  by_cases e : bF S s = -1
  · rw [if_pos e]
    intro Q
    show cnN (fun i => Q (u1 (bO S) (bM S) s i)) (bM S + 1).toNat = cnN (fun w => decide (u1 (bF S) s d w ≠ -1) && Q w) n
    rw [show (bM S + 1).toNat = (bM S).toNat + 1 by omega, cnN]
    rw [cnN_congr (Q := fun i => Q (bO S i)) (fun i g0 g1 => by rw [u1_ne (by omega)]), C Q, show (((bM S).toNat : Nat) : Int) = bM S by omega, u1_eq]
    rw [cnN_one (P := fun w => decide (bF S w ≠ -1) && Q w) (P' := fun w => decide (u1 (bF S) s d w ≠ -1) && Q w) (s := s) (by rw [decide_eq_false (by simp [e])]; rfl) h0 h1 (fun i g0 g1 g2 => by rw [u1_ne g2])]
    rw [u1_eq, decide_eq_true hd, Bool.true_and]
  · rw [if_neg e]; exact C
theorem CQ_vis {n : Nat} {nx : Int → Int → Int} {s d : Int} (hd : d ≠ -1) : ∀ {k : Nat} {S : tB}, CI n S → CQ n S → (∀ v : Int, 0 ≤ v → v < k → nx s v ≠ -1 → 0 ≤ nx s v ∧ nx s v < n) → CQ n (vis nx s d k S)
  | 0, _, _, C, _ => C
  | k + 1, S, B, C, H => by
    have c := CQ_vis hd (k := k) B C (fun v g0 g1 => H v g0 (by omega))
    have b := CI_vis (s := s) (d := d) (nx := nx) hd (k := k) B (fun v g0 g1 => H v g0 (by omega))
    rw [vis]
    by_cases e : nx s k = -1
    · rw [if_pos e]; exact c
    · rw [if_neg e]
      have g := H k (by omega) (by omega) e
      exact CQ_tk c b.2 g.1 g.2 hd
theorem CQ_b0 {n : Nat} {z : Int} (h0 : 0 ≤ z) (h1 : z < n) : CQ n (b0 z) := by
  intro Q
  show cnN (fun i => Q z) 1 = _
  rw [cnN_one (P := fun _ => false) (P' := fun s => decide (bF (b0 z) s ≠ -1) && Q s) (s := z) rfl h0 h1 (fun i g0 g1 g2 => by
    show (decide ((if i = z then (0 : Int) else -1) ≠ -1) && Q i) = false
    rw [if_neg g2]; rfl), cnN_false (fun _ _ _ => rfl)]
  show 0 + (if Q z = true then 1 else 0) = 0 + (if (decide ((if z = z then (0 : Int) else -1) ≠ -1) && Q z) = true then 1 else 0)
  rw [if_pos (show z = z from rfl)]; rfl
theorem CQ_bfn {nx : Int → Int → Int} {k n : Nat} (N : NX nx k n) {z : Int} (h0 : 0 ≤ z) (h1 : z < n) : ∀ i, CQ n (bfn nx k (b0 z) i)
  | 0 => CQ_b0 h0 h1
  | i + 1 => by
    have c := CQ_bfn N h0 h1 i
    obtain ⟨B, -⟩ := BI_bfn N h0 h1 i
    rw [bfn]
    by_cases g : (i : Int) < bM (bfn nx k (b0 z) i)
    · rw [if_pos g]
      have hu := B.2.1 i (by omega) g
      exact CQ_vis (by omega) B.ci c (fun v g0 g1 g2 => N _ v hu.1.1 hu.1.2 g0 g1 g2)
    · rw [if_neg g]; exact c
theorem CQ_bfs {nx : Int → Int → Int} {k n : Nat} (N : NX nx k n) {z : Int} (h0 : 0 ≤ z) (h1 : z < n) (Q : Int → Bool) : cnN (fun i => Q (bO (bfs nx k n z) i)) (bM (bfs nx k n z)).toNat = cnN (fun s => decide (bF (bfs nx k n z) s ≠ -1) && Q s) n := CQ_bfn N h0 h1 n Q
/-- the first of n that P picks, or -1 -/
def f1 (P : Int → Bool) : Nat → Int
  | 0 => -1
  | n + 1 => if f1 P n = -1 then (if P n = true then n else -1) else f1 P n
theorem f1_spec (P : Int → Bool) : ∀ n : Nat, (f1 P n = -1 ∧ ∀ i : Int, 0 ≤ i → i < n → P i = false) ∨ (0 ≤ f1 P n ∧ f1 P n < n ∧ P (f1 P n) = true ∧ ∀ i : Int, 0 ≤ i → i < f1 P n → P i = false)
  | 0 => Or.inl ⟨rfl, fun i h0 h1 => by omega⟩
  | n + 1 => by
    rw [f1]
    rcases f1_spec P n with ⟨h1, h2⟩ | ⟨h1, h2, h3, h4⟩
    · rw [if_pos h1]
      by_cases e : P n = true
      · right; rw [if_pos e]; exact ⟨by omega, by omega, e, h2⟩
      · left; rw [if_neg e]; refine ⟨rfl, fun i g0 g1 => ?_⟩
        by_cases e2 : i = n
        · rw [e2]; exact Bool.eq_false_iff.mpr e
        · exact h2 i g0 (by omega)
    · right; rw [if_neg (by omega)]; exact ⟨h1, by omega, h3, h4⟩
theorem f1_none {P : Int → Bool} {n : Nat} (h : ∀ i : Int, 0 ≤ i → i < n → P i = false) : f1 P n = -1 := by
  rcases f1_spec P n with h1 | ⟨h1, h2, h3, -⟩
  · exact h1.1
  · rw [h _ h1 h2] at h3; cases h3
theorem f1_at {P : Int → Bool} {n : Nat} {i : Int} (h0 : 0 ≤ i) (h1 : i < n) (hp : P i = true) (hb : ∀ j : Int, 0 ≤ j → j < i → P j = false) : f1 P n = i := by
  rcases f1_spec P n with ⟨-, g⟩ | ⟨g1, g2, g3, g4⟩
  · rw [g i h0 h1] at hp; cases hp
  · by_cases e : f1 P n < i
    · rw [hb _ g1 e] at g3; cases g3
    · by_cases e2 : i < f1 P n
      · rw [g4 i h0 e2] at hp; cases hp
      · omega
theorem f1_congr {P Q : Int → Bool} {n : Nat} (h : ∀ i : Int, 0 ≤ i → i < n → P i = Q i) : f1 P n = f1 Q n := by
  induction n with
  | zero => rfl
  | succ n ih => rw [f1, f1, ih (fun i g0 g1 => h i g0 (by omega)), h n (by omega) (by omega)]
/-! walks of a told box, bars worn as now -/
abbrev nF (t : tT) : Int → Int → Int := th t false X0 (wS t)
abbrev nB (t : tT) : Int → Int → Int := nxB t false X0 (wS t)
abbrev SF (t : tT) (z : Int) : tB := bfs (nF t) (nK t) (nN t) z
abbrev SB (t : tT) (z : Int) : tB := bfs (nB t) (nK t) (nN t) z
abbrev gs (t : tT) (s v : Int) : Bool := go t false X0 (wS t) s v
/-- the first step of a shortest verse from s, by distances to a stand -/
def lnx (t : tT) (S : tB) (s : Int) : Int := if 0 < bF S s then f1 (fun v => gs t s v && decide (bF S (s + sf t v) = bF S s - 1)) (nK t) else -1
def wlk (t : tT) (S : tB) (z : Int) : Nat → Int
  | 0 => z
  | i + 1 => wlk t S z i + sf t (lnx t S (wlk t S z i))
def lof (t : tT) (S : tB) (z k : Int) : Int := if k = -1 then bF S z else if k < 0 ∨ bF S z ≤ k then -1 else lnx t S (wlk t S z k.toNat)
theorem lnx_spec {t : tT} (W : WS t) {z : Int} (hz0 : 0 ≤ z) (hz1 : z < nS t) {s : Int} (h0 : 0 ≤ s) (h1 : s < nS t) (hf : 0 < bF (SB t z) s) :
    (0 ≤ lnx t (SB t z) s ∧ lnx t (SB t z) s < 2 * nb t) ∧ gs t s (lnx t (SB t z) s) = true ∧ bF (SB t z) (s + sf t (lnx t (SB t z) s)) = bF (SB t z) s - 1 ∧ 0 ≤ s + sf t (lnx t (SB t z) s) ∧ s + sf t (lnx t (SB t z) s) < nS t := by
  have hk := nK_rng W
  have hn := nN_eq W
  have B := BI_bfs (NX_B W false X0 (wS t)) hz0 (show z < ((nN t : Nat) : Int) by omega)
  obtain ⟨u, v, g1, g2, g3, g4, g5⟩ := B.2.2.2.2.2.1 s hf
  unfold lnx
  rw [if_pos hf]
  have hv : nxB t false X0 (wS t) u v ≠ -1 := by
    intro e; rw [e] at g5; omega
  have hgo : gs t s v = true ∧ s + sf t v = u := by
    have hu : nxB t false X0 (wS t) u v = s := g5
    unfold nxB at hu hv
    split at hu
    · rename_i g6
      simp only [Bool.and_eq_true, decide_eq_true_eq] at g6
      rw [hu] at g6
      exact ⟨g6.2, by omega⟩
    · rename_i g6
      rw [if_neg g6] at hv; exact absurd rfl hv
  rcases f1_spec (fun v => gs t s v && decide (bF (SB t z) (s + sf t v) = bF (SB t z) s - 1)) (nK t) with ⟨e1, e2⟩ | ⟨e1, e2, e3, -⟩
  · exfalso
    have := e2 v g2 g3
    rw [hgo.1, hgo.2] at this
    rw [decide_eq_true g4] at this
    exact absurd this (by decide)
  · rw [Bool.and_eq_true, decide_eq_true_eq] at e3
    obtain ⟨a, b, c, d⟩ := go_rng e3.1
    have := go_to W h0 h1 a b c d
    exact ⟨⟨a, b⟩, e3.1, e3.2, this.1, this.2.1⟩
theorem wlk_spec {t : tT} (W : WS t) {z : Int} (hz0 : 0 ≤ z) (hz1 : z < nS t) {s : Int} (h0 : 0 ≤ s) (h1 : s < nS t) : ∀ {i : Nat}, (i : Int) ≤ bF (SB t z) s → (0 ≤ wlk t (SB t z) s i ∧ wlk t (SB t z) s i < nS t) ∧ bF (SB t z) (wlk t (SB t z) s i) = bF (SB t z) s - i
  | 0, _ => ⟨⟨h0, h1⟩, by show bF (SB t z) s = _; omega⟩
  | i + 1, h => by
    obtain ⟨a, b⟩ := wlk_spec W hz0 hz1 h0 h1 (show (i : Int) ≤ bF (SB t z) s by omega)
    have := lnx_spec W hz0 hz1 a.1 a.2 (by omega)
    rw [wlk]
    exact ⟨⟨this.2.2.2.1, this.2.2.2.2⟩, by rw [this.2.2.1, b]; omega⟩
/-- the farthest of those that were met, the least -/
def Fst (S : tB) (n b : Int) : Prop := (0 ≤ b ∧ b < n) ∧ bF S b ≠ -1 ∧ ∀ s, 0 ≤ s → s < n → bF S s ≠ -1 → bF S s < bF S b ∨ (bF S s = bF S b ∧ b ≤ s)
theorem Fst.uniq {S : tB} {n b d : Int} (h : Fst S n b) (g : Fst S n d) : b = d := by
  have h1 := h.2.2 d g.1.1 g.1.2 g.2.1
  have h2 := g.2.2 b h.1.1 h.1.2 h.2.1
  omega
