/-! the walk that counts only the steps of one bar -/
def nw (nx : Int → Int → Int) (b : Int) (y : Bool) : Int → Int → Int := fun s v => if decide (v / 2 = b) = y then nx s v else -1
def ownV (b v : Int) : Int := if v / 2 = b then 1 else 0
def pth (nx : Int → Int → Int) (b : Int) (k n : Nat) (z : Int) : Nat → Int → Int → Prop
  | 0, s, d => s = z ∧ d = 0
  | i + 1, s, d => ∃ u v : Int, (0 ≤ u ∧ u < n) ∧ (0 ≤ v ∧ v < k) ∧ nx u v = s ∧ s ≠ -1 ∧ pth nx b k n z i u (d - ownV b v)
def DW (nx : Int → Int → Int) (b : Int) (k n : Nat) (z s d : Int) : Prop := (d = -1 ∧ ∀ (i : Nat) (e : Int), ¬ pth nx b k n z i s e) ∨ ((∃ i : Nat, pth nx b k n z i s d) ∧ ∀ (i : Nat) (e : Int), pth nx b k n z i s e → d ≤ e)
theorem DW.uniq {nx : Int → Int → Int} {b : Int} {k n : Nat} {z s d e : Int} (h : DW nx b k n z s d) (g : DW nx b k n z s e) : d = e := by
  rcases h with ⟨h1, h2⟩ | ⟨⟨i, h1⟩, h2⟩
  · rcases g with ⟨g1, g2⟩ | ⟨⟨i, g1⟩, g2⟩
    · rw [h1, g1]
    · exact absurd g1 (h2 i _)
  · rcases g with ⟨g1, g2⟩ | ⟨⟨j, g1⟩, g2⟩
    · exact absurd h1 (g2 i _)
    · have := h2 j _ g1; have := g2 i _ h1; omega
theorem pth_rng {nx : Int → Int → Int} {b : Int} {k n : Nat} (N : NX nx k n) {z : Int} (h0 : 0 ≤ z) (h1 : z < n) : ∀ {i : Nat} {s d : Int}, pth nx b k n z i s d → (0 ≤ s ∧ s < n) ∧ 0 ≤ d
  | 0, s, d, h => by rw [pth] at h; omega
  | i + 1, s, d, h => by
    rw [pth] at h
    obtain ⟨u, v, hu, hv, e, hs, q⟩ := h
    have r := pth_rng N h0 h1 q
    have := N u v hu.1 hu.2 hv.1 hv.2 (by rw [e]; exact hs)
    rw [e] at this
    have : 0 ≤ ownV b v := by unfold ownV; split <;> omega
    exact ⟨by omega, by omega⟩
def VSt (nx : Int → Int → Int) (u d : Int) (k : Nat) (S S' : tB) : Prop :=
  EX S S' ∧ (∀ s, bF S' s = bF S s ∨ (bF S s = -1 ∧ bF S' s = d ∧ ∃ v : Int, 0 ≤ v ∧ v < k ∧ nx u v = s ∧ s ≠ -1)) ∧
  (∀ j, bM S ≤ j → j < bM S' → bF S' (bO S' j) = d ∧ ∃ v : Int, 0 ≤ v ∧ v < k ∧ nx u v = bO S' j ∧ bO S' j ≠ -1) ∧
  (∀ v : Int, 0 ≤ v → v < k → nx u v ≠ -1 → bF S' (nx u v) ≠ -1) ∧
  ((∀ s, bF S s = -1 ∨ ∃ j, 0 ≤ j ∧ j < bM S ∧ bO S j = s) → ∀ s, bF S' s = -1 ∨ ∃ j, 0 ≤ j ∧ j < bM S' ∧ bO S' j = s)
theorem vis_VSt {nx : Int → Int → Int} {u d : Int} (hd : d ≠ -1) {S : tB} (hm : 0 ≤ bM S) : ∀ k : Nat, VSt nx u d k S (vis nx u d k S)
  | 0 => ⟨EX.rf S, fun s => Or.inl rfl, fun j g0 g1 => absurd g1 (by show ¬ j < bM S; omega), fun v g0 g1 => absurd g1 (by omega), fun h => h⟩
  | k + 1 => by
    obtain ⟨e0, e1, e2, e3, e4⟩ := vis_VSt (nx := nx) (u := u) hd hm k
    have hw : ∀ s, (∃ v : Int, 0 ≤ v ∧ v < k ∧ nx u v = s ∧ s ≠ -1) → ∃ v : Int, 0 ≤ v ∧ v < ((k + 1 : Nat) : Int) ∧ nx u v = s ∧ s ≠ -1 := fun s ⟨v, g0, g1, g2⟩ => ⟨v, g0, by omega, g2⟩
    rw [vis]
    by_cases e : nx u k = -1
    · rw [if_pos e]
      refine ⟨e0, fun s => (e1 s).imp id (fun h => ⟨h.1, h.2.1, hw s h.2.2⟩), fun j g0 g1 => ⟨(e2 j g0 g1).1, hw _ (e2 j g0 g1).2⟩, fun v g0 g1 g2 => ?_, e4⟩
      by_cases ev : v = k
      · subst ev; exact absurd e g2
      · exact e3 v g0 (by omega) g2
    · rw [if_neg e]
      generalize vis nx u d k S = T at *
      have hx := EX_tk T (nx u k) d
      by_cases g : bF T (nx u k) = -1
      · have et : tk T (nx u k) d = (u1 (bF T) (nx u k) d, u1 (bO T) (bM T) (nx u k), bM T + 1) := by unfold tk; rw [if_pos g]
        have eF : ∀ s, bF (tk T (nx u k) d) s = if s = nx u k then d else bF T s := fun s => by rw [et]; rfl
        have eO : ∀ j, bO (tk T (nx u k) d) j = if j = bM T then nx u k else bO T j := fun j => by rw [et]; rfl
        have eM : bM (tk T (nx u k) d) = bM T + 1 := by rw [et]; rfl
        have hne : ∃ v : Int, 0 ≤ v ∧ v < ((k + 1 : Nat) : Int) ∧ nx u v = nx u k ∧ nx u k ≠ -1 := ⟨k, by omega, by omega, rfl, e⟩
        have hmT : 0 ≤ bM T := by have := e0.1; omega
        refine ⟨e0.tr hx, fun s => ?_, fun j g0 g1 => ?_, fun v g0 g1 g2 => ?_, fun H s => ?_⟩
        · rw [eF]
          by_cases es : s = nx u k
          · rw [if_pos es]
            refine Or.inr ⟨?_, rfl, by rw [es]; exact hne⟩
            rcases e1 s with h | h
            · rw [← h, es]; exact g
            · exact h.1
          · rw [if_neg es]; exact (e1 s).imp id (fun h => ⟨h.1, h.2.1, hw s h.2.2⟩)
        · rw [eM] at g1
          rw [eO]
          by_cases ej : j = bM T
          · rw [if_pos ej, eF, if_pos rfl]; exact ⟨rfl, hne⟩
          · rw [if_neg ej, eF]
            have q := e2 j g0 (by omega)
            refine ⟨?_, hw _ q.2⟩
            split
            · rfl
            · exact q.1
        · rw [eF]
          by_cases es : nx u v = nx u k
          · rw [if_pos es]; exact hd
          · rw [if_neg es]
            refine e3 v g0 ?_ g2
            by_cases ev : v = k
            · rw [ev] at es; exact absurd rfl es
            · omega
        · rw [eF]
          by_cases es : s = nx u k
          · exact Or.inr ⟨bM T, by omega, by omega, by rw [eO, if_pos rfl, es]⟩
          · rw [if_neg es]
            rcases e4 H s with h | ⟨j, g0, g1, g2⟩
            · exact Or.inl h
            · exact Or.inr ⟨j, g0, by omega, by rw [eO, if_neg (by omega)]; exact g2⟩
      · have et : tk T (nx u k) d = T := by unfold tk; rw [if_neg g]
        rw [et]
        refine ⟨e0, fun s => (e1 s).imp id (fun h => ⟨h.1, h.2.1, hw s h.2.2⟩), fun j g0 g1 => ⟨(e2 j g0 g1).1, hw _ (e2 j g0 g1).2⟩, fun v g0 g1 g2 => ?_, e4⟩
        by_cases ev : v = k
        · rw [ev]; exact g
        · exact e3 v g0 (by omega) g2
def JW (nx : Int → Int → Int) (b : Int) (k n : Nat) (z : Int) (S : tB) (f e a c r : Int) : Prop := CI n S ∧ bF S z = 0 ∧ (∀ j : Int, 0 ≤ j → j < bM S → (0 ≤ bO S j ∧ bO S j < n) ∧ 0 ≤ bF S (bO S j)) ∧ (∀ s : Int, bF S s = -1 ∨ ∃ j : Int, 0 ≤ j ∧ j < bM S ∧ bO S j = s) ∧ (∀ s : Int, bF S s ≠ -1 → ∃ i : Nat, pth nx b k n z i s (bF S s)) ∧ ((0 ≤ f ∧ f ≤ e ∧ e ≤ bM S) ∧ 0 ≤ r) ∧ (∀ j v : Int, 0 ≤ j → j < f → 0 ≤ v → v < k → nx (bO S j) v ≠ -1 → bF S (nx (bO S j) v) ≠ -1 ∧ bF S (nx (bO S j) v) ≤ bF S (bO S j) + ownV b v) ∧ (∀ j v : Int, 0 ≤ j → j < a → 0 ≤ v → v < k → v / 2 ≠ b → nx (bO S j) v ≠ -1 → bF S (nx (bO S j) v) ≠ -1 ∧ bF S (nx (bO S j) v) ≤ bF S (bO S j)) ∧ (∀ j v : Int, 0 ≤ j → j < c → 0 ≤ v → v < k → v / 2 = b → nx (bO S j) v ≠ -1 → bF S (nx (bO S j) v) ≠ -1 ∧ bF S (nx (bO S j) v) ≤ bF S (bO S j) + 1) ∧ (∀ j : Int, 0 ≤ j → j < f → bF S (bO S j) ≤ r) ∧ (∀ j : Int, f ≤ j → j < e → bF S (bO S j) = r) ∧ (∀ j : Int, e ≤ j → j < bM S → bF S (bO S j) = r + 1)
theorem JW.ci {nx : Int → Int → Int} {b : Int} {k n : Nat} {z : Int} {S : tB} {f e a c r : Int} (B : JW nx b k n z S f e a c r) : CI n S := B.1
theorem JW.zz {nx : Int → Int → Int} {b : Int} {k n : Nat} {z : Int} {S : tB} {f e a c r : Int} (B : JW nx b k n z S f e a c r) : bF S z = 0 := B.2.1
theorem JW.rg {nx : Int → Int → Int} {b : Int} {k n : Nat} {z : Int} {S : tB} {f e a c r : Int} (B : JW nx b k n z S f e a c r) : ∀ j : Int, 0 ≤ j → j < bM S → (0 ≤ bO S j ∧ bO S j < n) ∧ 0 ≤ bF S (bO S j) := B.2.2.1
theorem JW.inO {nx : Int → Int → Int} {b : Int} {k n : Nat} {z : Int} {S : tB} {f e a c r : Int} (B : JW nx b k n z S f e a c r) : ∀ s : Int, bF S s = -1 ∨ ∃ j : Int, 0 ≤ j ∧ j < bM S ∧ bO S j = s := B.2.2.2.1
theorem JW.snd {nx : Int → Int → Int} {b : Int} {k n : Nat} {z : Int} {S : tB} {f e a c r : Int} (B : JW nx b k n z S f e a c r) : ∀ s : Int, bF S s ≠ -1 → ∃ i : Nat, pth nx b k n z i s (bF S s) := B.2.2.2.2.1
theorem JW.le3 {nx : Int → Int → Int} {b : Int} {k n : Nat} {z : Int} {S : tB} {f e a c r : Int} (B : JW nx b k n z S f e a c r) : (0 ≤ f ∧ f ≤ e ∧ e ≤ bM S) ∧ 0 ≤ r := B.2.2.2.2.2.1
theorem JW.cf {nx : Int → Int → Int} {b : Int} {k n : Nat} {z : Int} {S : tB} {f e a c r : Int} (B : JW nx b k n z S f e a c r) : ∀ j v : Int, 0 ≤ j → j < f → 0 ≤ v → v < k → nx (bO S j) v ≠ -1 → bF S (nx (bO S j) v) ≠ -1 ∧ bF S (nx (bO S j) v) ≤ bF S (bO S j) + ownV b v := B.2.2.2.2.2.2.1
theorem JW.ca {nx : Int → Int → Int} {b : Int} {k n : Nat} {z : Int} {S : tB} {f e a c r : Int} (B : JW nx b k n z S f e a c r) : ∀ j v : Int, 0 ≤ j → j < a → 0 ≤ v → v < k → v / 2 ≠ b → nx (bO S j) v ≠ -1 → bF S (nx (bO S j) v) ≠ -1 ∧ bF S (nx (bO S j) v) ≤ bF S (bO S j) := B.2.2.2.2.2.2.2.1
theorem JW.cc {nx : Int → Int → Int} {b : Int} {k n : Nat} {z : Int} {S : tB} {f e a c r : Int} (B : JW nx b k n z S f e a c r) : ∀ j v : Int, 0 ≤ j → j < c → 0 ≤ v → v < k → v / 2 = b → nx (bO S j) v ≠ -1 → bF S (nx (bO S j) v) ≠ -1 ∧ bF S (nx (bO S j) v) ≤ bF S (bO S j) + 1 := B.2.2.2.2.2.2.2.2.1
theorem JW.lf {nx : Int → Int → Int} {b : Int} {k n : Nat} {z : Int} {S : tB} {f e a c r : Int} (B : JW nx b k n z S f e a c r) : ∀ j : Int, 0 ≤ j → j < f → bF S (bO S j) ≤ r := B.2.2.2.2.2.2.2.2.2.1
theorem JW.lr {nx : Int → Int → Int} {b : Int} {k n : Nat} {z : Int} {S : tB} {f e a c r : Int} (B : JW nx b k n z S f e a c r) : ∀ j : Int, f ≤ j → j < e → bF S (bO S j) = r := B.2.2.2.2.2.2.2.2.2.2.1
theorem JW.lh {nx : Int → Int → Int} {b : Int} {k n : Nat} {z : Int} {S : tB} {f e a c r : Int} (B : JW nx b k n z S f e a c r) : ∀ j : Int, e ≤ j → j < bM S → bF S (bO S j) = r + 1 := B.2.2.2.2.2.2.2.2.2.2.2
theorem JW.ini {nx : Int → Int → Int} {b : Int} {k n : Nat} {z : Int} (h0 : 0 ≤ z) (h1 : z < n) : JW nx b k n z (b0 z) 0 1 0 0 0 := by
  have B := (BI_0 (nx := nx) (k := k) h0 h1)
  have eF : ∀ s, bF (b0 z) s = if s = z then 0 else -1 := fun s => rfl
  have eO : ∀ s, bO (b0 z) s = z := fun s => rfl
  have eM : bM (b0 z) = 1 := rfl
  refine ⟨B.ci, by rw [eF, if_pos rfl], fun j g0 g1 => B.2.1 j g0 g1, fun s => ?_, fun s hs => ?_, ⟨⟨by omega, by omega, by rw [eM]; omega⟩, by omega⟩, fun j v g0 g1 => absurd g1 (by omega), fun j v g0 g1 => absurd g1 (by omega), fun j v g0 g1 => absurd g1 (by omega), fun j g0 g1 => absurd g1 (by omega), fun j g0 g1 => by rw [eO, eF, if_pos rfl], fun j g0 g1 => absurd g1 (by rw [eM]; omega)⟩
  · rw [eF]
    by_cases e : s = z
    · exact Or.inr ⟨0, by omega, by rw [eM]; omega, by rw [eO, e]⟩
    · rw [if_neg e]; exact Or.inl rfl
  · rw [eF] at hs ⊢
    by_cases e : s = z
    · rw [if_pos e]; exact ⟨0, e, rfl⟩
    · rw [if_neg e] at hs; exact absurd rfl hs
theorem JW.top {nx : Int → Int → Int} {b : Int} {k n : Nat} {z : Int} {S : tB} {f e a c r : Int} (J : JW nx b k n z S f e a c r) (s : Int) : bF S s ≤ r + 1 ∧ (e = bM S → bF S s ≤ r) := by
  have h3 := J.le3
  rcases J.inO s with h | ⟨j, g0, g1, g2⟩
  · rw [h]; exact ⟨by omega, fun _ => by omega⟩
  · rw [← g2]
    by_cases q : j < f
    · have := J.lf j g0 q; exact ⟨by omega, fun _ => this⟩
    · by_cases q2 : j < e
      · have := J.lr j (by omega) q2; exact ⟨by omega, fun _ => by omega⟩
      · have := J.lh j (by omega) g1; exact ⟨by omega, fun _ => by omega⟩
/-- at the end of the first half: whatever is as near as r is met, and as near -/
theorem JW.near {nx : Int → Int → Int} {b : Int} {k n : Nat} (N : NX nx k n) {z : Int} (h0 : 0 ≤ z) (h1 : z < n) {S : tB} {f e c r : Int} (J : JW nx b k n z S f e e c r) (he : e = bM S) : ∀ {i : Nat} {s d : Int}, pth nx b k n z i s d → d ≤ r ∨ f = e → bF S s ≠ -1 ∧ bF S s ≤ d
  | 0, s, d, h, _ => by rw [pth] at h; rw [h.1, h.2, J.zz]; omega
  | i + 1, s, d, h, hd => by
    rw [pth] at h
    obtain ⟨u, v, hu, hv, ex, hs, q⟩ := h
    have pr := pth_rng N h0 h1 q
    have ho : ownV b v = 0 ∨ ownV b v = 1 := by unfold ownV; split <;> omega
    have ih := JW.near N h0 h1 J he q (by omega)
    rcases J.inO u with h | ⟨j, g0, g1, g2⟩
    · exact absurd h ih.1
    · have hx : nx (bO S j) v ≠ -1 := by rw [g2, ex]; exact hs
      by_cases qf : j < f
      · have := J.cf j v g0 qf hv.1 hv.2 hx
        rw [g2, ex] at this
        exact ⟨this.1, by omega⟩
      · have hr := J.lr j (by omega) (by omega)
        rw [g2] at hr
        by_cases qv : v / 2 = b
        · have : ownV b v = 1 := by unfold ownV; rw [if_pos qv]
          omega
        · have e0 : ownV b v = 0 := by unfold ownV; rw [if_neg qv]
          have := J.ca j v g0 (by omega) hv.1 hv.2 qv hx
          rw [g2, ex] at this
          exact ⟨this.1, by omega⟩
theorem JW.found {nx : Int → Int → Int} {b : Int} {k n : Nat} (N : NX nx k n) {z : Int} (h0 : 0 ≤ z) (h1 : z < n) {S : tB} {f e c r : Int} (J : JW nx b k n z S f e e c r) (he : e = bM S) {s : Int} (hs : bF S s ≠ -1) : DW nx b k n z s (bF S s) := by
  refine Or.inr ⟨J.snd s hs, fun i d h => ?_⟩
  have := (J.top s).2 he
  by_cases q : d ≤ r
  · exact (J.near N h0 h1 he h (Or.inl q)).2
  · omega
theorem JW.none {nx : Int → Int → Int} {b : Int} {k n : Nat} (N : NX nx k n) {z : Int} (h0 : 0 ≤ z) (h1 : z < n) {S : tB} {r : Int} (J : JW nx b k n z S (bM S) (bM S) (bM S) (bM S) r) {s : Int} (hs : bF S s = -1) : DW nx b k n z s (-1) :=
  Or.inl ⟨rfl, fun i d h => (J.near N h0 h1 rfl h (Or.inr rfl)).1 hs⟩
/-- a step of the first half -/
theorem JW.half0 {nx : Int → Int → Int} {b : Int} {k n : Nat} (N : NX nx k n) {z : Int} {S : tB} {f a c r : Int} (J : JW nx b k n z S f (bM S) a c r) (ha : f ≤ a ∧ a < bM S) (hc : c ≤ f) :
    JW nx b k n z (vis (nw nx b false) (bO S a) r k S) f (bM (vis (nw nx b false) (bO S a) r k S)) (a + 1) c r := by
  have h3 := J.le3
  have hu := J.rg a (by omega) ha.2
  have hr := J.lr a ha.1 ha.2
  have hN : ∀ v : Int, 0 ≤ v → v < k → nw nx b false (bO S a) v ≠ -1 → nw nx b false (bO S a) v = nx (bO S a) v ∧ v / 2 ≠ b ∧ 0 ≤ nx (bO S a) v ∧ nx (bO S a) v < n := fun v g0 g1 g2 => by
    unfold nw at g2 ⊢
    by_cases q : v / 2 = b
    · rw [decide_eq_true q, if_neg (by decide)] at g2; exact absurd rfl g2
    · rw [decide_eq_false q, if_pos rfl] at g2 ⊢; exact ⟨rfl, q, N _ v hu.1.1 hu.1.2 g0 g1 g2⟩
  have V := vis_VSt (nx := nw nx b false) (u := bO S a) (d := r) (by omega) (S := S) (by omega) k
  have ci := CI_vis (nx := nw nx b false) (s := bO S a) (d := r) (by omega) J.ci (fun v g0 g1 g2 => by have := hN v g0 g1 g2; rw [this.1]; exact this.2.2)
  generalize vis (nw nx b false) (bO S a) r k S = T at *
  obtain ⟨⟨m0, m1, m2⟩, w1, w2, w3, w4⟩ := V
  have tp : ∀ s, bF S s ≤ r := fun s => (J.top s).2 rfl
  have tpT : ∀ s, bF T s ≤ r := fun s => by
    rcases w1 s with h | h
    · rw [h]; exact tp s
    · rw [h.2.1]; exact Int.le_refl _
  have old : ∀ j, 0 ≤ j → j < bM S → bO T j = bO S j ∧ bF T (bO S j) = bF S (bO S j) := fun j g0 g1 => ⟨m2 j g1, m1 _ (by have := (J.rg j g0 g1).2; omega)⟩
  have keep : ∀ s d : Int, bF S s ≠ -1 ∧ bF S s ≤ d → bF T s ≠ -1 ∧ bF T s ≤ d := fun s d h => by rw [m1 s h.1]; exact h
  refine ⟨ci, by rw [m1 z (by rw [J.zz]; decide)]; exact J.zz, fun j g0 g1 => ?_, w4 J.inO, fun s hs => ?_, ⟨⟨by omega, by omega, by omega⟩, by omega⟩, fun j v g0 g1 g2 g3 => ?_, fun j v g0 g1 g2 g3 => ?_, fun j v g0 g1 g2 g3 => ?_, fun j g0 g1 => ?_, fun j g0 g1 => ?_, fun j g0 g1 => absurd g1 (by omega)⟩
  · by_cases q : j < bM S
    · have o := old j g0 q
      rw [o.1, o.2]; exact J.rg j g0 q
    · obtain ⟨x1, v, y0, y1, y2, y3⟩ := w2 j (by omega) g1
      have y := hN v y0 y1 (by rw [y2]; exact y3)
      rw [x1, ← y2, y.1]
      exact ⟨y.2.2, by omega⟩
  · rcases w1 s with h | ⟨hm, h, v, y0, y1, y2, y3⟩
    · rw [h] at hs ⊢; exact J.snd s hs
    · have y := hN v y0 y1 (by rw [y2]; exact y3)
      obtain ⟨i, p⟩ := J.snd (bO S a) (by omega)
      refine ⟨i + 1, ?_⟩
      rw [pth]
      refine ⟨bO S a, v, hu.1, ⟨y0, y1⟩, by rw [← y.1, y2], y3, ?_⟩
      rw [h, show r - ownV b v = bF S (bO S a) by unfold ownV; rw [if_neg y.2.1]; omega]
      exact p
  · have o := old j g0 (by omega)
    rw [o.1, o.2]
    intro g4
    exact keep _ _ (J.cf j v g0 g1 g2 g3 g4)
  · have o := old j g0 (by omega)
    rw [o.1, o.2]
    intro g4 g5
    by_cases q : j = a
    · subst q
      have e := w3 v g2 g3
      have en : nw nx b false (bO S j) v = nx (bO S j) v := by unfold nw; rw [decide_eq_false g4, if_pos rfl]
      rw [en] at e
      exact ⟨e g5, by rw [hr]; exact tpT _⟩
    · exact keep _ _ (J.ca j v g0 (by omega) g2 g3 g4 g5)
  · have o := old j g0 (by omega)
    rw [o.1, o.2]
    intro g4 g5
    exact keep _ _ (J.cc j v g0 g1 g2 g3 g4 g5)
  · have o := old j g0 (by omega)
    rw [o.1, o.2]; exact J.lf j g0 g1
  · by_cases q : j < bM S
    · have o := old j (by omega) q
      rw [o.1, o.2]; exact J.lr j g0 q
    · exact (w2 j (by omega) g1).1
/-- a step of the second half -/
theorem JW.half1 {nx : Int → Int → Int} {b : Int} {k n : Nat} (N : NX nx k n) {z : Int} {S : tB} {f e c r : Int} (J : JW nx b k n z S f e e c r) (hc : f ≤ c ∧ c < e) :
    JW nx b k n z (vis (nw nx b true) (bO S c) (r + 1) k S) f e e (c + 1) r := by
  have h3 := J.le3
  have hu := J.rg c (by omega) (by omega)
  have hr := J.lr c hc.1 hc.2
  have hN : ∀ v : Int, 0 ≤ v → v < k → nw nx b true (bO S c) v ≠ -1 → nw nx b true (bO S c) v = nx (bO S c) v ∧ v / 2 = b ∧ 0 ≤ nx (bO S c) v ∧ nx (bO S c) v < n := fun v g0 g1 g2 => by
    unfold nw at g2 ⊢
    by_cases q : v / 2 = b
    · rw [decide_eq_true q, if_pos rfl] at g2 ⊢; exact ⟨rfl, q, N _ v hu.1.1 hu.1.2 g0 g1 g2⟩
    · rw [decide_eq_false q, if_neg (by decide)] at g2; exact absurd rfl g2
  have V := vis_VSt (nx := nw nx b true) (u := bO S c) (d := r + 1) (by omega) (S := S) (by omega) k
  have ci := CI_vis (nx := nw nx b true) (s := bO S c) (d := r + 1) (by omega) J.ci (fun v g0 g1 g2 => by have := hN v g0 g1 g2; rw [this.1]; exact this.2.2)
  generalize vis (nw nx b true) (bO S c) (r + 1) k S = T at *
  obtain ⟨⟨m0, m1, m2⟩, w1, w2, w3, w4⟩ := V
  have tp : ∀ s, bF S s ≤ r + 1 := fun s => (J.top s).1
  have tpT : ∀ s, bF T s ≤ r + 1 := fun s => by
    rcases w1 s with h | h
    · rw [h]; exact tp s
    · rw [h.2.1]; exact Int.le_refl _
  have old : ∀ j, 0 ≤ j → j < bM S → bO T j = bO S j ∧ bF T (bO S j) = bF S (bO S j) := fun j g0 g1 => ⟨m2 j g1, m1 _ (by have := (J.rg j g0 g1).2; omega)⟩
  have keep : ∀ s d : Int, bF S s ≠ -1 ∧ bF S s ≤ d → bF T s ≠ -1 ∧ bF T s ≤ d := fun s d h => by rw [m1 s h.1]; exact h
  refine ⟨ci, by rw [m1 z (by rw [J.zz]; decide)]; exact J.zz, fun j g0 g1 => ?_, w4 J.inO, fun s hs => ?_, ⟨⟨by omega, by omega, by omega⟩, by omega⟩, fun j v g0 g1 g2 g3 => ?_, fun j v g0 g1 g2 g3 => ?_, fun j v g0 g1 g2 g3 => ?_, fun j g0 g1 => ?_, fun j g0 g1 => ?_, fun j g0 g1 => ?_⟩
  · by_cases q : j < bM S
    · have o := old j g0 q
      rw [o.1, o.2]; exact J.rg j g0 q
    · obtain ⟨x1, v, y0, y1, y2, y3⟩ := w2 j (by omega) g1
      have y := hN v y0 y1 (by rw [y2]; exact y3)
      rw [x1, ← y2, y.1]
      exact ⟨y.2.2, by omega⟩
  · rcases w1 s with h | ⟨hm, h, v, y0, y1, y2, y3⟩
    · rw [h] at hs ⊢; exact J.snd s hs
    · have y := hN v y0 y1 (by rw [y2]; exact y3)
      obtain ⟨i, p⟩ := J.snd (bO S c) (by omega)
      refine ⟨i + 1, ?_⟩
      rw [pth]
      refine ⟨bO S c, v, hu.1, ⟨y0, y1⟩, by rw [← y.1, y2], y3, ?_⟩
      rw [h, show r + 1 - ownV b v = bF S (bO S c) by unfold ownV; rw [if_pos y.2.1]; omega]
      exact p
  · have o := old j g0 (by omega)
    rw [o.1, o.2]
    intro g4
    exact keep _ _ (J.cf j v g0 g1 g2 g3 g4)
  · have o := old j g0 (by omega)
    rw [o.1, o.2]
    intro g4 g5
    exact keep _ _ (J.ca j v g0 g1 g2 g3 g4 g5)
  · have o := old j g0 (by omega)
    rw [o.1, o.2]
    intro g4 g5
    by_cases q : j = c
    · subst q
      have e := w3 v g2 g3
      have en : nw nx b true (bO S j) v = nx (bO S j) v := by unfold nw; rw [decide_eq_true g4, if_pos rfl]
      rw [en] at e
      exact ⟨e g5, by rw [hr]; exact tpT _⟩
    · exact keep _ _ (J.cc j v g0 (by omega) g2 g3 g4 g5)
  · have o := old j g0 (by omega)
    rw [o.1, o.2]; exact J.lf j g0 g1
  · have o := old j (by omega) (by omega)
    rw [o.1, o.2]; exact J.lr j g0 g1
  · by_cases q : j < bM S
    · have o := old j (by omega) q
      rw [o.1, o.2]; exact J.lh j g0 q
    · exact (w2 j (by omega) g1).1
theorem JW.next {nx : Int → Int → Int} {b : Int} {k n : Nat} {z : Int} {S : tB} {f e r : Int} (J : JW nx b k n z S f e e e r) : JW nx b k n z S e (bM S) e e (r + 1) := by
  have h3 := J.le3
  refine ⟨J.ci, J.zz, J.rg, J.inO, J.snd, ⟨⟨by omega, by omega, by omega⟩, by omega⟩, fun j v g0 g1 g2 g3 g4 => ?_, J.ca, J.cc, fun j g0 g1 => ?_, J.lh, fun j g0 g1 => absurd g1 (by omega)⟩
  · by_cases q : v / 2 = b
    · have := J.cc j v g0 g1 g2 g3 q g4; rw [show ownV b v = 1 by unfold ownV; rw [if_pos q]]; exact this
    · have := J.ca j v g0 g1 g2 g3 q g4; rw [show ownV b v = 0 by unfold ownV; rw [if_neg q]]; exact ⟨this.1, by omega⟩
  · by_cases q : j < f
    · have := J.lf j g0 q; omega
    · have := J.lr j (by omega) g1; omega
