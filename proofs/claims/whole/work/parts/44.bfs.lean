/-! STANDS BY THEIR DISTANCE: a row that is read while it is written -/
abbrev tB : Type := (Int → Int) × (Int → Int) × Int
def bF (S : tB) : Int → Int := S.1
def bO (S : tB) : Int → Int := S.2.1
def bM (S : tB) : Int := S.2.2
def u1 (f : Int → Int) (i x : Int) : Int → Int := fun j => if j = i then x else f j
theorem u1_eq (f : Int → Int) (i x : Int) : u1 f i x i = x := by simp [u1]
theorem u1_ne {f : Int → Int} {i x j : Int} (h : j ≠ i) : u1 f i x j = f j := by simp [u1, h]
def tk (S : tB) (s d : Int) : tB := if bF S s = -1 then (u1 (bF S) s d, u1 (bO S) (bM S) s, bM S + 1) else S
def vis (nx : Int → Int → Int) (s d : Int) : Nat → tB → tB
  | 0, S => S
  | v + 1, S => if nx s v = -1 then vis nx s d v S else tk (vis nx s d v S) (nx s v) d
def b0 (s : Int) : tB := (fun j => if j = s then 0 else -1, fun _ => s, 1)
def bfn (nx : Int → Int → Int) (k : Nat) (S0 : tB) : Nat → tB
  | 0 => S0
  | i + 1 => if (i : Int) < bM (bfn nx k S0 i) then vis nx (bO (bfn nx k S0 i) i) (bF (bfn nx k S0 i) (bO (bfn nx k S0 i) i) + 1) k (bfn nx k S0 i) else bfn nx k S0 i
/-- how many of n stands were met -/
def cn (f : Int → Int) : Nat → Int
  | 0 => 0
  | n + 1 => cn f n + (if f n = -1 then 0 else 1)
theorem cn_rng (f : Int → Int) : ∀ n : Nat, 0 ≤ cn f n ∧ cn f n ≤ n
  | 0 => ⟨Int.le_refl _, Int.le_refl _⟩
  | n + 1 => by have := cn_rng f n; show 0 ≤ cn f n + _ ∧ cn f n + _ ≤ ((n + 1 : Nat) : Int); split <;> omega
theorem cn_ge {f : Int → Int} {s d : Int} : ∀ {n : Nat}, n ≤ s → cn (u1 f s d) n = cn f n
  | 0, _ => rfl
  | n + 1, h => by
    show cn (u1 f s d) n + _ = cn f n + _
    rw [cn_ge (by omega), u1_ne (show (n : Int) ≠ s by omega)]
theorem cn_u1 {f : Int → Int} {s d : Int} (h1 : f s = -1) (hd : d ≠ -1) : ∀ {n : Nat}, 0 ≤ s → s < n → cn (u1 f s d) n = cn f n + 1
  | 0, h0, h => absurd h (by omega)
  | n + 1, h0, h => by
    show cn (u1 f s d) n + _ = cn f n + _ + 1
    by_cases e : s = n
    · subst e
      rw [cn_ge (Int.le_refl _), u1_eq, if_neg hd, if_pos h1]; omega
    · rw [cn_u1 h1 hd h0 (by omega), u1_ne (show (n : Int) ≠ s by omega)]; omega
theorem cn_full {f : Int → Int} {s : Int} (h1 : f s = -1) {n : Nat} (h0 : 0 ≤ s) (h : s < n) : cn f n < n := by
  have := cn_u1 (d := 0) h1 (by decide) h0 h
  have := cn_rng (u1 f s 0) n
  omega
/-- what holds of it all along: n stands, the source z; D: the greatest distance yet, from the j-th on -/
def BI (nx : Int → Int → Int) (k : Nat) (n : Nat) (z : Int) (S : tB) : Prop :=
  (bM S = cn (bF S) n ∧ 1 ≤ bM S) ∧
  (∀ j, 0 ≤ j → j < bM S → (0 ≤ bO S j ∧ bO S j < n) ∧ 0 ≤ bF S (bO S j)) ∧
  (∀ j l, 0 ≤ j → j < bM S → 0 ≤ l → l < bM S → bO S j = bO S l → j = l) ∧
  (∀ s, bF S s = -1 ∨ (0 ≤ bF S s ∧ bF S s < bM S ∧ ∃ j, 0 ≤ j ∧ j < bM S ∧ bO S j = s)) ∧
  (∀ j l, 0 ≤ j → j ≤ l → l < bM S → bF S (bO S j) ≤ bF S (bO S l)) ∧
  (∀ s, 0 < bF S s → ∃ u v : Int, (0 ≤ u ∧ u < n) ∧ 0 ≤ v ∧ v < k ∧ bF S u = bF S s - 1 ∧ nx u v = s) ∧
  (∀ s, bF S s = 0 ↔ s = z) ∧ bO S 0 = z
def NX (nx : Int → Int → Int) (k n : Nat) : Prop := ∀ s v : Int, 0 ≤ s → s < n → 0 ≤ v → v < k → nx s v ≠ -1 → 0 ≤ nx s v ∧ nx s v < n
theorem BI_0 {nx : Int → Int → Int} {k n : Nat} {z : Int} (h0 : 0 ≤ z) (h1 : z < n) : BI nx k n z (b0 z) := by
  have e : bF (b0 z) = u1 (fun _ => -1) z 0 := by funext j; rfl
  have c0 : ∀ m : Nat, cn (fun _ => -1) m = 0 := fun m => by
    induction m with
    | zero => rfl
    | succ m ih => show cn _ m + _ = 0; rw [ih, if_pos rfl]; rfl
  refine ⟨⟨?_, Int.le_refl _⟩, fun j h2 h3 => ?_, fun j l h2 h3 h4 h5 _ => ?_, fun s => ?_, fun j l h2 h3 h4 => ?_, fun s h2 => ?_, fun s => ?_, rfl⟩
  · show 1 = cn (bF (b0 z)) n
    rw [e, cn_u1 (f := fun _ => -1) rfl (by decide) h0 h1, c0]; rfl
  · exact ⟨⟨h0, h1⟩, by rw [e]; show 0 ≤ u1 _ z 0 z; rw [u1_eq]; exact Int.le_refl _⟩
  · have : bM (b0 z) = 1 := rfl
    omega
  · by_cases h : s = z
    · right; subst h; rw [e, u1_eq]; exact ⟨Int.le_refl _, Int.zero_lt_one, 0, Int.le_refl _, Int.zero_lt_one, rfl⟩
    · left; rw [e, u1_ne h]
  · have : bM (b0 z) = 1 := rfl
    rw [show j = 0 by omega, show l = 0 by omega]; exact Int.le_refl _
  · rw [e] at h2
    by_cases h : s = z
    · rw [h, u1_eq] at h2; omega
    · rw [u1_ne h] at h2; omega
  · rw [e]
    by_cases h : s = z
    · rw [h, u1_eq]; simp
    · rw [u1_ne h]; simp [h]
/-- one stand more, met from u by its step v -/
theorem BI_tk {nx : Int → Int → Int} {k n : Nat} {z : Int} {S : tB} (B : BI nx k n z S) {u v : Int} (hu : ∃ i, 0 ≤ i ∧ i < bM S ∧ bO S i = u) (hv : 0 ≤ v ∧ v < k) (hx : 0 ≤ nx u v ∧ nx u v < n) (hl : ∀ j, 0 ≤ j → j < bM S → bF S (bO S j) ≤ bF S u + 1) :
    BI nx k n z (tk S (nx u v) (bF S u + 1)) := by
  obtain ⟨⟨c1, c2⟩, c3, c4, c5, c6, c7, c8, c9⟩ := B
  obtain ⟨i, hi0, hi1, rfl⟩ := hu
  have hu := c3 i hi0 hi1
  unfold tk
  by_cases h : bF S (nx (bO S i) v) = -1
  · rw [if_pos h]
    generalize hw : nx (bO S i) v = w at h hx ⊢
    generalize hd : bF S (bO S i) + 1 = d at hl ⊢
    have hne : ∀ j, 0 ≤ j → j < bM S → bO S j ≠ w := fun j h1 h2 e => by have := (c3 j h1 h2).2; rw [e, h] at this; omega
    have hfe : ∀ j, 0 ≤ j → j < bM S → bF S (bO S j) < bM S := fun j h1 h2 => by
      rcases c5 (bO S j) with g | g
      · have := (c3 j h1 h2).2; omega
      · exact g.2.1
    have hwz : w ≠ z := fun e => by rw [e] at h; have := (c8 z).mpr rfl; omega
    refine ⟨⟨?_, ?_⟩, fun j h1 h2 => ?_, fun j l h1 h2 h3 h4 => ?_, fun s => ?_, fun j l h1 h2 h3 => ?_, fun s h1 => ?_, fun s => ?_, ?_⟩
    · show bM S + 1 = cn (u1 (bF S) w d) n
      rw [cn_u1 h (by omega) hx.1 hx.2, c1]
    · show 1 ≤ bM S + 1
      omega
    · show (0 ≤ u1 (bO S) (bM S) w j ∧ u1 (bO S) (bM S) w j < n) ∧ 0 ≤ u1 (bF S) w d (u1 (bO S) (bM S) w j)
      have h2 : j < bM S + 1 := h2
      by_cases e : j = bM S
      · rw [e, u1_eq, u1_eq]; exact ⟨hx, by omega⟩
      · have hj := c3 j h1 (by omega)
        rw [u1_ne e, u1_ne (hne j h1 (by omega))]; exact hj
    · have h2 : j < bM S + 1 := h2
      have h4 : l < bM S + 1 := h4
      show u1 (bO S) (bM S) w j = u1 (bO S) (bM S) w l → _
      by_cases e : j = bM S <;> by_cases e2 : l = bM S
      · intro _; omega
      · rw [e, u1_eq, u1_ne e2]; intro g; exact absurd g.symm (hne l h3 (by omega))
      · rw [e2, u1_eq, u1_ne e]; intro g; exact absurd g (hne j h1 (by omega))
      · rw [u1_ne e, u1_ne e2]; exact c4 j l h1 (by omega) h3 (by omega)
    · show u1 (bF S) w d s = -1 ∨ (0 ≤ u1 (bF S) w d s ∧ u1 (bF S) w d s < bM S + 1 ∧ ∃ j, 0 ≤ j ∧ j < bM S + 1 ∧ u1 (bO S) (bM S) w j = s)
      by_cases e : s = w
      · right; rw [e, u1_eq]
        have := hfe i hi0 hi1
        exact ⟨by omega, by omega, bM S, by omega, by omega, u1_eq _ _ _⟩
      · rw [u1_ne e]
        rcases c5 s with g | ⟨g1, g2, j, g3, g4, g5⟩
        · exact Or.inl g
        · exact Or.inr ⟨g1, by omega, j, g3, by omega, by rw [u1_ne (by omega)]; exact g5⟩
    · have h3 : l < bM S + 1 := h3
      show u1 (bF S) w d (u1 (bO S) (bM S) w j) ≤ u1 (bF S) w d (u1 (bO S) (bM S) w l)
      by_cases e2 : l = bM S
      · rw [e2, u1_eq, u1_eq]
        by_cases e : j = bM S
        · rw [e, u1_eq, u1_eq]; exact Int.le_refl _
        · rw [u1_ne e, u1_ne (hne j h1 (by omega))]; exact hl j h1 (by omega)
      · rw [u1_ne e2, u1_ne (show j ≠ bM S by omega), u1_ne (hne j h1 (by omega)), u1_ne (hne l (by omega) (by omega))]
        exact c6 j l h1 h2 (by omega)
    · have h1 : 0 < u1 (bF S) w d s := h1
      show ∃ u v : Int, (0 ≤ u ∧ u < n) ∧ 0 ≤ v ∧ v < k ∧ u1 (bF S) w d u = u1 (bF S) w d s - 1 ∧ nx u v = s
      by_cases e : s = w
      · refine ⟨bO S i, v, hu.1, hv.1, hv.2, ?_, by rw [hw, e]⟩
        rw [e, u1_eq, u1_ne (hne i hi0 hi1)]; omega
      · rw [u1_ne e] at h1 ⊢
        obtain ⟨u, v', g1, g2, g3, g4, g5⟩ := c7 s h1
        refine ⟨u, v', g1, g2, g3, ?_, g5⟩
        rw [u1_ne]; exact g4
        intro e3; rw [e3, h] at g4; omega
    · show u1 (bF S) w d s = 0 ↔ s = z
      by_cases e : s = w
      · rw [e, u1_eq]
        exact ⟨fun g => by omega, fun g => absurd g hwz⟩
      · rw [u1_ne e]; exact c8 s
    · show u1 (bO S) (bM S) w 0 = z
      rw [u1_ne (by omega)]; exact c9
  · rw [if_neg h]
    exact ⟨⟨c1, c2⟩, c3, c4, c5, c6, c7, c8, c9⟩
/-- what comes behind: nothing that was met is met anew -/
def EX (S S' : tB) : Prop := bM S ≤ bM S' ∧ (∀ s, bF S s ≠ -1 → bF S' s = bF S s) ∧ ∀ j, j < bM S → bO S' j = bO S j
theorem EX.rf (S : tB) : EX S S := ⟨Int.le_refl _, fun _ _ => rfl, fun _ _ => rfl⟩
theorem EX.tr {S T U : tB} (h : EX S T) (g : EX T U) : EX S U := ⟨Int.le_trans h.1 g.1, fun s hs => by rw [g.2.1 s (by rw [h.2.1 s hs]; exact hs), h.2.1 s hs], fun j hj => by rw [g.2.2 j (by have := h.1; omega), h.2.2 j hj]⟩
theorem EX_tk (S : tB) (s d : Int) : EX S (tk S s d) := by
  unfold tk
  by_cases h : bF S s = -1
  · rw [if_pos h]
    refine ⟨by show bM S ≤ bM S + 1; omega, fun w hw => ?_, fun j hj => ?_⟩
    · show u1 (bF S) s d w = bF S w
      rw [u1_ne]; rintro rfl; exact hw h
    · show u1 (bO S) (bM S) s j = bO S j
      rw [u1_ne (by omega)]
  · rw [if_neg h]; exact EX.rf S
theorem BI_vis {nx : Int → Int → Int} {k n : Nat} (N : NX nx k n) {z : Int} {S : tB} (B : BI nx k n z S) {i : Int} (hi0 : 0 ≤ i) (hi1 : i < bM S) (hl : ∀ j, 0 ≤ j → j < bM S → bF S (bO S j) ≤ bF S (bO S i) + 1) :
    ∀ {m : Nat}, m ≤ k → BI nx k n z (vis nx (bO S i) (bF S (bO S i) + 1) m S) ∧ EX S (vis nx (bO S i) (bF S (bO S i) + 1) m S) ∧ ∀ j, 0 ≤ j → j < bM (vis nx (bO S i) (bF S (bO S i) + 1) m S) → bF (vis nx (bO S i) (bF S (bO S i) + 1) m S) (bO (vis nx (bO S i) (bF S (bO S i) + 1) m S) j) ≤ bF S (bO S i) + 1
  | 0, _ => ⟨B, EX.rf S, hl⟩
  | m + 1, hm => by
    obtain ⟨B1, E1, L1⟩ := BI_vis N B hi0 hi1 hl (show m ≤ k by omega)
    have hu := B.2.1 i hi0 hi1
    rw [vis]
    by_cases e : nx (bO S i) m = -1
    · rw [if_pos e]; exact ⟨B1, E1, L1⟩
    · rw [if_neg e]
      generalize vis nx (bO S i) (bF S (bO S i) + 1) m S = T at B1 E1 L1 ⊢
      have hx := N (bO S i) m hu.1.1 hu.1.2 (by omega) (by omega) e
      have e1 : bO T i = bO S i := E1.2.2 i hi1
      have e2 : bF T (bO S i) = bF S (bO S i) := E1.2.1 _ (by omega)
      have B2 := BI_tk B1 (u := bO S i) (v := m) ⟨i, hi0, by have := E1.1; omega, e1⟩ ⟨by omega, by omega⟩ hx (by rw [e2]; exact L1)
      rw [e2] at B2
      refine ⟨B2, E1.tr (EX_tk _ _ _), fun j h1 h2 => ?_⟩
      unfold tk at h2 ⊢
      by_cases h : bF T (nx (bO S i) m) = -1
      · rw [if_pos h] at h2 ⊢
        have h2 : j < bM T + 1 := h2
        show u1 (bF T) _ _ (u1 (bO T) (bM T) _ j) ≤ _
        by_cases e3 : j = bM T
        · rw [e3, u1_eq, u1_eq]; exact Int.le_refl _
        · rw [u1_ne e3]
          by_cases e4 : bO T j = nx (bO S i) m
          · rw [e4, u1_eq]; exact Int.le_refl _
          · rw [u1_ne e4]; exact L1 j h1 (by omega)
      · rw [if_neg h] at h2 ⊢; exact L1 j h1 h2
/-- the row as it stands when its i-th place is come to -/
theorem BI_bfn {nx : Int → Int → Int} {k n : Nat} (N : NX nx k n) {z : Int} (h0 : 0 ≤ z) (h1 : z < n) :
    ∀ i : Nat, BI nx k n z (bfn nx k (b0 z) i) ∧ ∀ j l, 0 ≤ j → j < bM (bfn nx k (b0 z) i) → (i : Int) ≤ l → l < bM (bfn nx k (b0 z) i) → bF (bfn nx k (b0 z) i) (bO (bfn nx k (b0 z) i) j) ≤ bF (bfn nx k (b0 z) i) (bO (bfn nx k (b0 z) i) l) + 1
  | 0 => by
    have B := BI_0 (nx := nx) (k := k) h0 h1
    refine ⟨B, fun j l h2 h3 h4 h5 => ?_⟩
    have h3 : j < 1 := h3
    have h5 : l < 1 := h5
    show bF (b0 z) (bO (b0 z) j) ≤ bF (b0 z) (bO (b0 z) l) + 1
    rw [show j = 0 by omega, show l = 0 by omega]; omega
  | i + 1 => by
    obtain ⟨B, L⟩ := BI_bfn N h0 h1 i
    rw [bfn]
    generalize bfn nx k (b0 z) i = S at B L ⊢
    by_cases h : (i : Int) < bM S
    · rw [if_pos h]
      obtain ⟨B1, E1, L1⟩ := BI_vis N B (show (0 : Int) ≤ i by omega) h (fun j g1 g2 => L j i g1 g2 (Int.le_refl _) h) (Nat.le_refl k)
      refine ⟨B1, fun j l g1 g2 g3 g4 => ?_⟩
      have := L1 j g1 g2
      have g5 := B1.2.2.2.2.1 i l (by omega) (by omega) g4
      rw [E1.2.2 i h, E1.2.1 _ (by have := B.2.1 i (by omega) h; omega)] at g5
      omega
    · rw [if_neg h]
      exact ⟨B, fun j l g1 g2 g3 g4 => by omega⟩
theorem EX_bfn {nx : Int → Int → Int} {k n : Nat} (N : NX nx k n) {z : Int} (h0 : 0 ≤ z) (h1 : z < n) : ∀ {i j : Nat}, i ≤ j → EX (bfn nx k (b0 z) i) (bfn nx k (b0 z) j)
  | i, 0, h => by rw [show i = 0 by omega]; exact EX.rf _
  | i, j + 1, h => by
    by_cases e : i = j + 1
    · rw [e]; exact EX.rf _
    · refine (EX_bfn N h0 h1 (show i ≤ j by omega)).tr ?_
      obtain ⟨B, L⟩ := BI_bfn N h0 h1 j
      show EX _ (if (j : Int) < bM (bfn nx k (b0 z) j) then vis nx (bO (bfn nx k (b0 z) j) j) (bF (bfn nx k (b0 z) j) (bO (bfn nx k (b0 z) j) j) + 1) k (bfn nx k (b0 z) j) else bfn nx k (b0 z) j)
      by_cases g : (j : Int) < bM (bfn nx k (b0 z) j)
      · rw [if_pos g]
        exact (BI_vis N B (show (0 : Int) ≤ j by omega) g (fun q g1 g2 => L q j g1 g2 (Int.le_refl _) g) (Nat.le_refl k)).2.1
      · rw [if_neg g]; exact EX.rf _
theorem bfn_end {nx : Int → Int → Int} {k : Nat} {S0 : tB} {i : Nat} (h : bM (bfn nx k S0 i) ≤ i) : ∀ {j : Nat}, i ≤ j → bfn nx k S0 j = bfn nx k S0 i
  | 0, g => by rw [show i = 0 by omega]
  | j + 1, g => by
    by_cases e : i = j + 1
    · rw [e]
    · have := bfn_end h (show i ≤ j by omega)
      rw [bfn, this, if_neg (by omega)]
def bfs (nx : Int → Int → Int) (k n : Nat) (z : Int) : tB := bfn nx k (b0 z) n
theorem BI.le {nx : Int → Int → Int} {k n : Nat} {z : Int} {S : tB} (B : BI nx k n z S) : bM S ≤ n := by
  rw [B.1.1]; exact (cn_rng _ _).2
/-- when the row is through, it is what it comes to -/
theorem bfs_end {nx : Int → Int → Int} {k n : Nat} (N : NX nx k n) {z : Int} (h0 : 0 ≤ z) (h1 : z < n) {i : Nat} (h : bM (bfn nx k (b0 z) i) ≤ i) : bfn nx k (b0 z) i = bfs nx k n z := by
  unfold bfs
  by_cases g : i ≤ n
  · exact (bfn_end h g).symm
  · exact bfn_end (BI_bfn N h0 h1 n).1.le (by omega)
/-- a distance that stands is the last one -/
theorem bfs_far {nx : Int → Int → Int} {k n : Nat} (N : NX nx k n) {z : Int} (h0 : 0 ≤ z) (h1 : z < n) {i : Nat} {s : Int} (h : bF (bfn nx k (b0 z) i) s ≠ -1) : bF (bfn nx k (b0 z) i) s = bF (bfs nx k n z) s := by
  unfold bfs
  by_cases g : i ≤ n
  · exact ((EX_bfn N h0 h1 g).2.1 s h).symm
  · rw [bfn_end (BI_bfn N h0 h1 n).1.le (show n ≤ i by omega)]
theorem BI_bfs {nx : Int → Int → Int} {k n : Nat} (N : NX nx k n) {z : Int} (h0 : 0 ≤ z) (h1 : z < n) : BI nx k n z (bfs nx k n z) := (BI_bfn N h0 h1 n).1
theorem vis_congr {n1 n2 : Int → Int → Int} {s : Int} (d : Int) : ∀ {k : Nat}, (∀ v : Int, 0 ≤ v → v < k → n1 s v = n2 s v) → ∀ S, vis n1 s d k S = vis n2 s d k S
  | 0, _, _ => rfl
  | k + 1, h, S => by
    rw [vis, vis, vis_congr d (fun v g1 g2 => h v g1 (by omega)), h k (by omega) (by omega)]
theorem bfn_congr {n1 n2 : Int → Int → Int} {k n : Nat} (N : NX n1 k n) {z : Int} (h0 : 0 ≤ z) (h1 : z < n) (h : ∀ s v : Int, 0 ≤ s → s < n → 0 ≤ v → v < k → n1 s v = n2 s v) : ∀ i, bfn n1 k (b0 z) i = bfn n2 k (b0 z) i
  | 0 => rfl
  | i + 1 => by
    rw [bfn, bfn, ← bfn_congr N h0 h1 h i]
    by_cases g : (i : Int) < bM (bfn n1 k (b0 z) i)
    · rw [if_pos g, if_pos g]
      have := (BI_bfn N h0 h1 i).1.2.1 i (by omega) g
      exact vis_congr _ (fun v g1 g2 => h _ v this.1.1 this.1.2 g1 g2) _
    · rw [if_neg g, if_neg g]
theorem bfs_congr {n1 n2 : Int → Int → Int} {k n : Nat} (N : NX n1 k n) {z : Int} (h0 : 0 ≤ z) (h1 : z < n) (h : ∀ s v : Int, 0 ≤ s → s < n → 0 ≤ v → v < k → n1 s v = n2 s v) : bfs n1 k n z = bfs n2 k n z := bfn_congr N h0 h1 h n
