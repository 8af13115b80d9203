section
variable {h : mH} {c : Int} {p L : Int → Int} {M : aM}
/-- which steps go, as masks in the array g, of n stands and k steps; the shifts in 42 -/
def GF (M : aM) (g : Int) (k n : Nat) (nx : Int → Int → Int) : Prop := ∀ s : Int, 0 ≤ s → s < n → (0 ≤ M g s ∧ M g s < 262144) ∧ ∀ v : Nat, v < k → nx s v = if bt (M g s) v = true then s + M 42 v else -1
def GB (M : aM) (g : Int) (k n : Nat) (nx : Int → Int → Int) : Prop := ∀ s : Int, 0 ≤ s → s < n → (0 ≤ M g s ∧ M g s < 262144) ∧ ∀ v : Nat, v < k → nx s v = if (decide (0 ≤ s - M 42 v) && decide (s - M 42 v < n) && bt (M g (s - M 42 v)) v) = true then s - M 42 v else -1
theorem s_Paths_maskOf (A : At h c p L M) {n : Nat} (hst : M 41 2 = n) {g : Int} (hg : g = 46 ∨ g = 47) (hL : n ≤ L g) (s : Int) : f_Paths_maskOf h 41 (p g) s = some ((0, if 0 ≤ s ∧ s < n then M g s else 0), h) := by
  have C := A.gr
  unfold f_Paths_maskOf f_Paths_maskOf_J24
  by_cases g1 : s < 0
  · rw [if_pos g1, if_neg (by omega)]
  · rw [if_neg g1]
    rcases hg with rfl | rfl
    · simp only [C]
      rw [chk_t trivial, hst]
      by_cases g2 : (n : Int) ≤ s
      · rw [if_pos g2, if_neg (by omega)]
      · rw [if_neg g2, chk_t (Nat.le_refl _), if_neg (by omega), chk_t trivial, chk_t (by omega), if_pos (by omega)]
    · simp only [C]
      rw [chk_t trivial, hst]
      by_cases g2 : (n : Int) ≤ s
      · rw [if_pos g2, if_neg (by omega)]
      · rw [if_neg g2, chk_t (Nat.le_refl _), if_neg (by omega), chk_t trivial, chk_t (by omega), if_pos (by omega)]
theorem qshr_0 {m v : Int} (h0 : 0 ≤ m) (h1 : m < 262144) (g0 : 0 ≤ v) (g1 : v < 32) (h : qshr m v = 0) {w : Nat} (hw : v ≤ w) : bt m w = false := by
  by_cases h32 : w < 32
  · rw [qshr_eq (by omega) (by omega) g0 g1] at h
    obtain ⟨x, rfl⟩ := Int.eq_ofNat_of_zero_le h0
    rw [bt_nat x w h32]
    apply Nat.testBit_lt_two_pow
    have e : x / 2 ^ v.toNat = 0 := by
      have e2 : ((x / 2 ^ v.toNat : Nat) : Int) = 0 := by rw [Int.natCast_ediv]; exact_mod_cast h
      omega
    have e3 : x < 2 ^ v.toNat := by
      rcases Nat.div_eq_zero_iff.mp e with e4 | e4
      · have : 0 < 2 ^ v.toNat := Nat.pow_pos (by decide)
        omega
      · exact e4
    exact Nat.lt_of_lt_of_le e3 (Nat.pow_le_pow_right (by decide) (by omega))
  · exact bt_ge (by omega)
/-- the stands behind the steps of a mask -/
theorem s_Paths_visit (A : At h c p L M) {k f o : Int} (hk : PK k f o) {n K : Nat} (hn : n ≤ 20000) (hK : K ≤ 18) (hst : M 41 3 = K) {S : tB} (Q : PI M f o (M k 4) n S) (B : CI n S) (hf : n ≤ L f) (ho : n ≤ L o) {nx : Int → Int → Int} {s m d : Int} (hs0 : 0 ≤ s) (hs1 : s < n) (hd : d ≠ -1)
    (hm0 : 0 ≤ m) (hm1 : m < 262144) (hx : ∀ v : Nat, v < K → nx s v = if bt m v = true then s + M 42 v else -1) (hN : ∀ v : Int, 0 ≤ v → v < K → nx s v ≠ -1 → 0 ≤ nx s v ∧ nx s v < n) :
    ∃ h' M', f_Paths_visit h k 41 s m d = some ((3, 0), h') ∧ At h' c p L M' ∧ Fs [f, o] k [4] M M' ∧ PI M' f o (M' k 4) n (vis nx s d K S) := by
  obtain ⟨gf, go, gk, gp, ⟨n1, n2, n3⟩, gm, gu, gu2, gr⟩ := hk.gf
  unfold f_Paths_visit
  refine loop_r (F := fun n (b : mH × Int) => f_Paths_visit_L3 k 41 s m d n b.1 b.2) (P := fun r => ∃ h' M', r = some ((3, 0), h') ∧ At h' c p L M' ∧ Fs [f, o] k [4] M M' ∧ PI M' f o (M' k 4) n (vis nx s d K S)) (fun i b => b.2 = (i : Int) ∧ ∃ M', At b.1 c p L M' ∧ Fs [f, o] k [4] M M' ∧ PI M' f o (M' k 4) n (vis nx s d i S)) K (fun i hi b hb q => ?_) (fun b hb q => ?_) (i := 0) (b := (h, 0)) ⟨rfl, M, A, Fs.rf _ _ _ _, Q⟩ (by omega) (by omega)
  · obtain ⟨h1, r⟩ := b
    obtain ⟨hr, M1, A1, F1, Q1⟩ := hb
    have hr : r = (i : Int) := hr
    subst hr
    have A1 : At h1 c p L M1 := A1
    have C1 := A1.pk hk
    have D1 := A1.gr
    have hs : M1 41 3 = K := by rw [F1.1 41 (by simp; omega) (by omega)]; exact hst
    have h42 : M1 42 = M 42 := F1.1 42 (by simp; omega) (by omega)
    have B1 := CI_vis (s := s) (d := d) (nx := nx) hd (k := i) B (fun v g0 g1 => hN v g0 (by omega))
    show (∃ h' M', f_Paths_visit_L3 k 41 s m d (q + 1) h1 i = some ((3, 0), h') ∧ _) ∨ ∃ b' : mH × Int, _ ∧ f_Paths_visit_L3 k 41 s m d (q + 1) h1 i = _
    rw [f_Paths_visit_L3]
    simp only [D1]
    rw [chk_t trivial, hs, if_neg (by omega)]
    by_cases g : qshr m i = 0
    · left
      rw [if_pos g]
      refine ⟨h1, M1, rfl, A1, F1, ?_⟩
      rw [vis_stop (j := i) (by omega) (fun v g0 g1 => ?_)]
      · exact Q1
      · have := hx v.toNat (by omega)
        rw [show ((v.toNat : Nat) : Int) = v by omega, qshr_0 hm0 hm1 (by omega) (by omega) g (show (i : Int) ≤ (v.toNat : Nat) by omega)] at this
        exact this
    · right
      rw [if_neg g]
      have hxi := hx i hi
      by_cases g2 : bt m i = true
      · rw [if_pos g2] at hxi
        have hr := hN i (by omega) (by omega)
        have hne : nx s i ≠ -1 ∨ nx s i = -1 := by omega
        rw [if_pos ((bt_at (by omega) (by omega) (by omega) (by omega)).mpr (by rw [Int.toNat_natCast]; exact g2)), chk_t trivial, chk_t trivial, chk_t (by omega)]
        simp only [C1]
        rw [chk_t trivial, h42, ← hxi]
        rcases hne with hne | hne
        · have hr := hr hne
          rw [w32_id (by omega) (by omega)]
          obtain ⟨h2, M2, f2, A2, F2, Q2⟩ := s_Paths_take A1 hk hn Q1 B1 hf ho (s := nx s i) (d := d) hr.1 hr.2
          rw [f2, bndT_ok (by decide)]
          refine ⟨(h2, ((i + 1 : Nat) : Int)), ⟨rfl, M2, A2, F1.tr F2, ?_⟩, ?_⟩
          · rw [vis, if_neg hne]; exact Q2
          · unfold f_Paths_visit_J44; rw [wtv, w32_n i (by omega)]
        · refine ⟨(h1, ((i + 1 : Nat) : Int)), ⟨rfl, M1, A1, F1, ?_⟩, ?_⟩
          · rw [vis, if_pos hne]; exact Q1
          · rw [hne, w32_id (by omega) (by omega)]
            unfold f_Paths_take
            rw [if_pos (by decide), bndT_ok (by decide)]
            unfold f_Paths_visit_J44; rw [wtv, w32_n i (by omega)]
      · rw [if_neg g2] at hxi
        rw [if_neg (fun e => g2 (by have := (bt_at (by omega) (by omega) (by omega) (by omega)).mp e; rwa [Int.toNat_natCast] at this))]
        refine ⟨(h1, ((i + 1 : Nat) : Int)), ⟨rfl, M1, A1, F1, ?_⟩, ?_⟩
        · rw [vis, if_pos hxi]; exact Q1
        · unfold f_Paths_visit_J44; rw [wtv, w32_n i (by omega)]
  · obtain ⟨h1, r⟩ := b
    obtain ⟨hr, M1, A1, F1, Q1⟩ := hb
    have hr : r = (K : Int) := hr
    subst hr
    have A1 : At h1 c p L M1 := A1
    have D1 := A1.gr
    have hs : M1 41 3 = K := by rw [F1.1 41 (by simp; omega) (by omega)]; exact hst
    refine ⟨h1, M1, ?_, A1, F1, Q1⟩
    show f_Paths_visit_L3 k 41 s m d (q + 1) h1 _ = _
    rw [f_Paths_visit_L3]
    simp only [D1]
    rw [chk_t trivial, hs, if_pos (Int.le_refl _)]
theorem EX_visd {nx : Int → Int → Int} {s d : Int} : ∀ (k : Nat) (S : tB), EX S (vis nx s d k S)
  | 0, S => EX.rf S
  | k + 1, S => by
    rw [vis]
    by_cases e : nx s k = -1
    · rw [if_pos e]; exact EX_visd k S
    · rw [if_neg e]; exact (EX_visd k S).tr (EX_tk _ _ _)
/-- the stands ahead -/
theorem s_Paths_visitAhead (A : At h c p L M) {k f o : Int} (hk : PK k f o) {n K : Nat} (hn : n ≤ 20000) (hK : K ≤ 18) (hst : M 41 3 = K) (hst2 : M 41 2 = n) {g : Int} (hg : g = 46 ∨ g = 47) (hLg : n ≤ L g) {S : tB} (Q : PI M f o (M k 4) n S) (B : CI n S) (hf : n ≤ L f) (ho : n ≤ L o) {nx : Int → Int → Int} {s : Int} (hs0 : 0 ≤ s) (hs1 : s < n)
    (hfs : 0 ≤ bF S s ∧ bF S s ≤ 20000) (G : GB M g K n nx) (h42 : ∀ v : Nat, v < K → -300000 ≤ M 42 v ∧ M 42 v ≤ 300000) :
    ∃ h' M', f_Paths_visitAhead h k 41 (p g) s = some ((3, 0), h') ∧ At h' c p L M' ∧ Fs [f, o] k [4] M M' ∧ PI M' f o (M' k 4) n (vis nx s (bF S s + 1) K S) := by
  obtain ⟨gf, go, gk, gp, ⟨n1, n2, n3⟩, gm, gu, gu2, gr⟩ := hk.gf
  have hgr : g ≠ f ∧ g ≠ o ∧ g ≠ k := by omega
  have hN : ∀ v : Int, 0 ≤ v → v < K → nx s v ≠ -1 → 0 ≤ nx s v ∧ nx s v < n := fun v g0 g1 g2 => by
    have := (G s hs0 hs1).2 v.toNat (by omega)
    rw [show ((v.toNat : Nat) : Int) = v by omega] at this
    rw [this] at g2 ⊢
    split at g2
    · rename_i g3
      rw [if_pos g3]
      simp only [Bool.and_eq_true, decide_eq_true_eq] at g3
      exact ⟨g3.1.1, g3.1.2⟩
    · exact absurd rfl g2
  unfold f_Paths_visitAhead
  refine loop_r (F := fun n (b : mH × Int) => f_Paths_visitAhead_L3 k 41 (p g) s n b.1 b.2) (P := fun r => ∃ h' M', r = some ((3, 0), h') ∧ At h' c p L M' ∧ Fs [f, o] k [4] M M' ∧ PI M' f o (M' k 4) n (vis nx s (bF S s + 1) K S)) (fun i b => b.2 = (i : Int) ∧ ∃ M', At b.1 c p L M' ∧ Fs [f, o] k [4] M M' ∧ PI M' f o (M' k 4) n (vis nx s (bF S s + 1) i S)) K (fun i hi b hb q => ?_) (fun b hb q => ?_) (i := 0) (b := (h, 0)) ⟨rfl, M, A, Fs.rf _ _ _ _, Q⟩ (by omega) (by omega)
  · obtain ⟨h1, r⟩ := b
    obtain ⟨hr, M1, A1, F1, Q1⟩ := hb
    have hr : r = (i : Int) := hr
    subst hr
    have A1 : At h1 c p L M1 := A1
    have C1 := A1.pk hk
    have D1 := A1.gr
    have hs : M1 41 3 = K := by rw [F1.1 41 (by simp; omega) (by omega)]; exact hst
    have hs2 : M1 41 2 = n := by rw [F1.1 41 (by simp; omega) (by omega)]; exact hst2
    have e42 : M1 42 = M 42 := F1.1 42 (by simp; omega) (by omega)
    have eg : M1 g = M g := F1.1 g (by simp; omega) (by omega)
    have B1 := CI_vis (s := s) (d := bF S s + 1) (nx := nx) (by omega) (k := i) B (fun v g0 g1 => hN v g0 (by omega))
    have E1 := EX_visd (nx := nx) (s := s) (d := bF S s + 1) i S
    have hxi := (G s hs0 hs1).2 i hi
    have hb := h42 i hi
    have hJ : ∀ h, f_Paths_visitAhead_J52 (f_Paths_visitAhead_L3 k 41 (p g) s q) i h = f_Paths_visitAhead_L3 k 41 (p g) s q h ((i + 1 : Nat) : Int) := fun h => by
      unfold f_Paths_visitAhead_J52; rw [wtv, w32_n i (by omega)]
    right
    show ∃ b' : mH × Int, _ ∧ f_Paths_visitAhead_L3 k 41 (p g) s (q + 1) h1 i = _
    rw [f_Paths_visitAhead_L3]
    simp only [D1]
    rw [chk_t trivial, hs, if_neg (by omega), chk_t trivial, chk_t trivial, chk_t (by omega), wtv, e42, w32_id (by omega) (by omega), s_Paths_maskOf A1 hs2 hg hLg, bndT_ok (by decide), eg]
    by_cases g1 : 0 ≤ s - M 42 i ∧ s - M 42 i < n
    · have hmr := (G (s - M 42 i) g1.1 g1.2).1
      rw [if_pos g1]
      rw [decide_eq_true g1.1, decide_eq_true g1.2, Bool.true_and, Bool.true_and] at hxi
      by_cases g2 : bt (M g (s - M 42 i)) i = true
      · rw [if_pos g2] at hxi
        rw [if_pos ((bt_at (by omega) (by omega) (by omega) (by omega)).mpr (by rw [Int.toNat_natCast]; exact g2))]
        simp only [C1]
        have fe : M1 f s = bF S s := by rw [Q1.1 s hs0 hs1, E1.2.1 s (by omega)]
        rw [chk_t trivial, s_Paths_farOf A1 hk, bndT_ok (by decide), if_pos ⟨hs0, by omega⟩]
        simp only [C1]
        rw [chk_t trivial, fe, w32_id (by omega) (by omega)]
        obtain ⟨h2, M2, f2, A2, F2, Q2⟩ := s_Paths_take A1 hk hn Q1 B1 hf ho (s := s - M 42 i) (d := bF S s + 1) g1.1 g1.2
        rw [f2, bndT_ok (by decide), hJ]
        refine ⟨(h2, ((i + 1 : Nat) : Int)), ⟨rfl, M2, A2, F1.tr F2, ?_⟩, rfl⟩
        rw [vis, hxi, if_neg (by omega)]; exact Q2
      · rw [if_neg g2] at hxi
        rw [if_neg (fun e => g2 (by have := (bt_at (by omega) (by omega) (by omega) (by omega)).mp e; rwa [Int.toNat_natCast] at this)), hJ]
        exact ⟨(h1, ((i + 1 : Nat) : Int)), ⟨rfl, M1, A1, F1, by rw [vis, if_pos hxi]; exact Q1⟩, rfl⟩
    · have : (decide (0 ≤ s - M 42 i) && decide (s - M 42 i < n)) = false := by
        rw [Bool.and_eq_false_iff, decide_eq_false_iff_not, decide_eq_false_iff_not]; omega
      rw [this, Bool.false_and, if_neg (by decide)] at hxi
      rw [if_neg g1, if_neg (fun e => by have := (bt_at (by omega) (by omega) (by omega) (by omega)).mp e; rw [bt_0] at this; cases this), hJ]
      exact ⟨(h1, ((i + 1 : Nat) : Int)), ⟨rfl, M1, A1, F1, by rw [vis, if_pos hxi]; exact Q1⟩, rfl⟩
  · obtain ⟨h1, r⟩ := b
    obtain ⟨hr, M1, A1, F1, Q1⟩ := hb
    have hr : r = (K : Int) := hr
    subst hr
    have A1 : At h1 c p L M1 := A1
    have D1 := A1.gr
    have hs : M1 41 3 = K := by rw [F1.1 41 (by simp; omega) (by omega)]; exact hst
    refine ⟨h1, M1, ?_, A1, F1, Q1⟩
    show f_Paths_visitAhead_L3 k 41 (p g) s (q + 1) h1 _ = _
    rw [f_Paths_visitAhead_L3]
    simp only [D1]
    rw [chk_t trivial, hs, if_pos (Int.le_refl _)]
/-- the walk, or the first part of it, till the goal is met -/
theorem s_Paths_spread (A : At h c p L M) {k f o : Int} (hk : PK k f o) {n K : Nat} (hn1 : 1 ≤ n) (hn : n ≤ 20000) (hK : K ≤ 18) (hst : M 41 3 = K) (hst2 : M 41 2 = n) {g : Int} (hg : g = 46 ∨ g = 47) (hLg : n ≤ L g) {nx : Int → Int → Int} (N : NX nx K n)
    (G : (M k 0 = 0 ∧ GF M g K n nx) ∨ (M k 0 ≠ 0 ∧ GB M g K n nx)) (h42 : ∀ v : Nat, v < K → -300000 ≤ M 42 v ∧ M 42 v ≤ 300000) {z goal : Int} (hz0 : 0 ≤ z) (hz1 : z < n) :
    ∃ h' p' L' M', f_Paths_spread h k 41 (p g) z goal = some ((3, 0), h') ∧ At h' c p' L' M' ∧ Of [f, o] p p' ∧ Of [f, o] L L' ∧ n ≤ L' f ∧ n ≤ L' o ∧ Fs [f, o] k [3, 4] M M' ∧ M' k 3 = -1 ∧ ∃ j : Nat, PI M' f o (M' k 4) n (bfn nx K (b0 z) j) ∧ (bM (bfn nx K (b0 z) j) ≤ j ∨ (0 ≤ goal ∧ goal < L' f ∧ M' f goal ≠ -1)) := by
  obtain ⟨gf, go, gk, gp, ⟨n1, n2, n3⟩, gm, gu, gu2, gr⟩ := hk.gf
  have hgr : g ≠ f ∧ g ≠ o ∧ g ≠ k := by omega
  have k41 : (41 : Int) ≠ k := by omega
  have C := A.pk hk
  obtain ⟨h0, p0, L0, M0, f0, A0, op0, oL0, lf0, lo0, F0, v3, Q0⟩ := s_Paths_begin A hk hn hn1 hst2 hz0 hz1
  unfold f_Paths_spread
  simp only [C]
  rw [chk_t trivial, f0, bndT_ok (by decide), show p g = p0 g from (op0 g (by simp; omega)).symm]
  have hLg0 : n ≤ L0 g := by rw [oL0 g (by simp; omega)]; exact hLg
  refine loop_r (F := fun n (b : mH × Int) => f_Paths_spread_L9 k 41 (p0 g) goal n b.1 b.2) (P := fun r => ∃ h' p' L' M', r = some ((3, 0), h') ∧ At h' c p' L' M' ∧ Of [f, o] p p' ∧ Of [f, o] L L' ∧ n ≤ L' f ∧ n ≤ L' o ∧ Fs [f, o] k [3, 4] M M' ∧ M' k 3 = -1 ∧ ∃ j : Nat, PI M' f o (M' k 4) n (bfn nx K (b0 z) j) ∧ (bM (bfn nx K (b0 z) j) ≤ j ∨ (0 ≤ goal ∧ goal < L' f ∧ M' f goal ≠ -1))) (fun i b => b.2 = (i : Int) ∧ ∃ M', At b.1 c p0 L0 M' ∧ Fs [f, o] k [3, 4] M M' ∧ M' k 3 = -1 ∧ PI M' f o (M' k 4) n (bfn nx K (b0 z) i)) n (fun i hi b hb q => ?_) (fun b hb q => ?_) (i := 0) (b := (h0, 0)) ⟨rfl, M0, A0, F0, v3, Q0⟩ (by omega) (by omega)
  · obtain ⟨h1, r⟩ := b
    obtain ⟨hr, M1, A1, F1, w3, Q1⟩ := hb
    have hr : r = (i : Int) := hr
    subst hr
    have A1 : At h1 c p0 L0 M1 := A1
    have C1 := A1.pk hk
    have D1 := A1.gr
    have hs : M1 41 3 = K := by rw [F1.1 41 (by simp; omega) k41]; exact hst
    have hs2 : M1 41 2 = n := by rw [F1.1 41 (by simp; omega) k41]; exact hst2
    have e42 : M1 42 = M 42 := F1.1 42 (by simp; omega) (by omega)
    have eg : M1 g = M g := F1.1 g (by simp; omega) (by omega)
    have e0 : M1 k 0 = M k 0 := F1.2 0 (by simp)
    obtain ⟨B1, L1⟩ := BI_bfn N hz0 hz1 i
    show (∃ h' p' L' M', f_Paths_spread_L9 k 41 (p0 g) goal (q + 1) h1 i = some ((3, 0), h') ∧ _) ∨ ∃ b' : mH × Int, _ ∧ f_Paths_spread_L9 k 41 (p0 g) goal (q + 1) h1 i = _
    rw [f_Paths_spread_L9]
    simp only [C1, D1]
    rw [chk_t trivial, hs2, if_neg (by omega), chk_t trivial, Q1.2.2]
    by_cases g1 : bM (bfn nx K (b0 z) i) ≤ i
    · left
      rw [if_pos g1]
      exact ⟨h1, p0, L0, M1, rfl, A1, op0, oL0, lf0, lo0, F1, w3, i, Q1, Or.inl g1⟩
    · rw [if_neg g1, chk_t trivial, s_Paths_farOf A1 hk, bndT_ok (by decide)]
      by_cases g2 : (if 0 ≤ goal ∧ goal < L0 f then M1 f goal else -1) = -1
      · right
        have hbM := B1.le
        have hu := B1.2.1 i (by omega) (by omega)
        have fb := B1.fle (bO (bfn nx K (b0 z) i) i)
        rw [if_pos g2]
        simp only [C1]
        rw [chk_t trivial, chk_t trivial, chk_t (by omega), wtv, chk_t trivial, Q1.2.1 i (by omega) (by omega), e0]
        have hJ : ∀ h, f_Paths_spread_J86 (f_Paths_spread_L9 k 41 (p0 g) goal q) i h = f_Paths_spread_L9 k 41 (p0 g) goal q h ((i + 1 : Nat) : Int) := fun h => by
          unfold f_Paths_spread_J86; rw [wtv, w32_n i (by omega)]
        have hbf : bfn nx K (b0 z) (i + 1) = vis nx (bO (bfn nx K (b0 z) i) i) (bF (bfn nx K (b0 z) i) (bO (bfn nx K (b0 z) i) i) + 1) K (bfn nx K (b0 z) i) := by
          rw [bfn, if_pos (by omega)]
        have hNv : ∀ v : Int, 0 ≤ v → v < K → nx (bO (bfn nx K (b0 z) i) i) v ≠ -1 → 0 ≤ nx (bO (bfn nx K (b0 z) i) i) v ∧ nx (bO (bfn nx K (b0 z) i) i) v < n := fun v g0 g1 g2 => N _ v hu.1.1 hu.1.2 g0 g1 g2
        rcases G with ⟨gb, G⟩ | ⟨gb, G⟩
        · rw [if_pos gb, s_Paths_maskOf A1 hs2 hg hLg0, bndT_ok (by decide), if_pos hu.1]
          simp only [C1]
          rw [chk_t trivial, s_Paths_farOf A1 hk, bndT_ok (by decide), if_pos ⟨hu.1.1, by omega⟩]
          simp only [C1]
          have Gs := G _ hu.1.1 hu.1.2
          obtain ⟨h2, M2, f2, A2, F2, Q2⟩ := s_Paths_visit A1 hk hn hK hs Q1 B1.ci lf0 lo0 (nx := nx) (s := bO (bfn nx K (b0 z) i) i) (m := M g (bO (bfn nx K (b0 z) i) i)) (d := bF (bfn nx K (b0 z) i) (bO (bfn nx K (b0 z) i) i) + 1) hu.1.1 hu.1.2 (by omega) Gs.1.1 Gs.1.2 (by rw [e42]; exact Gs.2) hNv
          rw [chk_t trivial, Q1.1 _ hu.1.1 hu.1.2, w32_id (by omega) (by omega), eg, f2, bndT_ok (by decide), hJ]
          exact ⟨(h2, ((i + 1 : Nat) : Int)), ⟨rfl, M2, A2, F1.tr (F2.mono (fun _ h => h) (by simp)), by rw [F2.2 3 (by simp)]; exact w3, by rw [hbf]; exact Q2⟩, rfl⟩
        · obtain ⟨h2, M2, f2, A2, F2, Q2⟩ := s_Paths_visitAhead A1 hk hn hK hs hs2 hg hLg0 Q1 B1.ci lf0 lo0 (nx := nx) (s := bO (bfn nx K (b0 z) i) i) hu.1.1 hu.1.2 ⟨hu.2, by omega⟩ (by unfold GB; rw [eg, e42]; exact G) (by rw [e42]; exact h42)
          rw [if_neg gb, chk_t trivial, f2, bndT_ok (by decide), hJ]
          exact ⟨(h2, ((i + 1 : Nat) : Int)), ⟨rfl, M2, A2, F1.tr (F2.mono (fun _ h => h) (by simp)), by rw [F2.2 3 (by simp)]; exact w3, by rw [hbf]; exact Q2⟩, rfl⟩
      · left
        rw [if_neg g2]
        have g3 : 0 ≤ goal ∧ goal < L0 f := Decidable.of_not_not (fun e => g2 (if_neg e))
        rw [if_pos g3] at g2
        exact ⟨h1, p0, L0, M1, rfl, A1, op0, oL0, lf0, lo0, F1, w3, i, Q1, Or.inr ⟨g3.1, g3.2, g2⟩⟩
  · obtain ⟨h1, r⟩ := b
    obtain ⟨hr, M1, A1, F1, w3, Q1⟩ := hb
    have hr : r = (n : Int) := hr
    subst hr
    have A1 : At h1 c p0 L0 M1 := A1
    have D1 := A1.gr
    have hs2 : M1 41 2 = n := by rw [F1.1 41 (by simp; omega) k41]; exact hst2
    refine ⟨h1, p0, L0, M1, ?_, A1, op0, oL0, lf0, lo0, F1, w3, n, Q1, Or.inl (BI_bfn N hz0 hz1 n).1.le⟩
    show f_Paths_spread_L9 k 41 (p0 g) goal (q + 1) h1 _ = _
    rw [f_Paths_spread_L9]
    simp only [D1]
    rw [chk_t trivial, hs2, if_pos (Int.le_refl _)]
end
