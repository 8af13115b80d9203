/-! THE REFERENCE'S WALKS OVER STANDS, from one and to one -/
def nK (t : tT) : Nat := (2 * nb t).toNat
def nN (t : tT) : Nat := (nS t).toNat
def nxB (t : tT) (x : Bool) (X : tT) (wn : Int → Bool) (s v : Int) : Int := if (decide (0 ≤ s - sf t v) && decide (s - sf t v < nS t) && go t x X wn (s - sf t v) v) = true then s - sf t v else -1
theorem NX_F {t : tT} (W : WS t) (x : Bool) (X : tT) (wn : Int → Bool) : NX (th t x X wn) (nK t) (nN t) := fun s v h0 h1 _ _ h4 => by
  have hS := nS_rng W
  have h1 : s < nS t := by unfold nN at h1; omega
  have := th_rng W h0 h1 h4
  unfold nN; omega
theorem NX_B {t : tT} (W : WS t) (x : Bool) (X : tT) (wn : Int → Bool) : NX (nxB t x X wn) (nK t) (nN t) := fun s v h0 h1 _ _ h4 => by
  have hS := nS_rng W
  unfold nxB at h4 ⊢
  by_cases g : (decide (0 ≤ s - sf t v) && decide (s - sf t v < nS t) && go t x X wn (s - sf t v) v) = true
  · rw [if_pos g]
    simp only [Bool.and_eq_true, decide_eq_true_eq] at g
    unfold nN; omega
  · rw [if_neg g] at h4; exact absurd rfl h4
def wsP (t : tT) (s v : Int) : Int := if v % 2 = 1 then dg t s (v / 2) - 1 else dg t s (v / 2) + 1
theorem nxB_in {t : tT} (W : WS t) {x : Bool} {X : tT} {wn : Int → Bool} {s v : Int} (hs0 : 0 ≤ s) (hs1 : s < nS t) (hv0 : 0 ≤ v) (hv1 : v < 2 * nb t) (h0 : 0 ≤ wsP t s v) (h1 : wsP t s v < pl t (v / 2)) :
    s - sf t v = s + (wsP t s v - dg t s (v / 2)) * wg t (v / 2) ∧ 0 ≤ s - sf t v ∧ s - sf t v < nS t ∧ nxB t x X wn s v = th t x X wn (s - sf t v) v - (if go t x X wn (s - sf t v) v = true then sf t v else 0) := by
  have e : s - sf t v = s + (wsP t s v - dg t s (v / 2)) * wg t (v / 2) := by
    unfold sf wsP
    by_cases g : v % 2 = 1
    · rw [if_pos g, if_neg (by omega), show dg t s (v / 2) - 1 - dg t s (v / 2) = -1 by omega]; omega
    · rw [if_neg g, if_pos (by omega), show dg t s (v / 2) + 1 - dg t s (v / 2) = 1 by omega]; omega
  have := dg_step W hs0 hs1 (show 0 ≤ v / 2 by omega) (show v / 2 < nb t by omega) h0 h1
  rw [← e] at this
  refine ⟨e, this.1, this.2.1, ?_⟩
  unfold nxB th
  rw [decide_eq_true this.1, decide_eq_true this.2.1, Bool.true_and, Bool.true_and]
  by_cases g : go t x X wn (s - sf t v) v = true
  · rw [if_pos g, if_pos g, if_pos g]; omega
  · rw [if_neg g, if_neg g, if_neg g]; rfl
theorem nxB_out {t : tT} (W : WS t) {x : Bool} {X : tT} {wn : Int → Bool} {s v : Int} (hv0 : 0 ≤ v) (hv1 : v < 2 * nb t) (h0 : ¬ (0 ≤ wsP t s v ∧ wsP t s v < pl t (v / 2))) : nxB t x X wn s v = -1 := by
  unfold nxB
  rw [if_neg]
  intro g
  simp only [Bool.and_eq_true, decide_eq_true_eq] at g
  obtain ⟨⟨g1, g2⟩, g3⟩ := g
  obtain ⟨a1, a2, a3, a4⟩ := go_rng g3
  have := (go_to W g1 g2 a1 a2 a3 a4).2.2 (v / 2) (by omega) (by omega)
  rw [show s - sf t v + sf t v = s by omega, if_pos rfl] at this
  apply h0
  have hd := dg_rw W (s - sf t v) (v / 2) (by omega) (by omega)
  unfold wsP
  rw [this]
  unfold tow
  by_cases e : v % 2 = 1
  · rw [if_pos e, if_neg (by omega)]; omega
  · rw [if_neg e, if_pos (by omega)]; omega
section
variable {h : mH} {c : Int} {p L : Int → Int} {M : aM}
theorem s_Md_laysFrom_in {x : Bool} {K : mH → Option mR} (A : At h c p L M) (W : WS (M 76)) (hn : nS (M 76) ≤ 20000) (he : M 75 19 = b2i x) (hX : XO (M 76) x (M 83)) {w : Int} (hw : -2147483648 ≤ w ∧ w < 2147483648) {z : Int} {S : tB} (B : BI (th (M 76) x (M 83) (wM w)) (nK (M 76)) (nN (M 76)) z S)
    (Q : PI M 84 85 (M 75 24) (nS (M 76)) S) {i : Int} (hi0 : 0 ≤ i) (hi1 : i < bM S) (hl : ∀ j, 0 ≤ j → j < bM S → bF S (bO S j) ≤ bF S (bO S i) + 1) :
    ∃ h' M', f_Md_laysFrom_L18 K 75 w i 1000000 h 0 = K h' ∧ At h' c p L M' ∧ FL M M' ∧ PI M' 84 85 (M' 75 24) (nS (M 76)) (vis (th (M 76) x (M 83) (wM w)) (bO S i) (bF S (bO S i) + 1) (nK (M 76)) S) := by
  have hN := W.1
  have hS := nS_rng W
  have N := NX_F W x (M 83) (wM w)
  have hu := B.2.1 i hi0 hi1
  have eN : ((nN (M 76) : Nat) : Int) = nS (M 76) := by unfold nN; omega
  have eK : ((nK (M 76) : Nat) : Int) = 2 * nb (M 76) := by unfold nK; omega
  rw [eN] at hu
  refine loop_r (F := fun n (b : mH × Int) => f_Md_laysFrom_L18 K 75 w i n b.1 b.2) (P := fun o => ∃ h' M', o = K h' ∧ At h' c p L M' ∧ FL M M' ∧ PI M' 84 85 (M' 75 24) (nS (M 76)) (vis (th (M 76) x (M 83) (wM w)) (bO S i) (bF S (bO S i) + 1) (nK (M 76)) S)) (fun v b => b.2 = (v : Int) ∧ ∃ M', At b.1 c p L M' ∧ FL M M' ∧ PI M' 84 85 (M' 75 24) (nS (M 76)) (vis (th (M 76) x (M 83) (wM w)) (bO S i) (bF S (bO S i) + 1) v S)) (nK (M 76)) (fun v hv b hb n => ?_) (fun b hb n => ?_) (i := 0) (b := (h, 0)) ⟨rfl, M, A, Fs.rf _ _ _ _, Q⟩ (by omega) (by omega)
  · obtain ⟨h1, r⟩ := b
    obtain ⟨hr, M1, A1, F1, Q1⟩ := hb
    have hr : r = (v : Int) := hr
    subst hr
    have A1 : At h1 c p L M1 := A1
    right
    have B1 := MH.of A1
    rw [F1.r.1] at B1
    have C1 := A1.md
    obtain ⟨BI1, E1, L1⟩ := BI_vis N B hi0 hi1 hl (show v ≤ nK (M 76) by omega)
    generalize hT : vis (th (M 76) x (M 83) (wM w)) (bO S i) (bF S (bO S i) + 1) v S = T at Q1 BI1 E1 L1
    have o1 : M1 85 i = bO S i := by rw [Q1.2.1 i hi0 (by have := E1.1; omega), E1.2.2 i hi1]
    obtain ⟨h2, M2, f2, A2, F2⟩ := s_Md_then (x := x) A1 (by rw [F1.r.1]; exact W) (by rw [F1.r.2.2]; exact he) (by rw [F1.r.1, F1.r.2.1]; exact hX) (s := bO S i) (v := v) (w := w) hu.1.1 (by rw [F1.r.1]; omega) (by omega) (by rw [F1.r.1]; omega) hw
    rw [F1.r.1, F1.r.2.1] at f2
    have F12 : FL M M2 := F1.tr F2.fl
    have Q2 : PI M2 84 85 (M2 75 24) (nS (M 76)) T := by
      rw [PI, F2 84 (by decide), F2 85 (by decide), F2 75 (by decide)]; exact Q1
    have hM := BI1.le
    have hE := E1.1
    have hM0 := BI1.1.2
    have hvk : ((v + 1 : Nat) : Int) = (v : Int) + 1 := by omega
    have hvis : vis (th (M 76) x (M 83) (wM w)) (bO S i) (bF S (bO S i) + 1) (v + 1) S = if th (M 76) x (M 83) (wM w) (bO S i) v = -1 then T else tk T (th (M 76) x (M 83) (wM w) (bO S i) v) (bF S (bO S i) + 1) := by
      rw [vis, hT]
    by_cases g : th (M 76) x (M 83) (wM w) (bO S i) v = -1
    · refine ⟨(h2, ((v + 1 : Nat) : Int)), ⟨rfl, M2, A2, F12, ?_⟩, ?_⟩
      · rw [hvis, if_pos g]; exact Q2
      · show f_Md_laysFrom_L18 K 75 w i (n + 1) h1 v = f_Md_laysFrom_L18 K 75 w i n h2 ((v + 1 : Nat) : Int)
        rw [f_Md_laysFrom_L18, chk_t B1.T, s_Md_steps B1 W, bndT_ok (by decide), if_neg (by omega), chk_t B1.T]
        simp only [C1]
        rw [chk_t trivial, chk_t (by omega), o1, chk_t trivial, f2, bndT_ok (by decide), if_pos g]
        unfold f_Md_laysFrom_J67
        rw [wtv, w32_n v (by omega)]
    · have hx := th_rng W hu.1.1 hu.1.2 g
      rw [← hx.2.1] at hx
      have fe : M2 84 (bO S i) = bF S (bO S i) := by rw [Q2.1 _ hu.1.1 hu.1.2, E1.2.1 _ (by omega)]
      have fb := B.fle (bO S i)
      obtain ⟨h3, M3, f3, A3, F3, Q3⟩ := s_Md_comes A2 (n := nN (M 76)) (by omega) (S := T) (by rw [eN]; exact Q2) (s := th (M 76) x (M 83) (wM w) (bO S i) v) (d := bF S (bO S i) + 1) hx.2.2.1 (by omega) ⟨by omega, fun e => by
        have := cn_full e hx.2.2.1 (show _ < ((nN (M 76) : Nat) : Int) by omega)
        have := BI1.1.1
        omega⟩
      have C2 := A2.md
      have C3 := A3.md
      refine ⟨(h3, ((v + 1 : Nat) : Int)), ⟨rfl, M3, A3, F12.tr F3, ?_⟩, ?_⟩
      · rw [hvis, if_neg g, ← eN]; exact Q3
      · show f_Md_laysFrom_L18 K 75 w i (n + 1) h1 v = f_Md_laysFrom_L18 K 75 w i n h3 ((v + 1 : Nat) : Int)
        rw [f_Md_laysFrom_L18, chk_t B1.T, s_Md_steps B1 W, bndT_ok (by decide), if_neg (by omega), chk_t B1.T]
        simp only [C1]
        rw [chk_t trivial, chk_t (by omega), o1, chk_t trivial, f2, bndT_ok (by decide), if_neg g]
        simp only [C2]
        rw [F2 85 (by decide), o1, chk_t trivial, chk_t trivial, chk_t trivial, chk_t (by omega), chk_t trivial, chk_t (by omega), chk_t trivial, fe, w32_id (by omega) (by omega), f3, bndT_ok (by decide)]
        unfold f_Md_laysFrom_J67
        rw [wtv, w32_n v (by omega)]
  · obtain ⟨h1, r⟩ := b
    obtain ⟨hr, M1, A1, F1, Q1⟩ := hb
    have hr : r = (nK (M 76) : Int) := hr
    subst hr
    have A1 : At h1 c p L M1 := A1
    have B1 := MH.of A1
    rw [F1.r.1] at B1
    refine ⟨h1, M1, ?_, A1, F1, Q1⟩
    show f_Md_laysFrom_L18 K 75 w i (n + 1) h1 _ = _
    rw [f_Md_laysFrom_L18, chk_t B1.T, s_Md_steps B1 W, bndT_ok (by decide), if_pos (by omega)]
theorem s_Md_laysTo_in {x : Bool} {K : mH → Option mR} (A : At h c p L M) (W : WS (M 76)) (hn : nS (M 76) ≤ 20000) (he : M 75 19 = b2i x) (hX : XO (M 76) x (M 83)) {w : Int} (hw : -2147483648 ≤ w ∧ w < 2147483648) {z : Int} {S : tB} (B : BI (nxB (M 76) x (M 83) (wM w)) (nK (M 76)) (nN (M 76)) z S)
    (Q : PI M 84 85 (M 75 24) (nS (M 76)) S) {i : Int} (hi0 : 0 ≤ i) (hi1 : i < bM S) (hl : ∀ j, 0 ≤ j → j < bM S → bF S (bO S j) ≤ bF S (bO S i) + 1) :
    ∃ h' M', f_Md_laysTo_L18 K 75 w i 1000000 h 0 = K h' ∧ At h' c p L M' ∧ FL M M' ∧ PI M' 84 85 (M' 75 24) (nS (M 76)) (vis (nxB (M 76) x (M 83) (wM w)) (bO S i) (bF S (bO S i) + 1) (nK (M 76)) S) := by
  have hN := W.1
  have hS := nS_rng W
  have N := NX_B W x (M 83) (wM w)
  have hu := B.2.1 i hi0 hi1
  have eN : ((nN (M 76) : Nat) : Int) = nS (M 76) := by unfold nN; omega
  have eK : ((nK (M 76) : Nat) : Int) = 2 * nb (M 76) := by unfold nK; omega
  rw [eN] at hu
  refine loop_r (F := fun n (b : mH × Int) => f_Md_laysTo_L18 K 75 w i n b.1 b.2) (P := fun o => ∃ h' M', o = K h' ∧ At h' c p L M' ∧ FL M M' ∧ PI M' 84 85 (M' 75 24) (nS (M 76)) (vis (nxB (M 76) x (M 83) (wM w)) (bO S i) (bF S (bO S i) + 1) (nK (M 76)) S)) (fun v b => b.2 = (v : Int) ∧ ∃ M', At b.1 c p L M' ∧ FL M M' ∧ PI M' 84 85 (M' 75 24) (nS (M 76)) (vis (nxB (M 76) x (M 83) (wM w)) (bO S i) (bF S (bO S i) + 1) v S)) (nK (M 76)) (fun v hv b hb n => ?_) (fun b hb n => ?_) (i := 0) (b := (h, 0)) ⟨rfl, M, A, Fs.rf _ _ _ _, Q⟩ (by omega) (by omega)
  · obtain ⟨h1, r⟩ := b
    obtain ⟨hr, M1, A1, F1, Q1⟩ := hb
    have hr : r = (v : Int) := hr
    subst hr
    have A1 : At h1 c p L M1 := A1
    right
    have B1 := MH.of A1
    rw [F1.r.1] at B1
    have C1 := A1.md
    obtain ⟨BI1, E1, L1⟩ := BI_vis N B hi0 hi1 hl (show v ≤ nK (M 76) by omega)
    generalize hT : vis (nxB (M 76) x (M 83) (wM w)) (bO S i) (bF S (bO S i) + 1) v S = T at Q1 BI1 E1 L1
    have o1 : M1 85 i = bO S i := by rw [Q1.2.1 i hi0 (by have := E1.1; omega), E1.2.2 i hi1]
    have hM := BI1.le
    have hE := E1.1
    have hM0 := BI1.1.2
    have hvis : vis (nxB (M 76) x (M 83) (wM w)) (bO S i) (bF S (bO S i) + 1) (v + 1) S = if nxB (M 76) x (M 83) (wM w) (bO S i) v = -1 then T else tk T (nxB (M 76) x (M 83) (wM w) (bO S i) v) (bF S (bO S i) + 1) := by
      rw [vis, hT]
    have e1 : Int.tdiv (v : Int) 2 = v / 2 := Int.tdiv_eq_ediv_of_nonneg (by omega)
    have e2 : Int.tmod (v : Int) 2 = v % 2 := Int.tmod_eq_emod_of_nonneg (by omega)
    have hd := dg_rw W (bO S i) ((v : Int) / 2) (by omega) (by omega)
    have hp := W.2.2.2.2.2.1 ((v : Int) / 2) (by omega) (by omega)
    have hwr : -10 ≤ wsP (M 76) (bO S i) v ∧ wsP (M 76) (bO S i) v ≤ 10 := by unfold wsP; split <;> omega
    -- what the body comes to
    have body : (∃ b' : mH × Int, (b'.2 = ((v + 1 : Nat) : Int) ∧ ∃ M', At b'.1 c p L M' ∧ FL M M' ∧ PI M' 84 85 (M' 75 24) (nS (M 76)) (vis (nxB (M 76) x (M 83) (wM w)) (bO S i) (bF S (bO S i) + 1) (v + 1) S)) ∧ f_Md_laysTo_J66 (f_Md_laysTo_L18 K 75 w i n) 75 w i v ((v : Int) / 2) (dg (M 76) (bO S i) ((v : Int) / 2)) (wsP (M 76) (bO S i) v) h1 = f_Md_laysTo_L18 K 75 w i n b'.1 b'.2) := by
      have hJ : ∀ h, f_Md_laysTo_J155 (f_Md_laysTo_L18 K 75 w i n) v h = f_Md_laysTo_L18 K 75 w i n h ((v + 1 : Nat) : Int) := fun h => by
        unfold f_Md_laysTo_J155; rw [wtv, w32_n v (by omega)]
      unfold f_Md_laysTo_J66
      rw [chk_t B1.T, s_Md_pl B1 W (by omega) (by omega), bndT_ok (by decide), w32_id (by omega) (by omega), s_Md_amid, bndT_ok (by decide)]
      by_cases g : 0 ≤ wsP (M 76) (bO S i) v ∧ wsP (M 76) (bO S i) v < pl (M 76) ((v : Int) / 2)
      · obtain ⟨q1, q2, q3, q4⟩ := nxB_in (x := x) (X := M 83) (wn := wM w) W hu.1.1 hu.1.2 (show (0 : Int) ≤ v by omega) (by omega) g.1 g.2
        have hwg := wg_rng W (show (0 : Int) ≤ (v : Int) / 2 by omega) (by omega)
        have hdw : -1 ≤ wsP (M 76) (bO S i) v - dg (M 76) (bO S i) ((v : Int) / 2) ∧ wsP (M 76) (bO S i) v - dg (M 76) (bO S i) ((v : Int) / 2) ≤ 1 := by unfold wsP; split <;> omega
        rw [decide_eq_true g.1, decide_eq_true (show wsP (M 76) (bO S i) v ≤ pl (M 76) ((v : Int) / 2) - 1 by omega), if_neg (by decide), chk_t B1.T]
        simp only [C1]
        rw [chk_t trivial, chk_t (by omega), chk_t trivial, s_Md_weight B1 W (by omega) (by omega), bndT_ok (by decide), wtv, o1, w32_id (x := wsP (M 76) (bO S i) v - dg (M 76) (bO S i) ((v : Int) / 2)) (by omega) (by omega), w32_id (x := (wsP (M 76) (bO S i) v - dg (M 76) (bO S i) ((v : Int) / 2)) * wg (M 76) ((v : Int) / 2)) (by omega) (by omega), ← q1, w32_id (by omega) (by omega)]
        simp only [C1]
        rw [chk_t trivial, chk_t trivial, chk_t (by omega), Q1.1 _ q2 q3]
        by_cases g2 : bF T (bO S i - sf (M 76) v) = -1
        · obtain ⟨h2, M2, f2, A2, F2⟩ := s_Md_then (x := x) A1 (by rw [F1.r.1]; exact W) (by rw [F1.r.2.2]; exact he) (by rw [F1.r.1, F1.r.2.1]; exact hX) (s := bO S i - sf (M 76) v) (v := v) (w := w) q2 (by rw [F1.r.1]; omega) (by omega) (by rw [F1.r.1]; omega) hw
          rw [F1.r.1, F1.r.2.1] at f2
          have F12 : FL M M2 := F1.tr F2.fl
          have Q2 : PI M2 84 85 (M2 75 24) (nS (M 76)) T := by
            rw [PI, F2 84 (by decide), F2 85 (by decide), F2 75 (by decide)]; exact Q1
          rw [if_pos g2, chk_t trivial, f2, bndT_ok (by decide)]
          by_cases g3 : go (M 76) x (M 83) (wM w) (bO S i - sf (M 76) v) v = true
          · have e3 : th (M 76) x (M 83) (wM w) (bO S i - sf (M 76) v) v = bO S i := by unfold th; rw [if_pos g3]; omega
            have e4 : nxB (M 76) x (M 83) (wM w) (bO S i) v = bO S i - sf (M 76) v := by rw [q4, e3, if_pos g3]
            have fe : M2 84 (bO S i) = bF S (bO S i) := by rw [Q2.1 _ hu.1.1 hu.1.2, E1.2.1 _ (by omega)]
            have fb := B.fle (bO S i)
            obtain ⟨h3, M3, f3, A3, F3, Q3⟩ := s_Md_comes A2 (n := nN (M 76)) (by omega) (S := T) (by rw [eN]; exact Q2) (s := bO S i - sf (M 76) v) (d := bF S (bO S i) + 1) q2 (by omega) ⟨by omega, fun e => by
              have := cn_full e q2 (show _ < ((nN (M 76) : Nat) : Int) by omega)
              have := BI1.1.1
              omega⟩
            have C2 := A2.md
            refine ⟨(h3, ((v + 1 : Nat) : Int)), ⟨rfl, M3, A3, F12.tr F3, ?_⟩, ?_⟩
            · rw [hvis, e4, if_neg (by omega), ← eN]; exact Q3
            · rw [e3, if_neg (by omega)]
              simp only [C2]
              rw [F2 85 (by decide), o1, chk_t trivial, chk_t trivial, chk_t trivial, chk_t (by omega), chk_t trivial, chk_t (by omega), chk_t trivial, fe, w32_id (by omega) (by omega), f3, bndT_ok (by decide), hJ]
          · have e3 : th (M 76) x (M 83) (wM w) (bO S i - sf (M 76) v) v = -1 := by unfold th; rw [if_neg g3]
            refine ⟨(h2, ((v + 1 : Nat) : Int)), ⟨rfl, M2, A2, F12, ?_⟩, ?_⟩
            · rw [hvis, q4, e3, if_neg g3, if_pos (by omega)]; exact Q2
            · rw [e3, if_pos rfl, hJ]
        · refine ⟨(h1, ((v + 1 : Nat) : Int)), ⟨rfl, M1, A1, F1, ?_⟩, ?_⟩
          · rw [hvis]
            by_cases g4 : nxB (M 76) x (M 83) (wM w) (bO S i) v = -1
            · rw [if_pos g4]; exact Q1
            · rw [if_neg g4]
              have e4 : nxB (M 76) x (M 83) (wM w) (bO S i) v = bO S i - sf (M 76) v := by
                unfold nxB at g4 ⊢
                split at g4
                · rename_i g5; rw [if_pos g5]
                · exact absurd rfl g4
              rw [e4]; unfold tk; rw [if_neg g2]; exact Q1
          · rw [if_neg g2, hJ]
      · have : (decide (0 ≤ wsP (M 76) (bO S i) v) && decide (wsP (M 76) (bO S i) v ≤ pl (M 76) ((v : Int) / 2) - 1)) = false := by
          rw [Bool.and_eq_false_iff, decide_eq_false_iff_not, decide_eq_false_iff_not]; omega
        rw [this, if_pos (b2i_0.mpr rfl), hJ]
        exact ⟨(h1, ((v + 1 : Nat) : Int)), ⟨rfl, M1, A1, F1, by rw [hvis, nxB_out W (by omega) (by omega) g, if_pos rfl]; exact Q1⟩, rfl⟩
    obtain ⟨b', hb1, hb2⟩ := body
    refine ⟨b', hb1, ?_⟩
    show f_Md_laysTo_L18 K 75 w i (n + 1) h1 v = _
    rw [f_Md_laysTo_L18, chk_t B1.T, s_Md_steps B1 W, bndT_ok (by decide), if_neg (by omega), chk_t (by decide), wtv, e1, e2, w32_id (by omega) (by omega), chk_t B1.T]
    simp only [C1]
    rw [chk_t trivial, chk_t (by omega), o1, chk_t trivial, s_Md_placeOf B1 W hu.1.1 (by omega) (by omega) (by omega), bndT_ok (by decide), chk_t (by decide), w32_id (by omega) (by omega), w32_id (by omega) (by omega), ← hb2]
    by_cases g : (v : Int) % 2 = 1
    · rw [if_pos g]; unfold wsP; rw [if_pos g]
    · rw [if_neg g]; unfold wsP; rw [if_neg g]
  · obtain ⟨h1, r⟩ := b
    obtain ⟨hr, M1, A1, F1, Q1⟩ := hb
    have hr : r = (nK (M 76) : Int) := hr
    subst hr
    have A1 : At h1 c p L M1 := A1
    have B1 := MH.of A1
    rw [F1.r.1] at B1
    refine ⟨h1, M1, ?_, A1, F1, Q1⟩
    show f_Md_laysTo_L18 K 75 w i (n + 1) h1 _ = _
    rw [f_Md_laysTo_L18, chk_t B1.T, s_Md_steps B1 W, bndT_ok (by decide), if_pos (by omega)]
theorem s_Md_laysFrom {x : Bool} (A : At h c p L M) (W : WS (M 76)) (hn : nS (M 76) ≤ 20000) (he : M 75 19 = b2i x) (hX : XO (M 76) x (M 83)) {w : Int} (hw : -2147483648 ≤ w ∧ w < 2147483648) {z : Int} (hz0 : 0 ≤ z) (hz1 : z < nS (M 76)) :
    ∃ h' M', f_Md_laysFrom h 75 z w = some ((3, 0), h') ∧ At h' c p L M' ∧ FL M M' ∧ PI M' 84 85 (M' 75 24) (nS (M 76)) (bfs (th (M 76) x (M 83) (wM w)) (nK (M 76)) (nN (M 76)) z) := by
  have hS := nS_rng W
  have N := NX_F W x (M 83) (wM w)
  have eN : ((nN (M 76) : Nat) : Int) = nS (M 76) := by unfold nN; omega
  have hz1' : z < ((nN (M 76) : Nat) : Int) := by omega
  obtain ⟨h0, M0, f0, A0, F0, Q0⟩ := s_Md_begins A W hn hz0 hz1
  have B0 := MH.of A
  unfold f_Md_laysFrom
  rw [chk_t B0.T, f0, bndT_ok (by decide)]
  refine loop_r (F := fun n (b : mH × Int) => f_Md_laysFrom_L7 75 w n b.1 b.2) (P := fun o => ∃ h' M', o = some ((3, 0), h') ∧ At h' c p L M' ∧ FL M M' ∧ PI M' 84 85 (M' 75 24) (nS (M 76)) (bfs (th (M 76) x (M 83) (wM w)) (nK (M 76)) (nN (M 76)) z)) (fun i b => b.2 = (i : Int) ∧ ∃ M', At b.1 c p L M' ∧ FL M M' ∧ PI M' 84 85 (M' 75 24) (nS (M 76)) (bfn (th (M 76) x (M 83) (wM w)) (nK (M 76)) (b0 z) i)) (nN (M 76)) (fun i hi b hb n => ?_) (fun b hb n => ?_) (i := 0) (b := (h0, 0)) ⟨rfl, M0, A0, F0, Q0⟩ (by omega) (by omega)
  · obtain ⟨h1, r⟩ := b
    obtain ⟨hr, M1, A1, F1, Q1⟩ := hb
    have hr : r = (i : Int) := hr
    subst hr
    have A1 : At h1 c p L M1 := A1
    have C1 := A1.md
    obtain ⟨B1, L1⟩ := BI_bfn N hz0 hz1' i
    have hb' : bfn (th (M 76) x (M 83) (wM w)) (nK (M 76)) (b0 z) (i + 1) = _ := rfl
    show (∃ h' M', f_Md_laysFrom_L7 75 w (n + 1) h1 i = some ((3, 0), h') ∧ _) ∨ ∃ b', _ ∧ f_Md_laysFrom_L7 75 w (n + 1) h1 i = _
    rw [f_Md_laysFrom_L7]
    simp only [C1]
    rw [chk_t trivial, Q1.2.2]
    by_cases g : bM (bfn (th (M 76) x (M 83) (wM w)) (nK (M 76)) (b0 z) i) ≤ i
    · left
      rw [if_pos g]
      exact ⟨h1, M1, rfl, A1, F1, by rw [← bfs_end N hz0 hz1' g]; exact Q1⟩
    · right
      rw [if_neg g]
      obtain ⟨h2, M2, f2, A2, F2, Q2⟩ := s_Md_laysFrom_in (x := x) (K := fun h1 => wtv (w32 ((i : Int) + 1)) (fun x2 => (f_Md_laysFrom_L7 75 w n) h1 x2)) A1 (by rw [F1.r.1]; exact W) (by rw [F1.r.1]; exact hn) (by rw [F1.r.2.2]; exact he) (by rw [F1.r.1, F1.r.2.1]; exact hX) (w := w) hw (z := z) (S := bfn (th (M 76) x (M 83) (wM w)) (nK (M 76)) (b0 z) i) (by rw [F1.r.1, F1.r.2.1]; exact B1) (by rw [F1.r.1]; exact Q1) (i := i) (by omega) (by omega) (fun j g1 g2 => L1 j i g1 g2 (Int.le_refl _) (by omega))
      rw [F1.r.1, F1.r.2.1] at Q2
      refine ⟨(h2, ((i + 1 : Nat) : Int)), ⟨rfl, M2, A2, F1.tr F2, ?_⟩, ?_⟩
      · rw [bfn, if_pos (by omega)]; exact Q2
      · rw [f2, wtv, w32_n i (by omega)]
  · obtain ⟨h1, r⟩ := b
    obtain ⟨hr, M1, A1, F1, Q1⟩ := hb
    have hr : r = ((nN (M 76) : Nat) : Int) := hr
    subst hr
    have A1 : At h1 c p L M1 := A1
    have C1 := A1.md
    obtain ⟨B1, L1⟩ := BI_bfn N hz0 hz1' (nN (M 76))
    refine ⟨h1, M1, ?_, A1, F1, Q1⟩
    show f_Md_laysFrom_L7 75 w (n + 1) h1 _ = _
    rw [f_Md_laysFrom_L7]
    simp only [C1]
    rw [chk_t trivial, Q1.2.2, if_pos B1.le]
theorem s_Md_laysTo {x : Bool} (A : At h c p L M) (W : WS (M 76)) (hn : nS (M 76) ≤ 20000) (he : M 75 19 = b2i x) (hX : XO (M 76) x (M 83)) {w : Int} (hw : -2147483648 ≤ w ∧ w < 2147483648) {z : Int} (hz0 : 0 ≤ z) (hz1 : z < nS (M 76)) :
    ∃ h' M', f_Md_laysTo h 75 z w = some ((3, 0), h') ∧ At h' c p L M' ∧ FL M M' ∧ PI M' 84 85 (M' 75 24) (nS (M 76)) (bfs (nxB (M 76) x (M 83) (wM w)) (nK (M 76)) (nN (M 76)) z) := by
  have hS := nS_rng W
  have N := NX_B W x (M 83) (wM w)
  have eN : ((nN (M 76) : Nat) : Int) = nS (M 76) := by unfold nN; omega
  have hz1' : z < ((nN (M 76) : Nat) : Int) := by omega
  obtain ⟨h0, M0, f0, A0, F0, Q0⟩ := s_Md_begins A W hn hz0 hz1
  have B0 := MH.of A
  unfold f_Md_laysTo
  rw [chk_t B0.T, f0, bndT_ok (by decide)]
  refine loop_r (F := fun n (b : mH × Int) => f_Md_laysTo_L7 75 w n b.1 b.2) (P := fun o => ∃ h' M', o = some ((3, 0), h') ∧ At h' c p L M' ∧ FL M M' ∧ PI M' 84 85 (M' 75 24) (nS (M 76)) (bfs (nxB (M 76) x (M 83) (wM w)) (nK (M 76)) (nN (M 76)) z)) (fun i b => b.2 = (i : Int) ∧ ∃ M', At b.1 c p L M' ∧ FL M M' ∧ PI M' 84 85 (M' 75 24) (nS (M 76)) (bfn (nxB (M 76) x (M 83) (wM w)) (nK (M 76)) (b0 z) i)) (nN (M 76)) (fun i hi b hb n => ?_) (fun b hb n => ?_) (i := 0) (b := (h0, 0)) ⟨rfl, M0, A0, F0, Q0⟩ (by omega) (by omega)
  · obtain ⟨h1, r⟩ := b
    obtain ⟨hr, M1, A1, F1, Q1⟩ := hb
    have hr : r = (i : Int) := hr
    subst hr
    have A1 : At h1 c p L M1 := A1
    have C1 := A1.md
    obtain ⟨B1, L1⟩ := BI_bfn N hz0 hz1' i
    have hb' : bfn (nxB (M 76) x (M 83) (wM w)) (nK (M 76)) (b0 z) (i + 1) = _ := rfl
    show (∃ h' M', f_Md_laysTo_L7 75 w (n + 1) h1 i = some ((3, 0), h') ∧ _) ∨ ∃ b', _ ∧ f_Md_laysTo_L7 75 w (n + 1) h1 i = _
    rw [f_Md_laysTo_L7]
    simp only [C1]
    rw [chk_t trivial, Q1.2.2]
    by_cases g : bM (bfn (nxB (M 76) x (M 83) (wM w)) (nK (M 76)) (b0 z) i) ≤ i
    · left
      rw [if_pos g]
      exact ⟨h1, M1, rfl, A1, F1, by rw [← bfs_end N hz0 hz1' g]; exact Q1⟩
    · right
      rw [if_neg g]
      obtain ⟨h2, M2, f2, A2, F2, Q2⟩ := s_Md_laysTo_in (x := x) (K := fun h1 => wtv (w32 ((i : Int) + 1)) (fun x2 => (f_Md_laysTo_L7 75 w n) h1 x2)) A1 (by rw [F1.r.1]; exact W) (by rw [F1.r.1]; exact hn) (by rw [F1.r.2.2]; exact he) (by rw [F1.r.1, F1.r.2.1]; exact hX) (w := w) hw (z := z) (S := bfn (nxB (M 76) x (M 83) (wM w)) (nK (M 76)) (b0 z) i) (by rw [F1.r.1, F1.r.2.1]; exact B1) (by rw [F1.r.1]; exact Q1) (i := i) (by omega) (by omega) (fun j g1 g2 => L1 j i g1 g2 (Int.le_refl _) (by omega))
      rw [F1.r.1, F1.r.2.1] at Q2
      refine ⟨(h2, ((i + 1 : Nat) : Int)), ⟨rfl, M2, A2, F1.tr F2, ?_⟩, ?_⟩
      · rw [bfn, if_pos (by omega)]; exact Q2
      · rw [f2, wtv, w32_n i (by omega)]
  · obtain ⟨h1, r⟩ := b
    obtain ⟨hr, M1, A1, F1, Q1⟩ := hb
    have hr : r = ((nN (M 76) : Nat) : Int) := hr
    subst hr
    have A1 : At h1 c p L M1 := A1
    have C1 := A1.md
    obtain ⟨B1, L1⟩ := BI_bfn N hz0 hz1' (nN (M 76))
    refine ⟨h1, M1, ?_, A1, F1, Q1⟩
    show f_Md_laysTo_L7 75 w (n + 1) h1 _ = _
    rw [f_Md_laysTo_L7]
    simp only [C1]
    rw [chk_t trivial, Q1.2.2, if_pos B1.le]
end
