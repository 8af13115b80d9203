/-! THE CLASS'S GRAPH -/
def GS (M : aM) (L : Int → Int) (t : tT) : Prop := (M 41 2 = nS t ∧ M 41 3 = 2 * nb t ∧ M 41 4 = st t (po t)) ∧ (∀ v, 0 ≤ v → v < 2 * nb t → M 42 v = sf t v) ∧
  (∀ s, 0 ≤ s → s < nS t → M 44 s = mkM (abl t (dg t s)) (nK t)) ∧ (∀ s, 0 ≤ s → s < nS t → M 45 s = mkM (shu t (dg t s)) (nK t)) ∧ nS t ≤ L 44 ∧ nS t ≤ L 45
def GG (M : aM) (L : Int → Int) (g : Int) (t : tT) (f : Int → Int → Bool) : Prop := nS t ≤ L g ∧ ∀ s, 0 ≤ s → s < nS t → M g s = mkM (f s) (nK t)
def X0 : tT := fun _ => 0
/-- what goes, by masks and a set of worn bars' bits -/
def gm (t : tT) (w : Int) (s v : Int) : Bool := abl t (dg t s) v && (!shu t (dg t s) v || bt w v.toNat)
theorem GS_sq {M : aM} {L : Int → Int} {t u : tT} (q : Sq t u) (G : GS M L t) : GS M L u := by
  unfold GS at G ⊢
  rwa [Sq_nS q, q.e1, Sq_st q, q.e6, Sq_sf q, Sq_abl q, Sq_dg q, Sq_nK q, Sq_shu q] at G
theorem GG_sq {M : aM} {L : Int → Int} {g w : Int} {t u : tT} (q : Sq t u) (G : GG M L g t (gm t w)) : GG M L g u (gm u w) := by
  have e : gm t w = gm u w := by funext s v; unfold gm; rw [Sq_abl q, Sq_dg q, Sq_shu q]
  unfold GG at G ⊢
  rwa [e, Sq_nS q, Sq_nK q] at G
theorem GS_fr {M M' : aM} {L L' : Int → Int} {t : tT} (G : GS M L t) (h : ∀ v ∈ [(42 : Int), 44, 45], M' v = M v) (h2 : ∀ i ∈ [(2 : Int), 3, 4], M' 41 i = M 41 i) (h3 : ∀ v ∈ [(44 : Int), 45], L' v = L v) : GS M' L' t := by
  unfold GS at G ⊢
  rw [h 42 (by decide), h 44 (by decide), h 45 (by decide), h2 2 (by decide), h2 3 (by decide), h2 4 (by decide), h3 44 (by decide), h3 45 (by decide)]
  exact G
section
variable {h : mH} {c : Int} {p L : Int → Int} {M : aM}
theorem sf_even (t : tT) (b : Int) : sf t (2 * b) = - wg t b := by unfold sf; rw [if_pos (by omega), show 2 * b / 2 = b by omega]
theorem sf_odd (t : tT) (b : Int) : sf t (2 * b + 1) = wg t b := by unfold sf; rw [if_neg (by omega), show (2 * b + 1) / 2 = b by omega]
theorem dg_0 {t : tT} (b : Int) : dg t 0 b = 0 := by unfold dg; simp
theorem s_Graph_masks (A : At h c p L M) {t : tT} (R : BR5 M t) (W : WS t) (hS2 : nS t ≤ 20000) (hst : M 41 2 = nS t) (hL : nS t ≤ L 44 ∧ nS t ≤ L 45) (h0 : ∀ b, 0 ≤ b → b < nb t → M 43 b = 0) :
    ∃ h' M', f_Graph_build_L129 41 5 1000000 h 0 = some ((3, 0), h') ∧ At h' c p L M' ∧ Fr [43, 44, 45] M M' ∧ M' 41 = M 41 ∧ M' 42 = M 42 ∧ ∀ s, 0 ≤ s → s < nS t → M' 44 s = mkM (abl t (dg t s)) (nK t) ∧ M' 45 s = mkM (shu t (dg t s)) (nK t) := by
  have hn := W.1
  have hS := nS_rng W
  have eN : ((nN t : Nat) : Int) = nS t := by unfold nN; omega
  refine loop_r (F := fun n (b : mH × Int) => f_Graph_build_L129 41 5 n b.1 b.2) (P := fun r => ∃ h' M', r = some ((3, 0), h') ∧ At h' c p L M' ∧ Fr [43, 44, 45] M M' ∧ M' 41 = M 41 ∧ M' 42 = M 42 ∧ ∀ s, 0 ≤ s → s < nS t → M' 44 s = mkM (abl t (dg t s)) (nK t) ∧ M' 45 s = mkM (shu t (dg t s)) (nK t))
    (fun i b => b.2 = (i : Int) ∧ ∃ M', At b.1 c p L M' ∧ Fr [43, 44, 45] M M' ∧ ((i : Int) < nS t → ∀ b, 0 ≤ b → b < nb t → M' 43 b = dg t i b) ∧ ∀ s, 0 ≤ s → s < (i : Int) → M' 44 s = mkM (abl t (dg t s)) (nK t) ∧ M' 45 s = mkM (shu t (dg t s)) (nK t)) (nN t) (fun i hi b hb n => ?_) (fun b hb n => ?_) (i := 0) (b := (h, 0)) ⟨rfl, M, A, Fr.rf _ _, fun _ b g0 g1 => by rw [h0 b g0 g1]; exact (dg_0 b).symm, fun s g0 g1 => by omega⟩ (by omega) (by unfold nN; omega)
  · obtain ⟨h7, r⟩ := b
    obtain ⟨hr, M7, A7, F7, hrow, hms⟩ := hb
    have hr : r = (i : Int) := hr
    subst hr
    have A7 : At h7 c p L M7 := A7
    right
    have hrow := hrow (by omega)
    have R7 : BR5 M7 t := R.eq (fun v g0 g1 => F7 v (by simp; omega))
    have B7 := BH.of5 A7 R7
    have C7 := A7.gr
    have Q7 : RH h7 43 (nb t) (dg t i) := ⟨by simp only [C7], by simp only [C7]; decide, fun b g0 g1 => by simp only [C7]; exact hrow b g0 g1⟩
    have A8 := A7.gput (v := 44) i (mkM (abl t (dg t i)) (nK t)) (by decide) (by decide) (by decide +kernel) (by decide) (by decide)
    have R8 : BR5 _ t := R7.eq (M' := mup M7 44 i (mkM (abl t (dg t i)) (nK t))) (fun v g0 g1 => mup_fn (by omega))
    have B8 := BH.of5 A8 R8
    have C8 := A8.gr
    have Q8 : RH (hput h7 (p 44) i (mkM (abl t (dg t i)) (nK t))) 43 (nb t) (dg t i) := ⟨by simp only [C8], by simp only [C8]; decide, fun b g0 g1 => by simp only [C8]; rw [mup_fn (by decide)]; exact hrow b g0 g1⟩
    have A9 := A8.gput (v := 45) i (mkM (shu t (dg t i)) (nK t)) (by decide) (by decide) (by decide +kernel) (by decide) (by decide)
    have R9 : BR5 _ t := R8.eq (M' := mup (mup M7 44 i (mkM (abl t (dg t i)) (nK t))) 45 i (mkM (shu t (dg t i)) (nK t))) (fun v g0 g1 => mup_fn (by omega))
    have C9 := A9.gr
    have B9 := BH.of5 A9 R9
    obtain ⟨h10, M10, f10, A10, F10, hnx⟩ := s_Box_advance A9 R9 W (a := 43) (Or.inl rfl) (s := i) (by omega) (by omega) (fun b g0 g1 => by rw [mup_fn (by decide), mup_fn (by decide)]; exact hrow b g0 g1)
    refine ⟨(h10, ((i + 1 : Nat) : Int)), ⟨rfl, M10, A10, ((F7.pu (by decide)).pu (by decide)).tr (F10.mono (by decide)), fun g0 => hnx (by omega), fun s g0 g1 => ?_⟩, ?_⟩
    · rw [F10 44 (by decide), F10 45 (by decide), mup_fn (show (44 : Int) ≠ 45 by decide)]
      by_cases q1 : s = i
      · rw [q1, mup_eq, mup_eq]; exact ⟨rfl, rfl⟩
      · rw [mup_ne (Or.inr q1), mup_ne (Or.inr q1), mup_fn (by decide)]; exact hms s g0 (by omega)
    · show f_Graph_build_L129 41 5 (n + 1) h7 i = f_Graph_build_L129 41 5 n h10 ((i + 1 : Nat) : Int)
      rw [f_Graph_build_L129]
      simp only [C7, wth]
      have e2 : M7 41 2 = nS t := by rw [F7 41 (by decide)]; exact hst
      have R43 : RW t (dg t i) := dg_rw W i
      rw [chk_t trivial, e2, if_neg (by omega), chk_t trivial, chk_t trivial, chk_t B7.T, s_Box_ableIn B7 W Q7 R43, bndT_ok (by decide)]
      simp only [C7]
      rw [chk_t trivial, chk_t (by omega)]
      simp only [C8, show (2 * nb t).toNat = nK t from rfl]
      rw [chk_t trivial, chk_t trivial, chk_t B8.T, s_Box_shutIn B8 W Q8, bndT_ok (by decide)]
      simp only [C8, show (2 * nb t).toNat = nK t from rfl]
      rw [chk_t trivial, chk_t (by omega)]
      simp only [C9]
      rw [chk_t trivial, chk_t B9.T, f10, bndT_ok (by decide), wtv, w32_n i (by omega)]
  · obtain ⟨h7, r⟩ := b
    obtain ⟨hr, M7, A7, F7, hrow, hms⟩ := hb
    have hr : r = ((nN t : Nat) : Int) := hr
    subst hr
    have A7 : At h7 c p L M7 := A7
    have C7 := A7.gr
    refine ⟨h7, M7, ?_, A7, F7, F7 41 (by decide), F7 42 (by decide), fun s g0 g1 => hms s g0 (by omega)⟩
    show f_Graph_build_L129 41 5 (n + 1) h7 _ = _
    rw [f_Graph_build_L129]
    simp only [C7]
    rw [chk_t trivial, show M7 41 2 = nS t by rw [F7 41 (by decide)]; exact hst, if_pos (by omega)]
theorem s_Graph_build (A : At h c p L M) {t : tT} (R : BR5 M t) (W : WS t) (hS2 : nS t ≤ 20000) :
    ∃ h' p' L' M', f_Graph_build h 41 5 = some ((3, 0), h') ∧ At h' c p' L' M' ∧ Of [44, 45] p p' ∧ Of [44, 45] L L' ∧ Fs [42, 43, 44, 45] 41 [2, 3, 4] M M' ∧ GS M' L' t := by
  have hn := W.1
  have hS := nS_rng W
  have B := BH.of5 A R
  have hpo : RW t (po t) := fun b g0 g1 => by have := W.2.2.2.2.2.1 b g0 g1; omega
  have C := A.gr
  have A1 := A.fput (v := 41) (i := 2) (nS t) (by decide) (by decide) (by decide) (by decide +kernel) (by decide)
  have R1 : BR5 _ t := R.eq (M' := mup M 41 2 (nS t)) (fun v g0 g1 => mup_fn (by omega))
  have B1 := BH.of5 A1 R1
  have C1 := A1.gr
  have A2 := A1.fput (v := 41) (i := 3) (2 * nb t) (by decide) (by decide) (by decide) (by decide +kernel) (by decide)
  have R2 : BR5 _ t := R1.eq (M' := mup (mup M 41 2 (nS t)) 41 3 (2 * nb t)) (fun v g0 g1 => mup_fn (by omega))
  have B2 := BH.of5 A2 R2
  have C2 := A2.gr
  have A3 := A2.fput (v := 41) (i := 4) (st t (po t)) (by decide) (by decide) (by decide) (by decide +kernel) (by decide)
  have F3 : Fs [42, 43, 44, 45] 41 [2, 3, 4] M (mup (mup (mup M 41 2 (nS t)) 41 3 (2 * nb t)) 41 4 (st t (po t))) := (((Fs.rf _ _ _ _).ps (by decide)).ps (by decide)).ps (by decide)
  unfold f_Graph_build
  rw [chk_t B.T, s_Box_standCount B W, bndT_ok (by decide)]
  simp only [C]
  rw [chk_t trivial, wth, if_neg (show ¬ (20000 : Int) < nS t by omega), chk_t B1.T]
  simp only [C1]
  rw [chk_t trivial, wth, B1.s2, w32_2b (by omega) (by omega), chk_t B2.T, chk_t B2.T, s_Box_standOf B2 W (row := po t) ⟨B2.T8, by rw [B2.L8]; exact Int.le_refl _, B2.V8⟩ hpo, bndT_ok (by decide)]
  simp only [C2]
  rw [chk_t trivial, wth]
  -- the shifts
  refine loop_r (F := fun n (b : mH × Int × Int) => f_Graph_build_L40 _ 41 5 n b.1 b.2.1 b.2.2) (P := fun r => ∃ h' p' L' M', r = some ((3, 0), h') ∧ At h' c p' L' M' ∧ Of [44, 45] p p' ∧ Of [44, 45] L L' ∧ Fs [42, 43, 44, 45] 41 [2, 3, 4] M M' ∧ GS M' L' t)
    (fun i b => b.2 = (pw t i, (i : Int)) ∧ ∃ M', At b.1 c p L M' ∧ Fs [42, 43, 44, 45] 41 [2, 3, 4] M M' ∧ (M' 41 2 = nS t ∧ M' 41 3 = 2 * nb t ∧ M' 41 4 = st t (po t)) ∧ (∀ v, 0 ≤ v → v < 2 * (i : Int) → M' 42 v = sf t v) ∧ ∀ j, 0 ≤ j → j < (i : Int) → M' 43 j = 0) (nb t).toNat (fun i hi b hb n => ?_) (fun b hb n => ?_) (i := 0) (b := (hput (hput (hput h 41 2 (nS t)) 41 3 (2 * nb t)) 41 4 (st t (po t)), 1, 0)) ⟨rfl, _, A3, F3, ⟨by rw [mup_ne (by decide), mup_ne (by decide), mup_eq], by rw [mup_ne (by decide), mup_eq], mup_eq _ _ _ _⟩, fun v g0 g1 => by omega, fun v g0 g1 => by omega⟩ (by omega) (by omega)
  · obtain ⟨h4, r⟩ := b
    obtain ⟨hr, M4, A4, F4, v4, hsh, hro⟩ := hb
    have hr : r = (pw t i, (i : Int)) := hr
    subst hr
    have A4 : At h4 c p L M4 := A4
    right
    have hw := wg_rng W (show (0 : Int) ≤ i by omega) (by omega)
    have hpi := W.2.2.2.2.2.1 i (by omega) (by omega)
    unfold wg at hw
    rw [Int.toNat_natCast] at hw
    have e := pw_mono W.pp (show i + 1 ≤ (nb t).toNat by omega)
    have e2 := pw_pos (W.pp.mono (show i + 1 ≤ (nb t).toNat by omega))
    have R4 : BR5 M4 t := R.eq (fun v g0 g1 => F4.1 v (by simp; omega) (by omega))
    have B4 := BH.of5 A4 R4
    have C4 := A4.gr
    have A5 := A4.aput (v := 42) (2 * i) (- pw t i) (by decide) (by decide) (by decide) (by decide +kernel) (by decide) (by decide)
    have C5 := A5.gr
    have A6 := A5.aput (v := 42) (2 * i + 1) (pw t i) (by decide) (by decide) (by decide) (by decide +kernel) (by decide) (by decide)
    have C6 := A6.gr
    have R6 : BR5 _ t := R4.eq (M' := mup (mup M4 42 (2 * i) (- pw t i)) 42 (2 * i + 1) (pw t i)) (fun v g0 g1 => by rw [mup_fn (by omega), mup_fn (by omega)])
    have B6 := BH.of5 A6 R6
    have A7 := A6.aput (v := 43) i 0 (by decide) (by decide) (by decide) (by decide +kernel) (by decide) (by decide)
    refine ⟨(hput (hput (hput h4 42 (2 * i) (- pw t i)) 42 (2 * i + 1) (pw t i)) 43 i 0, pw t (i + 1), ((i + 1 : Nat) : Int)), ⟨rfl, _, A7, ((F4.pu (by decide) (by decide)).pu (by decide) (by decide)).pu (by decide) (by decide), ⟨?_, ?_, ?_⟩, fun v g0 g1 => ?_, fun j g0 g1 => ?_⟩, ?_⟩
    · rw [mup_fn (by decide), mup_fn (by decide), mup_fn (by decide)]; exact v4.1
    · rw [mup_fn (by decide), mup_fn (by decide), mup_fn (by decide)]; exact v4.2.1
    · rw [mup_fn (by decide), mup_fn (by decide), mup_fn (by decide)]; exact v4.2.2
    · rw [mup_fn (by decide)]
      by_cases q1 : v = 2 * i + 1
      · rw [q1, mup_eq, sf_odd]; unfold wg; rw [Int.toNat_natCast]
      · rw [mup_ne (Or.inr q1)]
        by_cases q2 : v = 2 * i
        · rw [q2, mup_eq, sf_even]; unfold wg; rw [Int.toNat_natCast]
        · rw [mup_ne (Or.inr q2)]; exact hsh v g0 (by omega)
    · by_cases q1 : j = i
      · rw [q1, mup_eq]
      · rw [mup_ne (Or.inr q1), mup_fn (by decide), mup_fn (by decide)]; exact hro j g0 (by omega)
    · show f_Graph_build_L40 _ 41 5 (n + 1) h4 (pw t i) i = f_Graph_build_L40 _ 41 5 n (hput (hput (hput h4 42 (2 * i) (- pw t i)) 42 (2 * i + 1) (pw t i)) 43 i 0) (pw t (i + 1)) ((i + 1 : Nat) : Int)
      rw [f_Graph_build_L40, chk_t B4.T, B4.s2, if_neg (by omega)]
      simp only [C4, wth]
      rw [w32_2b (by omega) (by omega), w32_id (x := - pw t i) (by omega) (by omega), chk_t trivial, chk_t trivial, chk_t (by omega)]
      simp only [C5]
      rw [w32_id (x := 2 * (i : Int) + 1) (by omega) (by omega), chk_t trivial, chk_t trivial, chk_t (by omega), chk_t B6.T, chk_t B6.T6, chk_t (by rw [B6.L6]; omega), B6.V6 i (by omega) (by omega), wtv, show w32 (pw t i * pl t i) = pw t (i + 1) from w32_id (by show _ ≤ pw t (i + 1); omega) (by show pw t (i + 1) < _; unfold nS at hS; omega)]
      simp only [C6]
      rw [chk_t trivial, chk_t trivial, chk_t (by omega), wtv, w32_n i (by omega)]
  · obtain ⟨h4, r⟩ := b
    obtain ⟨hr, M4, A4, F4, v4, hsh, hro⟩ := hb
    have hr : r = (pw t (nb t).toNat, ((nb t).toNat : Int)) := hr
    subst hr
    have A4 : At h4 c p L M4 := A4
    have R4 : BR5 M4 t := R.eq (fun v g0 g1 => F4.1 v (by simp; omega) (by omega))
    have B4 := BH.of5 A4 R4
    have C4 := A4.gr
    obtain ⟨q5, h5, f5, t5, p5, L5, M5, A5, l5, op5, oL5, oM5⟩ := s_Nb_grown A4 (v := 44) (o := 41) (i := 7) (need := nS t) (by decide) (by decide +kernel) (by decide) (by decide) (by decide +kernel) (by decide +kernel) (most := 20000) (by decide +kernel) hS2
    have C5 := A5.gr
    obtain ⟨q6, h6, f6, t6, p6, L6, M6, A6, l6, op6, oL6, oM6⟩ := s_Nb_grown A5 (v := 45) (o := 41) (i := 8) (need := nS t) (by decide) (by decide +kernel) (by decide) (by decide) (by decide +kernel) (by decide +kernel) (most := 20000) (by decide +kernel) hS2
    have F6 : Fs [42, 43, 44, 45] 41 [2, 3, 4] M M6 := (F4.tr ((oM5.fs (is := [2, 3, 4]) (by decide)).mono (by decide) (fun _ h => h))).tr ((oM6.fs (is := [2, 3, 4]) (by decide)).mono (by decide) (fun _ h => h))
    have m5 : M5 41 = M4 41 := oM5 41 (by decide)
    have m6 : M6 41 = M4 41 := (oM6 41 (by decide)).trans m5
    have n42 : M6 42 = M4 42 := (oM6 42 (by decide)).trans (oM5 42 (by decide))
    have n43 : M6 43 = M4 43 := (oM6 43 (by decide)).trans (oM5 43 (by decide))
    have l44 : nS t ≤ L6 44 := by rw [oL6 44 (by decide)]; exact l5
    have hop : Of [44, 45] p p6 := (op5.mono (by decide)).tr (op6.mono (by decide))
    have hoL : Of [44, 45] L L6 := (oL5.mono (by decide)).tr (oL6.mono (by decide))
    have v6 : M6 41 2 = nS t ∧ M6 41 3 = 2 * nb t ∧ M6 41 4 = st t (po t) := by rw [m6]; exact v4
    show ∃ h' p' L' M', f_Graph_build_L40 _ 41 5 (n + 1) h4 (pw t (nb t).toNat) ((nb t).toNat : Int) = some ((3, 0), h') ∧ _
    rw [f_Graph_build_L40, chk_t B4.T, B4.s2, if_pos (by omega)]
    simp only [C4]
    rw [chk_t trivial, chk_t trivial, v4.1, f5, bndR_ok, t5, chk_t (by decide +kernel), wth]
    simp only [C5]
    rw [chk_t trivial, chk_t trivial, show M5 41 2 = nS t by rw [m5]; exact v4.1, f6, bndR_ok, t6, chk_t (by decide +kernel), wth]
    obtain ⟨h9, M9, f9, A9, F9, w41, w42, hms⟩ := s_Graph_masks A6 (R.eq (fun v g0 g1 => F6.1 v (by simp; omega) (by omega))) W hS2 v6.1 ⟨l44, l6⟩ (fun j g0 g1 => by rw [n43]; exact hro j g0 (by omega))
    exact ⟨h9, p6, L6, M9, f9, A9, hop, hoL, F6.tr ((F9.fs (is := [2, 3, 4]) (by decide)).mono (by decide) (fun _ h => h)), ⟨by rw [w41]; exact v6, fun v g0 g1 => by rw [w42, n42]; exact hsh v g0 (by omega), fun s g0 g1 => (hms s g0 g1).1, fun s g0 g1 => (hms s g0 g1).2, l44, l6⟩⟩
/-- what goes with these worn bits, into the row g (46 or 47) -/
theorem s_Graph_fill (A : At h c p L M) {t : tT} (W : WS t) (hS2 : nS t ≤ 20000) (G : GS M L t) {g w : Int} (hg : g = 46 ∨ g = 47) (hL : nS t ≤ L g) :
    ∃ h' M', f_Graph_fill h 41 (p g) w = some ((3, 0), h') ∧ At h' c p L M' ∧ Fr [g] M M' ∧ GG M' L g t (gm t w) := by
  have hS := nS_rng W
  have hn := W.1
  have gg : (1 ≤ g ∧ g ≤ 99 ∧ 21 ≤ kd g ∧ g ≠ 32 ∧ g ≠ 31) ∧ g ≠ 41 ∧ g ≠ 44 ∧ g ≠ 45 := by rcases hg with rfl | rfl <;> decide +kernel
  have eN : ((nN t : Nat) : Int) = nS t := by unfold nN; omega
  unfold f_Graph_fill
  refine loop_r (F := fun n (b : mH × Int) => f_Graph_fill_L2 41 (p g) w n b.1 b.2) (P := fun r => ∃ h' M', r = some ((3, 0), h') ∧ At h' c p L M' ∧ Fr [g] M M' ∧ GG M' L g t (gm t w)) (fun i b => b.2 = (i : Int) ∧ ∃ M', At b.1 c p L M' ∧ Fr [g] M M' ∧ ∀ s, 0 ≤ s → s < (i : Int) → M' g s = mkM (gm t w s) (nK t)) (nN t) (fun i hi b hb n => ?_) (fun b hb n => ?_) (i := 0) (b := (h, 0)) ⟨rfl, M, A, Fr.rf _ _, fun s g0 g1 => by omega⟩ (by omega) (by omega)
  · obtain ⟨h1, r⟩ := b
    obtain ⟨hr, M1, A1, F1, hv⟩ := hb
    have hr : r = (i : Int) := hr
    subst hr
    have A1 : At h1 c p L M1 := A1
    right
    have C1 := A1.gr
    have e2 : M1 41 2 = nS t := by rw [F1 41 (by simp; exact fun e => gg.2.1 e.symm)]; exact G.1.1
    have e44 : M1 44 i = mkM (abl t (dg t i)) (nK t) := by rw [F1 44 (by simp; exact fun e => gg.2.2.1 e.symm)]; exact G.2.2.1 i (by omega) (by omega)
    have e45 : M1 45 i = mkM (shu t (dg t i)) (nK t) := by rw [F1 45 (by simp; exact fun e => gg.2.2.2 e.symm)]; exact G.2.2.2.1 i (by omega) (by omega)
    have hL4 := G.2.2.2.2
    have A2 := A1.gput (v := g) i (mkM (gm t w i) (nK t)) gg.1.1 gg.1.2.1 gg.1.2.2.1 gg.1.2.2.2.1 gg.1.2.2.2.2
    have ev : qand (mkM (abl t (dg t i)) (nK t)) (qor (qxor (mkM (shu t (dg t i)) (nK t)) (-1)) w) = mkM (gm t w i) (nK t) := by
      refine mkM_ext (by unfold nK; omega) (qand_rng _ _) (fun j hj => ?_)
      rw [bt_qand, bt_qor, bt_qxor, bt_m1 hj, Bool.xor_true, bt_mkM _ (by unfold nK; omega) hj, bt_mkM _ (by unfold nK; omega) hj]
      unfold gm
      rw [Int.toNat_natCast]
      by_cases q : j < nK t
      · rw [decide_eq_true q]; simp
      · rw [decide_eq_false q]; simp
    refine ⟨(hput h1 (p g) i (mkM (gm t w i) (nK t)), ((i + 1 : Nat) : Int)), ⟨rfl, _, A2, F1.pu (by simp), fun s g0 g1 => ?_⟩, ?_⟩
    · by_cases q1 : s = i
      · rw [q1, mup_eq]
      · rw [mup_ne (Or.inr q1)]; exact hv s g0 (by omega)
    · show f_Graph_fill_L2 41 (p g) w (n + 1) h1 i = f_Graph_fill_L2 41 (p g) w n (hput h1 (p g) i (mkM (gm t w i) (nK t))) ((i + 1 : Nat) : Int)
      have hTg : hpT h1 (p g) = 21 ∧ hpL h1 (p g) = L g := by rcases hg with rfl | rfl <;> simp only [C1] <;> simp
      rw [f_Graph_fill_L2]
      simp only [C1, wth, hTg]
      rw [chk_t trivial, e2, if_neg (by omega), chk_t (Nat.le_refl _), if_neg (by omega), chk_t trivial, chk_t trivial, chk_t (by omega), chk_t trivial, chk_t trivial, chk_t (by omega), chk_t trivial, chk_t (by omega), e44, e45, ev, wtv, w32_n i (by omega)]
  · obtain ⟨h1, r⟩ := b
    obtain ⟨hr, M1, A1, F1, hv⟩ := hb
    have hr : r = ((nN t : Nat) : Int) := hr
    subst hr
    have A1 : At h1 c p L M1 := A1
    have C1 := A1.gr
    have e2 : M1 41 2 = nS t := by rw [F1 41 (by simp; exact fun e => gg.2.1 e.symm)]; exact G.1.1
    refine ⟨h1, M1, ?_, A1, F1, hL, fun s g0 g1 => hv s g0 (by omega)⟩
    show f_Graph_fill_L2 41 (p g) w (n + 1) h1 _ = _
    rw [f_Graph_fill_L2]
    simp only [C1]
    rw [chk_t trivial, e2, if_pos (by omega)]
end
