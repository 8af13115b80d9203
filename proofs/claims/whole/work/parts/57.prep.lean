/-- the graph's cache: what it holds is of the box told as its edition -/
def CG (E : Int → tT) (M : aM) (L : Int → Int) : Prop := M 41 2 = 0 ∨ (WS (E (M 41 0)) ∧ nS (E (M 41 0)) ≤ 20000 ∧ GS M L (E (M 41 0)) ∧ (M 41 1 = -1 ∨ GG M L 46 (E (M 41 0)) (gm (E (M 41 0)) (M 41 1))))
def wB (t : tT) : Int := mkM (fun v => wS t (v / 2)) (nK t)
theorem nK_rng {t : tT} (W : WS t) : nK t ≤ 18 ∧ ((nK t : Nat) : Int) = 2 * nb t := by have := W.1; unfold nK; omega
theorem nN_eq {t : tT} (W : WS t) : ((nN t : Nat) : Int) = nS t := by have := nS_rng W; unfold nN; omega
theorem pw18 {k : Nat} (h : k ≤ 18) : (2 : Int) ^ k ≤ 262144 := by
  have h2 : (2 : Nat) ^ k ≤ 2 ^ 18 := Nat.pow_le_pow_right (by decide) h
  have h3 : (2 : Int) ^ k = ((2 ^ k : Nat) : Int) := (Int.natCast_pow 2 k).symm
  rw [h3]
  exact Int.ofNat_le.mpr h2
theorem wB_pos {t : tT} (W : WS t) : 0 ≤ wB t ∧ wB t < 262144 := by
  have hk := nK_rng W
  have := mkM_pos (f := fun v => wS t (v / 2)) (n := nK t) (by omega)
  unfold wB
  exact ⟨this.1, Int.lt_of_lt_of_le this.2 (pw18 hk.1)⟩
theorem gm_go {t : tT} (W : WS t) {w : Int} {wn : Int → Bool} (hw : ∀ v : Int, 0 ≤ v → v < 2 * nb t → bt w v.toNat = wn (v / 2)) {s v : Int} (h0 : 0 ≤ v) (h1 : v < 2 * nb t) (X : tT) : gm t w s v = go t false X wn s v := by
  rw [go_mask h0 h1]; unfold gm; rw [hw v h0 h1]
theorem bt_wB {t : tT} (W : WS t) : ∀ v : Int, 0 ≤ v → v < 2 * nb t → bt (wB t) v.toNat = wS t (v / 2) := fun v h0 h1 => by
  have hk := nK_rng W
  unfold wB
  rw [bt_mkM _ (by omega) (by omega), decide_eq_true (show v.toNat < nK t by omega), Bool.true_and, show ((v.toNat : Nat) : Int) = v by omega]
/-- the graph of t as the masks in g tell it -/
theorem GG_rng {M : aM} {L : Int → Int} {g : Int} {t : tT} {f : Int → Int → Bool} (W : WS t) (G : GG M L g t f) {s : Int} (h0 : 0 ≤ s) (h1 : s < nS t) : (0 ≤ M g s ∧ M g s < 262144) ∧ ∀ v : Nat, v < nK t → bt (M g s) v = f s v := by
  have hk := nK_rng W
  rw [G.2 s h0 h1]
  have := mkM_pos (f := f s) (n := nK t) (by omega)
  have h3 := pw18 hk.1
  refine ⟨⟨this.1, by omega⟩, fun v hv => ?_⟩
  rw [bt_mkM _ (by omega) (by omega), decide_eq_true hv, Bool.true_and]
theorem GG_GF {M : aM} {L : Int → Int} {g : Int} {t : tT} {f : Int → Int → Bool} {x : Bool} {X : tT} {wn : Int → Bool} (W : WS t) (S : GS M L t) (G : GG M L g t f) (hf : ∀ s v : Int, 0 ≤ s → s < nS t → 0 ≤ v → v < 2 * nb t → f s v = go t x X wn s v) : GF M g (nK t) (nN t) (th t x X wn) := fun s h0 h1 => by
  have hk := nK_rng W
  have hn := nN_eq W
  have := GG_rng W G h0 (by omega)
  refine ⟨this.1, fun v hv => ?_⟩
  rw [this.2 v hv, hf s v h0 (by omega) (by omega) (by omega), S.2.1 v (by omega) (by omega)]; rfl
theorem GG_GB {M : aM} {L : Int → Int} {g : Int} {t : tT} {f : Int → Int → Bool} {x : Bool} {X : tT} {wn : Int → Bool} (W : WS t) (S : GS M L t) (G : GG M L g t f) (hf : ∀ s v : Int, 0 ≤ s → s < nS t → 0 ≤ v → v < 2 * nb t → f s v = go t x X wn s v) : GB M g (nK t) (nN t) (nxB t x X wn) := fun s h0 h1 => by
  have hk := nK_rng W
  have hn := nN_eq W
  refine ⟨(GG_rng W G h0 (by omega)).1, fun v hv => ?_⟩
  rw [S.2.1 v (by omega) (by omega)]
  unfold nxB
  by_cases g1 : 0 ≤ s - sf t v ∧ s - sf t v < nS t
  · rw [decide_eq_true g1.1, decide_eq_true g1.2, decide_eq_true (show s - sf t v < nN t by omega), (GG_rng W G g1.1 g1.2).2 v hv, hf _ v g1.1 g1.2 (by omega) (by omega)]
  · have e1 : (decide (0 ≤ s - sf t v) && decide (s - sf t v < nS t)) = false := by
      rw [Bool.and_eq_false_iff, decide_eq_false_iff_not, decide_eq_false_iff_not]; omega
    have e2 : (decide (0 ≤ s - sf t v) && decide (s - sf t v < nN t)) = false := by
      rw [Bool.and_eq_false_iff, decide_eq_false_iff_not, decide_eq_false_iff_not]; omega
    rw [e1, e2]; rfl
theorem GS_42 {M : aM} {L : Int → Int} {t : tT} (W : WS t) (S : GS M L t) : ∀ v : Nat, v < nK t → -300000 ≤ M 42 v ∧ M 42 v ≤ 300000 := fun v hv => by
  have hk := nK_rng W
  have hS := nS_rng W
  have := wg_rng W (show (0 : Int) ≤ (v : Int) / 2 by omega) (by omega)
  rw [S.2.1 v (by omega) (by omega)]
  unfold sf; split <;> omega
section
variable {h : mH} {c : Int} {p L : Int → Int} {M : aM}
/-- what prepare leaves -/
def GP (M M' : aM) (L' : Int → Int) (t : tT) : Prop := GS M' L' t ∧ GG M' L' 46 t (gm t (wB t)) ∧ M' 41 0 = M 5 0 ∧ M' 41 1 = wB t
abbrev FG : aM → aM → Prop := Fs [42, 43, 44, 45, 46] 41 [0, 1, 2, 3, 4]
theorem s_Graph_prep36 (A : At h c p L M) {t : tT} (R : BR5 M t) (W : WS t) (hS2 : nS t ≤ 20000) (G : GS M L t) (hc : M 41 1 = -1 ∨ GG M L 46 t (gm t (M 41 1))) (h0 : M 41 0 = M 5 0) :
    ∃ h' p' L' M', f_Graph_prepare_J36 41 5 h = some ((3, 0), h') ∧ At h' c p' L' M' ∧ Of [44, 45, 46] p p' ∧ Of [44, 45, 46] L L' ∧ FG M M' ∧ GP M M' L' t := by
  have B := BH.of5 A R
  have C := A.gr
  have hw := wB_pos W
  unfold f_Graph_prepare_J36
  rw [chk_t B.T, s_Box_wornBits B W, bndT_ok (by decide), show mkM (fun v => wS t (v / 2)) (2 * nb t).toNat = wB t from rfl]
  simp only [C]
  rw [chk_t trivial]
  by_cases g : M 41 1 = wB t
  · rw [if_pos g]
    refine ⟨h, p, L, M, rfl, A, Of.rf _ _, Of.rf _ _, Fs.rf _ _ _ _, G, ?_, h0, g⟩
    rcases hc with hc | hc
    · omega
    · rwa [g] at hc
  · have A1 := A.fput (v := 41) (i := 1) (wB t) (by decide) (by decide) (by decide) (by decide +kernel) (by decide)
    have C1 := A1.gr
    have F1 : FG M (mup M 41 1 (wB t)) := (Fs.rf _ _ _ _).ps (by decide)
    obtain ⟨q5, h5, f5, t5, p5, L5, M5, A5, l5, op5, oL5, oM5⟩ := s_Nb_grown A1 (v := 46) (o := 41) (i := 9) (need := nS t) (by decide) (by decide +kernel) (by decide) (by decide) (by decide +kernel) (by decide +kernel) (most := 20000) (by decide +kernel) hS2
    have C5 := A5.gr
    have G5 : GS M5 L5 t := GS_fr G (fun v hv => by
      simp only [List.mem_cons, List.not_mem_nil, or_false] at hv
      rcases hv with rfl | rfl | rfl <;> rw [oM5 _ (by decide), mup_fn (by decide)]) (fun i hi => by
      simp only [List.mem_cons, List.not_mem_nil, or_false] at hi
      rcases hi with rfl | rfl | rfl <;> rw [oM5 _ (by decide), mup_ne (by decide)]) (fun v hv => by
      simp only [List.mem_cons, List.not_mem_nil, or_false] at hv
      rcases hv with rfl | rfl <;> rw [oL5 _ (by decide)])
    obtain ⟨h6, M6, f6, A6, F6, G6⟩ := s_Graph_fill A5 W hS2 G5 (g := 46) (w := wB t) (Or.inl rfl) l5
    have C6 := A6.gr
    refine ⟨h6, p5, L5, M6, ?_, A6, op5.mono (by decide), oL5.mono (by decide), (F1.tr ((oM5.fs (is := [0, 1, 2, 3, 4]) (by decide)).mono (by decide) (fun _ h => h))).tr ((F6.fs (is := [0, 1, 2, 3, 4]) (by decide)).mono (by decide) (fun _ h => h)), ?_, G6, ?_, ?_⟩
    · rw [if_neg g, chk_t trivial, wth]
      simp only [C1]
      rw [chk_t trivial, chk_t trivial, mup_ne (by decide), G.1.1, f5, bndR_ok, t5, chk_t (by decide +kernel), wth]
      simp only [C5]
      rw [chk_t trivial, chk_t trivial, f6, bndT_ok (by decide)]
    · exact GS_fr G5 (fun v hv => F6 v (by
        simp only [List.mem_cons, List.not_mem_nil, or_false] at hv
        rcases hv with rfl | rfl | rfl <;> decide)) (fun i hi => by rw [F6 41 (by decide)]) (fun v hv => rfl)
    · rw [F6 41 (by decide), oM5 41 (by decide), mup_ne (by decide)]; exact h0
    · rw [F6 41 (by decide), oM5 41 (by decide), mup_eq]
theorem s_Graph_prepare (A : At h c p L M) {E : Int → tT} {t : tT} (R : BR5 M t) (W : WS t) (hS2 : nS t ≤ 20000) (hc : CG E M L) (hE : Sq t (E (M 5 0))) :
    ∃ h' p' L' M', f_Graph_prepare h 41 5 = some ((3, 0), h') ∧ At h' c p' L' M' ∧ Of [44, 45, 46] p p' ∧ Of [44, 45, 46] L L' ∧ FG M M' ∧ GP M M' L' t := by
  have B := BH.of5 A R
  have C := A.gr
  have D := A.b5
  unfold f_Graph_prepare
  simp only [C, D]
  rw [chk_t trivial, chk_t trivial]
  have build : ∃ h' p' L' M', f_Graph_prepare_J18 41 5 h = some ((3, 0), h') ∧ At h' c p' L' M' ∧ Of [44, 45, 46] p p' ∧ Of [44, 45, 46] L L' ∧ FG M M' ∧ GP M M' L' t := by
    obtain ⟨h1, p1, L1, M1, f1, A1, op1, oL1, F1, G1⟩ := s_Graph_build A R W hS2
    have C1 := A1.gr
    have D1 := A1.b5
    have m5 : M1 5 = M 5 := F1.1 5 (by decide) (by decide)
    have A2 := A1.fput (v := 41) (i := 0) (M 5 0) (by decide) (by decide) (by decide) (by decide +kernel) (by decide)
    have C2 := A2.gr
    have A3 := A2.fput (v := 41) (i := 1) (-1) (by decide) (by decide) (by decide) (by decide +kernel) (by decide)
    have R3 : BR5 _ t := R.eq (M' := mup (mup M1 41 0 (M 5 0)) 41 1 (-1)) (fun v g0 g1 => by rw [mup_fn (by omega), mup_fn (by omega)]; exact F1.1 v (by simp; omega) (by omega))
    have F3 : FG M (mup (mup M1 41 0 (M 5 0)) 41 1 (-1)) := ((F1.mono (by decide) (by decide)).ps (by decide)).ps (by decide)
    have G3 : GS (mup (mup M1 41 0 (M 5 0)) 41 1 (-1)) L1 t := GS_fr G1 (fun v hv => by
      simp only [List.mem_cons, List.not_mem_nil, or_false] at hv
      rcases hv with rfl | rfl | rfl <;> rw [mup_fn (by decide), mup_fn (by decide)]) (fun i hi => by
      simp only [List.mem_cons, List.not_mem_nil, or_false] at hi
      rcases hi with rfl | rfl | rfl <;> rw [mup_ne (by decide), mup_ne (by decide)]) (fun v hv => rfl)
    have e5 : mup (mup M1 41 0 (M 5 0)) 41 1 (-1) 5 = M 5 := by rw [mup_fn (by decide), mup_fn (by decide)]; exact m5
    obtain ⟨h4, p4, L4, M4, f4, A4, op4, oL4, F4, G4⟩ := s_Graph_prep36 A3 R3 W hS2 G3 (Or.inl (mup_eq _ _ _ _)) (by rw [e5, mup_ne (by decide), mup_eq])
    refine ⟨h4, p4, L4, M4, ?_, A4, (op1.mono (by decide)).tr op4, (oL1.mono (by decide)).tr oL4, F3.tr F4, G4.1, G4.2.1, by rw [G4.2.2.1, e5], G4.2.2.2⟩
    unfold f_Graph_prepare_J18
    simp only [C]
    rw [chk_t trivial, f1, bndT_ok (by decide)]
    simp only [C1, D1]
    rw [chk_t trivial, chk_t trivial, m5, wth]
    simp only [C2]
    rw [chk_t trivial, wth, f4]
  by_cases g1 : M 41 0 = M 5 0
  · rw [if_pos g1, chk_t trivial]
    by_cases g2 : M 41 2 = 0
    · rw [if_pos g2]; exact build
    · rw [if_neg g2]
      rcases hc with hc | ⟨c1, c2, c3, c4⟩
      · exact absurd hc g2
      · rw [g1] at c1 c2 c3 c4
        refine s_Graph_prep36 A R W hS2 (GS_sq hE.symm c3) ?_ g1
        rcases c4 with c4 | c4
        · exact Or.inl c4
        · exact Or.inr (GG_sq hE.symm c4)
  · rw [if_neg g1]; exact build
theorem CG.of {E : Int → tT} {M M' : aM} {L : Int → Int} {t : tT} (W : WS t) (hS2 : nS t ≤ 20000) (G : GP M M' L t) (hE : Sq t (E (M 5 0))) : CG E M' L := by
  refine Or.inr ?_
  rw [G.2.2.1, G.2.2.2]
  exact ⟨Sq_WS hE W, by rw [← Sq_nS hE]; exact hS2, GS_sq hE G.1, Or.inr (GG_sq hE G.2.1)⟩
/-- tried: some more bars worn -/
theorem s_Graph_wearMore (A : At h c p L M) {t : tT} (W : WS t) (hS2 : nS t ≤ 20000) (G : GS M L t) (w : Int) :
    ∃ h' p' L' M', f_Graph_wearMore h 41 w = some ((3, 0), h') ∧ At h' c p' L' M' ∧ Of [47] p p' ∧ Of [47] L L' ∧ Fr [47] M M' ∧ GG M' L' 47 t (gm t (qor (M 41 1) w)) := by
  have C := A.gr
  obtain ⟨q5, h5, f5, t5, p5, L5, M5, A5, l5, op5, oL5, oM5⟩ := s_Nb_grown A (v := 47) (o := 41) (i := 10) (need := nS t) (by decide) (by decide +kernel) (by decide) (by decide) (by decide +kernel) (by decide +kernel) (most := 20000) (by decide +kernel) hS2
  have C5 := A5.gr
  have G5 : GS M5 L5 t := GS_fr G (fun v hv => by
    simp only [List.mem_cons, List.not_mem_nil, or_false] at hv
    rcases hv with rfl | rfl | rfl <;> rw [oM5 _ (by decide)]) (fun i hi => by rw [oM5 41 (by decide)]) (fun v hv => by
    simp only [List.mem_cons, List.not_mem_nil, or_false] at hv
    rcases hv with rfl | rfl <;> rw [oL5 _ (by decide)])
  obtain ⟨h6, M6, f6, A6, F6, G6⟩ := s_Graph_fill A5 W hS2 G5 (g := 47) (w := qor (M 41 1) w) (Or.inr rfl) l5
  refine ⟨h6, p5, L5, M6, ?_, A6, op5, oL5, oM5.tr F6, G6⟩
  unfold f_Graph_wearMore
  simp only [C]
  rw [chk_t trivial, chk_t trivial, G.1.1, f5, bndR_ok, t5, chk_t (by decide +kernel), wth]
  simp only [C5]
  rw [chk_t trivial, chk_t trivial, chk_t trivial, show M5 41 1 = M 41 1 by rw [oM5 41 (by decide)], f6, bndT_ok (by decide)]
/-! what goes, asked one by one -/
theorem s_Graph_stepsFrom (A : At h c p L M) {t : tT} {f : Int → Int → Bool} (W : WS t) (S : GS M L t) (G : GG M L 46 t f) (s : Int) : f_Graph_stepsFrom h 41 s = some ((0, if 0 ≤ s ∧ s < nS t then mkM (f s) (nK t) else 0), h) := by
  have C := A.gr
  have hL := G.1
  unfold f_Graph_stepsFrom f_Graph_stepsFrom_J21
  by_cases g : s < 0
  · rw [if_pos g, if_neg (by omega)]
  · rw [if_neg g]
    simp only [C]
    rw [chk_t trivial, S.1.1]
    by_cases g2 : nS t ≤ s
    · rw [if_pos g2, if_neg (by omega)]
    · rw [if_neg g2, chk_t trivial, chk_t trivial, chk_t (by omega), if_pos (by omega), G.2 s (by omega) (by omega)]
theorem s_Graph_goesFrom (A : At h c p L M) {t : tT} {f : Int → Int → Bool} (W : WS t) (S : GS M L t) (G : GG M L 46 t f) (s v : Int) : f_Graph_goesFrom h 41 s v = some ((0, b2i (decide (0 ≤ s) && decide (s < nS t) && (decide (0 ≤ v) && decide (v < 2 * nb t)) && f s v)), h) := by
  have C := A.gr
  have hk := nK_rng W
  unfold f_Graph_goesFrom f_Graph_goesFrom_J29
  by_cases g : v < 0
  · rw [if_pos g, chk_t (Or.inl rfl), decide_eq_false (show ¬ 0 ≤ v by omega)]; simp [b2i]
  · rw [if_neg g, decide_eq_true (show 0 ≤ v by omega)]
    simp only [C]
    rw [chk_t trivial, S.1.2.1]
    by_cases g2 : 2 * nb t ≤ v
    · rw [if_pos g2, chk_t (by simp), decide_eq_false (show ¬ v < 2 * nb t by omega)]; simp [b2i]
    · rw [if_neg g2, chk_t trivial, s_Graph_stepsFrom A W S G, bndT_ok (by decide), decide_eq_true (show v < 2 * nb t by omega)]
      by_cases g3 : 0 ≤ s ∧ s < nS t
      · have hr := mkM_rng (f s) (nK t)
        rw [if_pos g3, decide_eq_true g3.1, decide_eq_true g3.2]
        have hb := bt_mkM (f s) (n := nK t) (by omega) (i := v.toNat) (by omega)
        rw [decide_eq_true (show v.toNat < nK t by omega), Bool.true_and, show ((v.toNat : Nat) : Int) = v by omega] at hb
        cases hf : f s v
        · rw [if_neg (fun e => by have := (bt_at hr.1 hr.2 (by omega) (by omega)).mp e; rw [hb, hf] at this; cases this), chk_t (by simp)]; rfl
        · rw [if_pos ((bt_at hr.1 hr.2 (by omega) (by omega)).mpr (by rw [hb, hf])), chk_t (by simp)]; rfl
      · have e : (decide (0 ≤ s) && decide (s < nS t)) = false := by
          rw [Bool.and_eq_false_iff, decide_eq_false_iff_not, decide_eq_false_iff_not]; omega
        rw [if_neg g3, e, if_neg (fun e => by have := (bt_at (by decide) (by decide) (by omega) (by omega)).mp e; rw [bt_0] at this; cases this), chk_t (by simp)]; rfl
theorem s_Graph_behind (A : At h c p L M) {t : tT} (W : WS t) (S : GS M L t) {s : Int} (hs : -1000000 ≤ s ∧ s ≤ 1000000) (v : Int) : f_Graph_behind h 41 s v = some ((0, if 0 ≤ v ∧ v < 2 * nb t then s + sf t v else s), h) := by
  have C := A.gr
  have hk := nK_rng W
  unfold f_Graph_behind f_Graph_behind_J23
  by_cases g : v < 0
  · rw [if_pos g, if_neg (by omega)]
  · rw [if_neg g]
    simp only [C]
    rw [chk_t trivial, S.1.2.1]
    by_cases g2 : 2 * nb t ≤ v
    · rw [if_pos g2, if_neg (by omega)]
    · have := GS_42 W S v.toNat (by omega)
      rw [show ((v.toNat : Nat) : Int) = v by omega] at this
      rw [if_neg g2, chk_t trivial, chk_t trivial, chk_t (by omega), if_pos (by omega), w32_id (by omega) (by omega), S.2.1 v (by omega) (by omega)]
end
