/-! one rule more -/
def XV (t : tT) (X : tT) : Prop := (0 ≤ X 0 ∧ X 0 < nb t) ∧ (0 ≤ X 1 ∧ X 1 < pl t (X 0)) ∧ (0 ≤ X 2 ∧ X 2 < pl t (X 0)) ∧ (X 2 = X 1 + 1 ∨ X 2 = X 1 - 1) ∧ (0 ≤ X 4 ∧ X 4 < nb t) ∧ (X 5 = 0 ∨ X 5 = 1) ∧ X 3 = 1
def xv (X : tT) : Int := 2 * X 0 + (if X 1 < X 2 then 1 else 0)
theorem xv_tow {X row : Int → Int} (h : X 2 = X 1 + 1 ∨ X 2 = X 1 - 1) (h2 : row (X 0) = X 1) : tow row (X 0) (xv X % 2) = X 2 := by
  unfold tow xv
  rw [h2]
  split <;> split <;> omega
theorem go_x {t X : tT} (W : WS t) (V : XV t X) {wn : Int → Bool} {s v : Int} (h0 : 0 ≤ v) (h1 : v < 2 * nb t) :
    go t true X wn s v = if v = xv X ∧ wn (X 0) = false ∧ abl t (dg t s) v = true ∧ dg t s (X 0) = X 1 then (hld t (dg t s) (X 0) (X 1) (X 2) || xh X (dg t s)) else go t false X0 wn s v := by
  obtain ⟨v1, v2, v3, v4, v5, v6, v7⟩ := V
  have hw : ∀ x Y, why t x Y (dg t s) wn (v / 2) (v % 2) = if tow (dg t s) (v / 2) (v % 2) < 0 ∨ pl t (v / 2) ≤ tow (dg t s) (v / 2) (v % 2) then 2 else if abl t (dg t s) v = false then 3 else if wn (v / 2) = true then 0 else if (hld t (dg t s) (v / 2) (dg t s (v / 2)) (tow (dg t s) (v / 2) (v % 2)) || (x && xm Y (v / 2) (dg t s (v / 2)) (tow (dg t s) (v / 2) (v % 2)) && xh Y (dg t s))) = true then 0 else if (rld t (v / 2) (dg t s (v / 2)) (tow (dg t s) (v / 2) (v % 2)) || (x && xm Y (v / 2) (dg t s (v / 2)) (tow (dg t s) (v / 2) (v % 2)))) = true then 4 else 0 := fun x Y => by
    unfold why
    rw [if_neg (by omega)]
    by_cases g : tow (dg t s) (v / 2) (v % 2) < 0 ∨ pl t (v / 2) ≤ tow (dg t s) (v / 2) (v % 2)
    · rw [if_pos g, if_pos g]
    · rw [if_neg g, if_neg g]
      by_cases g2 : v / 2 < ne t ∧ dg t s (v / 2) + tow (dg t s) (v / 2) (v % 2) = 1 ∧ fre (dg t s) (v / 2) = false
      · rw [if_pos g2, if_pos]
        unfold abl
        rw [decide_eq_true g2.1, decide_eq_true g2.2.1, g2.2.2]; simp
      · rw [if_neg g2, if_neg (show ¬ abl t (dg t s) v = false from ?_)]
        unfold abl
        rw [decide_eq_true (show 0 ≤ tow (dg t s) (v / 2) (v % 2) by omega), decide_eq_true (show tow (dg t s) (v / 2) (v % 2) < pl t (v / 2) by omega)]
        simp only [Bool.true_and, Bool.not_eq_false', Bool.and_eq_true, decide_eq_true_eq, Bool.not_eq_true', not_and, Bool.not_eq_false]
        intro q1
        cases hf : fre (dg t s) (v / 2)
        · exact absurd ⟨q1.1, q1.2, hf⟩ g2
        · rfl
  unfold go
  rw [hw, hw]
  by_cases g : tow (dg t s) (v / 2) (v % 2) < 0 ∨ pl t (v / 2) ≤ tow (dg t s) (v / 2) (v % 2)
  · have ha : abl t (dg t s) v = false := by
      unfold abl
      rcases g with g | g
      · rw [decide_eq_false (show ¬ 0 ≤ tow (dg t s) (v / 2) (v % 2) by omega)]; rfl
      · rw [decide_eq_false (show ¬ tow (dg t s) (v / 2) (v % 2) < pl t (v / 2) by omega)]; simp
    rw [if_pos g, if_pos g, if_neg (by rw [ha]; rintro ⟨-, -, q, -⟩; cases q)]
  · rw [if_neg g, if_neg g]
    cases ha : abl t (dg t s) v
    · rw [if_pos rfl, if_pos rfl, if_neg (by rintro ⟨-, -, q, -⟩; cases q)]
    · rw [if_neg (show ¬ (true = false) by decide), if_neg (show ¬ (true = false) by decide)]
      by_cases gv : v = xv X ∧ dg t s (X 0) = X 1
      · have hv2 : v / 2 = X 0 := by unfold xv at gv; split at gv <;> omega
        have htow : tow (dg t s) (X 0) (v % 2) = X 2 := by rw [gv.1]; exact xv_tow v4 gv.2
        have hxm : xm X (X 0) (X 1) (X 2) = true := by unfold xm; simp
        rw [hv2, gv.2, htow, hxm]
        cases wn (X 0)
        · rw [if_pos (show v = xv X ∧ false = false ∧ true = true ∧ X 1 = X 1 from ⟨gv.1, rfl, rfl, rfl⟩)]
          cases hld t (dg t s) (X 0) (X 1) (X 2) <;> cases xh X (dg t s) <;> cases rld t (X 0) (X 1) (X 2) <;> simp
        · rw [if_neg (show ¬ (v = xv X ∧ true = false ∧ true = true ∧ X 1 = X 1) by rintro ⟨-, q, -, -⟩; cases q)]
          simp
      · have hxm : xm X (v / 2) (dg t s (v / 2)) (tow (dg t s) (v / 2) (v % 2)) = false := by
          rw [Bool.eq_false_iff]
          intro q
          unfold xm at q
          simp only [Bool.and_eq_true, decide_eq_true_eq] at q
          obtain ⟨⟨q1, q2⟩, q3⟩ := q
          apply gv
          rw [q1]
          refine ⟨?_, q2.symm⟩
          unfold tow at q3
          unfold xv
          split at q3 <;> split <;> omega
        rw [if_neg (show ¬ (v = xv X ∧ wn (X 0) = false ∧ true = true ∧ dg t s (X 0) = X 1) by rintro ⟨q1, -, -, q2⟩; exact gv ⟨q1, q2⟩), hxm]
        simp
def KQ (E : Int → tT) (M : aM) (L : Int → Int) (t : tT) : Prop := BR5 M t ∧ WS t ∧ RW t (pa t) ∧ Sq t (E (M 5 0)) ∧ (0 ≤ M 5 0 ∧ M 5 0 ≤ M 1 4) ∧ IG E M L ∧ IP E M L 48 49 50 false ∧ IP E M L 51 52 53 true ∧ IP E M L 54 55 56 false
theorem KQ.R {E : Int → tT} {M : aM} {L : Int → Int} {t : tT} (B : KQ E M L t) : BR5 M t := B.1
theorem KQ.W {E : Int → tT} {M : aM} {L : Int → Int} {t : tT} (B : KQ E M L t) : WS t := B.2.1
theorem KQ.D {E : Int → tT} {M : aM} {L : Int → Int} {t : tT} (B : KQ E M L t) : RW t (pa t) := B.2.2.1
theorem KQ.S {E : Int → tT} {M : aM} {L : Int → Int} {t : tT} (B : KQ E M L t) : Sq t (E (M 5 0)) := B.2.2.2.1
theorem KQ.e {E : Int → tT} {M : aM} {L : Int → Int} {t : tT} (B : KQ E M L t) : 0 ≤ M 5 0 ∧ M 5 0 ≤ M 1 4 := B.2.2.2.2.1
theorem KQ.G {E : Int → tT} {M : aM} {L : Int → Int} {t : tT} (B : KQ E M L t) : IG E M L := B.2.2.2.2.2.1
theorem KQ.p1 {E : Int → tT} {M : aM} {L : Int → Int} {t : tT} (B : KQ E M L t) : IP E M L 48 49 50 false := B.2.2.2.2.2.2.1
theorem KQ.p2 {E : Int → tT} {M : aM} {L : Int → Int} {t : tT} (B : KQ E M L t) : IP E M L 51 52 53 true := B.2.2.2.2.2.2.2.1
theorem KQ.p3 {E : Int → tT} {M : aM} {L : Int → Int} {t : tT} (B : KQ E M L t) : IP E M L 54 55 56 false := B.2.2.2.2.2.2.2.2
theorem KS.q {E : Int → tT} {M : aM} {L : Int → Int} {t : tT} (K : KS E M L t) : KQ E M L t := ⟨K.R, K.W, K.D, K.S, K.e, K.G, K.p1, K.p2, K.p3⟩
theorem KQ.ks {E : Int → tT} {M : aM} {L : Int → Int} {t : tT} (K : KQ E M L t) (N : IN E M) : KS E M L t := ⟨K.R, K.W, K.D, K.S, K.e, K.G, K.p1, K.p2, K.p3, N⟩
theorem KQ.keep {E : Int → tT} {M M' : aM} {L L' : Int → Int} {t : tT} (K : KQ E M L t) (h : ∀ v, (v = 1 ∨ (5 ≤ v ∧ v ≤ 17) ∨ v = 41 ∨ v = 42 ∨ (44 ≤ v ∧ v ≤ 46) ∨ (48 ≤ v ∧ v ≤ 56)) → M' v = M v) (hL : ∀ v, (v = 1 ∨ (5 ≤ v ∧ v ≤ 17) ∨ v = 41 ∨ v = 42 ∨ (44 ≤ v ∧ v ≤ 46) ∨ (48 ≤ v ∧ v ≤ 56)) → L' v = L v) : KQ E M' L' t := by
  refine ⟨K.R.eq (fun v g0 g1 => h v (by omega)), K.W, K.D, by rw [h 5 (by omega)]; exact K.S, by rw [h 5 (by omega), h 1 (by omega)]; exact K.e, K.G.keep (fun v hv => h v ?_) (fun v hv => hL v ?_),
    K.p1.keep (h _ (by omega)) (h _ (by omega)) (h _ (by omega)) (h _ (by omega)) (hL _ (by omega)) (hL _ (by omega)), K.p2.keep (h _ (by omega)) (h _ (by omega)) (h _ (by omega)) (h _ (by omega)) (hL _ (by omega)) (hL _ (by omega)), K.p3.keep (h _ (by omega)) (h _ (by omega)) (h _ (by omega)) (h _ (by omega)) (hL _ (by omega)) (hL _ (by omega))⟩
  · simp only [List.mem_cons, List.not_mem_nil, or_false] at hv; omega
  · simp only [List.mem_cons, List.not_mem_nil, or_false] at hv; omega
section
variable {h : mH} {c : Int} {p L : Int → Int} {M : aM} {E : Int → tT}
theorem s_asideQ (A : At h c p L M) {t : tT} (K : KQ E M L t) (hS2 : nS t ≤ 20000) (G : GS M L t) {nx : Int → Int → Int} (N : NX nx (nK t) (nN t)) (F47 : GF M 47 (nK t) (nN t) nx) (hL : nS t ≤ L 47) {z goal : Int} (hz0 : 0 ≤ z) (hz1 : z < nS t) (hg0 : 0 ≤ goal) (hg1 : goal < nS t) :
    ∃ h' p' L' M', f_Paths_spread h 54 41 (p 47) z goal = some ((3, 0), h') ∧ At h' c p' L' M' ∧ Of [55, 56] p p' ∧ Of [55, 56] L L' ∧ Fr [54, 55, 56] M M' ∧ KQ E M' L' t ∧ f_Paths_farOf h' 54 goal = some ((0, bF (bfs nx (nK t) (nN t) z) goal), h') := by
  have hk : PK 54 55 56 := by unfold PK; decide
  have hnn := nN_eq K.W
  have hkk := nK_rng K.W
  have hS := nS_rng K.W
  obtain ⟨h1, p1, L1, M1, f1, A1, op, oL, lf, lo, F, v3, j, Q, hj⟩ := s_Paths_spread A hk (n := nN t) (K := nK t) (by omega) (by omega) hkk.1 (by rw [hkk.2]; exact G.1.2.1) (by rw [hnn]; exact G.1.1) (g := 47) (Or.inr rfl) (by rw [hnn]; exact hL) N (Or.inl ⟨K.p3.2.2, F47⟩) (GS_42 K.W G) (z := z) (goal := goal) hz0 (by omega)
  have hF : Fr [54, 55, 56] M M1 := fun v hv => by
    simp only [List.mem_cons, List.not_mem_nil, or_false, not_or] at hv
    exact F.1 v (by simp; omega) (by omega)
  have m1 : M1 1 = M 1 := hF 1 (by decide)
  refine ⟨h1, p1, L1, M1, f1, A1, op, oL, hF, ⟨K.R.eq (fun v g0 g1 => hF v (by simp; omega)), K.W, K.D, by rw [hF 5 (by decide)]; exact K.S, by rw [m1, hF 5 (by decide)]; exact K.e, K.G.keep (fun v hv => hF v (by
    simp only [List.mem_cons, List.not_mem_nil, or_false] at hv
    rcases hv with rfl | rfl | rfl | rfl | rfl | rfl <;> decide)) (fun v hv => oL v (by
    simp only [List.mem_cons, List.not_mem_nil, or_false] at hv
    rcases hv with rfl | rfl | rfl <;> decide)), K.p1.keep m1 (hF _ (by decide)) (hF _ (by decide)) (hF _ (by decide)) (oL _ (by decide)) (oL _ (by decide)), K.p2.keep m1 (hF _ (by decide)) (hF _ (by decide)) (hF _ (by decide)) (oL _ (by decide)) (oL _ (by decide)),
    ⟨Or.inl v3, by rw [F.2 1 (by decide), m1]; exact K.p3.2.1, by rw [F.2 0 (by decide)]; exact K.p3.2.2⟩⟩, ?_⟩
  rw [s_Paths_farOf A1 hk, if_pos ⟨hg0, by omega⟩, Q.1 goal hg0 (by omega)]
  congr 3
  rcases hj with hj | ⟨-, -, hj⟩
  · rw [bfs_end N hz0 (by omega) hj]
  · rw [Q.1 goal hg0 (by omega)] at hj
    exact bfs_far N hz0 (by omega) hj
/-- the rule as the class writes it -/
def RXm (M : aM) (X : tT) : Prop := M 66 1 = X 0 ∧ M 66 2 = X 1 ∧ M 66 3 = X 2 ∧ M 66 4 = X 4 ∧ M 66 5 = X 5 ∧ M 66 6 = X 6
theorem s_Graph_digit (A : At h c p L M) {t : tT} (R : BR5 M t) (W : WS t) (G : GS M L t) {s b : Int} (h0 : 0 ≤ s) (h1 : s < 2147483648) (hb0 : 0 ≤ b) (hb1 : b < nb t) : f_Graph_digit h 41 5 s b = some ((0, dg t s b), h) := by
  have C := A.gr
  have B := BH.of5 A R
  have hn := W.1
  have hw := wg_rng W hb0 hb1
  have hp := W.2.2.2.2.2.1 b hb0 hb1
  have hd : 0 ≤ s / wg t b := Int.ediv_nonneg h0 (by omega)
  have hd2 : s / wg t b ≤ s := Int.ediv_le_self _ h0
  unfold f_Graph_digit
  simp only [C]
  rw [chk_t trivial, chk_t trivial, w32_2b hb0 (by omega), w32_id (by omega) (by omega), chk_t (by omega), wtv, G.2.1 _ (by omega) (by omega), sf_odd, chk_t B.T, chk_t B.T6, chk_t (by rw [B.L6]; omega), wtv, B.V6 b hb0 hb1, if_neg (by omega), if_neg (by omega), chk_t (by omega), chk_t (by omega), Int.tdiv_eq_ediv_of_nonneg h0, w32_id (by omega) (by omega), Int.tmod_eq_emod_of_nonneg hd]
  rfl
theorem s_Graph_notchMore (A : At h c p L M) {t : tT} (K : KQ E M L t) (hS2 : nS t ≤ 20000) (G : GP M M L t) {X : tT} (V : XV t X) (RX : RXm M X) :
    ∃ h' p' L' M', f_Graph_notchMore h 41 5 66 (b2i (rld t (X 0) (X 1) (X 2))) = some ((3, 0), h') ∧ At h' c p' L' M' ∧ Of [47] p p' ∧ Of [47] L L' ∧ Fr [47] M M' ∧ GG M' L' 47 t (fun s v => go t true X (wS t) s v) := by
  have C := A.gr
  have hkk := nK_rng K.W
  have hnn := nN_eq K.W
  have hn := K.W.1
  have hS := nS_rng K.W
  obtain ⟨v1, v2, v3, v4, v5, v6, v7⟩ := id V
  obtain ⟨r1, r2, r3, r4, r5, r6⟩ := RX
  obtain ⟨q5, h5, f5, t5, p5, L5, M5, A5, l5, op5, oL5, oM5⟩ := s_Nb_grown A (v := 47) (o := 41) (i := 10) (need := nS t) (by decide) (by decide +kernel) (by decide) (by decide) (by decide +kernel) (by decide +kernel) (most := 20000) (by decide +kernel) hS2
  have C5 := A5.gr
  have m41 : M5 41 = M 41 := oM5 41 (by decide)
  have A6 := A5.cpy (a := 46) (d := 47) 0 0 (nS t) (lv_fix _ (by decide) (by decide)) (lv_fix _ (by decide) (by decide)) (by decide +kernel) (by decide +kernel) (by decide)
  have F6 : Fr [47] M (mcp M5 46 0 47 0 (nS t)) := fun v hv => by
    funext j
    unfold mcp
    rw [if_neg (by simp at hv; omega), oM5 v hv]
  have hL46 := G.2.1.1
  have l46 : nS t ≤ L5 46 := by rw [oL5 46 (by decide)]; exact hL46
  have hxv : 0 ≤ xv X ∧ xv X < 2 * nb t ∧ xv X / 2 = X 0 := by unfold xv; split <;> omega
  have C6 := A6.gr
  have D6 := A6.no
  have e1 : mcp M5 46 0 47 0 (nS t) 66 = M 66 := F6 66 (by decide)
  have e41 : mcp M5 46 0 47 0 (nS t) 41 = M 41 := F6 41 (by decide)
  have e47 : ∀ s, 0 ≤ s → s < nS t → mcp M5 46 0 47 0 (nS t) 47 s = mkM (gm t (wB t) s) (nK t) := fun s g0 g1 => by
    show (if (47 : Int) = 47 ∧ 0 ≤ s ∧ s < 0 + nS t then M5 46 (0 + (s - 0)) else M5 47 s) = _
    rw [if_pos (by omega), show 0 + (s - 0) = s by omega, oM5 46 (by decide), G.2.1.2 s g0 g1]
  -- what is told: as long as nothing is written, what goes by goes
  have fin : ∀ h' (A' : ∃ M', At h' c p5 L5 M' ∧ Fr [47] M M' ∧ ∀ s, 0 ≤ s → s < nS t → M' 47 s = mkM (fun v => go t true X (wS t) s v) (nK t)), ∃ h'' p' L' M', (some ((3, 0), h') : Option mR) = some ((3, 0), h'') ∧ At h'' c p' L' M' ∧ Of [47] p p' ∧ Of [47] L L' ∧ Fr [47] M M' ∧ GG M' L' 47 t (fun s v => go t true X (wS t) s v) := fun h' ⟨M', A', F', H⟩ =>
    ⟨h', p5, L5, M', rfl, A', op5, oL5, F', l5, H⟩
  have j49 : ∀ s0 : Int, qshl s0 (2 * X 0) = qshl 1 (xv X) → ∃ h' p' L' M', f_Graph_notchMore_J49 41 5 66 (b2i (rld t (X 0) (X 1) (X 2))) s0 (hcpy (hput h5 41 10 q5) (p5 46) 0 (p5 47) 0 (nS t)) = some ((3, 0), h') ∧ At h' c p' L' M' ∧ Of [47] p p' ∧ Of [47] L L' ∧ Fr [47] M M' ∧ GG M' L' 47 t (fun s v => go t true X (wS t) s v) := by
    intro s0 hs0
    unfold f_Graph_notchMore_J49
    simp only [C6, D6]
    rw [chk_t trivial, chk_t (by decide), e1, r1, w32_2b v1.1 (by omega), hs0, wtv, chk_t trivial, e41, G.2.2.2]
    by_cases gw : wS t (X 0) = false
    · have hz : qand (wB t) (qshl 1 (xv X)) = 0 := (qand_bit (by omega) hxv.1 (by omega)).mpr (by show wS t (xv X / 2) = false; rw [hxv.2.2]; exact gw)
      rw [if_pos hz]
      refine loop_r (F := fun n (b : mH × Int) => f_Graph_notchMore_L71 41 5 66 (b2i (rld t (X 0) (X 1) (X 2))) (qshl 1 (xv X)) n b.1 b.2) (P := fun r => ∃ h' p' L' M', r = some ((3, 0), h') ∧ At h' c p' L' M' ∧ Of [47] p p' ∧ Of [47] L L' ∧ Fr [47] M M' ∧ GG M' L' 47 t (fun s v => go t true X (wS t) s v)) (fun i b => b.2 = (i : Int) ∧ ∃ M', At b.1 c p5 L5 M' ∧ Fr [47] M M' ∧ ∀ s, 0 ≤ s → s < nS t → M' 47 s = if s < (i : Int) then mkM (fun v => go t true X (wS t) s v) (nK t) else mkM (gm t (wB t) s) (nK t)) (nN t) (fun i hi b hb n => ?_) (fun b hb n => ?_) (i := 0) (b := (hcpy (hput h5 41 10 q5) (p5 46) 0 (p5 47) 0 (nS t), 0)) ⟨rfl, _, A6, F6, fun s g0 g1 => by rw [if_neg (by omega)]; exact e47 s g0 g1⟩ (by omega) (by omega)
      · obtain ⟨h7, r⟩ := b
        obtain ⟨hr_, M7, A7_, F7, hv⟩ := hb
        have hr : r = (i : Int) := hr_
        have A7 : At h7 c p5 L5 M7 := A7_
        clear hr_ A7_
        subst hr
        right
        have C7 := A7.gr
        have D7 := A7.no
        have R7 : BR5 M7 t := K.R.eq (fun v g0 g1 => F7 v (by simp; omega))
        have G7 : GS M7 L5 t := GS_fr G.1 (fun v hv => F7 v (by
          simp only [List.mem_cons, List.not_mem_nil, or_false] at hv
          rcases hv with rfl | rfl | rfl <;> decide)) (fun i hi => by rw [F7 41 (by decide)]) (fun v hv => by
          simp only [List.mem_cons, List.not_mem_nil, or_false] at hv
          rcases hv with rfl | rfl <;> rw [oL5 _ (by decide)])
        have e66 : M7 66 = M 66 := F7 66 (by decide)
        have hLt := G7.2.2.2.2
        have cur : M7 47 i = mkM (gm t (wB t) i) (nK t) := by rw [hv i (by omega) (by omega), if_neg (by omega)]
        -- the place i is as it should be, whatever was written there
        have put : ∀ (m : Int), m = mkM (fun v => go t true X (wS t) i v) (nK t) → ∃ b' : mH × Int, (b'.2 = ((i + 1 : Nat) : Int) ∧ ∃ M', At b'.1 c p5 L5 M' ∧ Fr [47] M M' ∧ ∀ s, 0 ≤ s → s < nS t → M' 47 s = if s < ((i + 1 : Nat) : Int) then mkM (fun v => go t true X (wS t) s v) (nK t) else mkM (gm t (wB t) s) (nK t)) ∧ f_Graph_notchMore_J200 (f_Graph_notchMore_L71 41 5 66 (b2i (rld t (X 0) (X 1) (X 2))) (qshl 1 (xv X)) n) i (hput h7 (p5 47) i m) = f_Graph_notchMore_L71 41 5 66 (b2i (rld t (X 0) (X 1) (X 2))) (qshl 1 (xv X)) n b'.1 b'.2 := fun m hm => by
          have A8 := A7.gput (v := 47) i m (by decide) (by decide) (by decide +kernel) (by decide) (by decide)
          refine ⟨(hput h7 (p5 47) i m, ((i + 1 : Nat) : Int)), ⟨rfl, _, A8, F7.pu (by decide), fun s g0 g1 => ?_⟩, ?_⟩
          · by_cases q : s = i
            · rw [q, mup_eq, if_pos (by omega), hm]
            · rw [mup_ne (Or.inr q), hv s g0 g1]
              by_cases q2 : s < (i : Int)
              · rw [if_pos q2, if_pos (by omega)]
              · rw [if_neg q2, if_neg (by omega)]
          · unfold f_Graph_notchMore_J200; rw [wtv, w32_n i (by omega)]
        have keep : mkM (gm t (wB t) i) (nK t) = mkM (fun v => go t true X (wS t) i v) (nK t) → ∃ b' : mH × Int, (b'.2 = ((i + 1 : Nat) : Int) ∧ ∃ M', At b'.1 c p5 L5 M' ∧ Fr [47] M M' ∧ ∀ s, 0 ≤ s → s < nS t → M' 47 s = if s < ((i + 1 : Nat) : Int) then mkM (fun v => go t true X (wS t) s v) (nK t) else mkM (gm t (wB t) s) (nK t)) ∧ f_Graph_notchMore_J200 (f_Graph_notchMore_L71 41 5 66 (b2i (rld t (X 0) (X 1) (X 2))) (qshl 1 (xv X)) n) i h7 = f_Graph_notchMore_L71 41 5 66 (b2i (rld t (X 0) (X 1) (X 2))) (qshl 1 (xv X)) n b'.1 b'.2 := fun hm => by
          refine ⟨(h7, ((i + 1 : Nat) : Int)), ⟨rfl, M7, A7, F7, fun s g0 g1 => ?_⟩, ?_⟩
          · rw [hv s g0 g1]
            by_cases q2 : s < (i : Int)
            · rw [if_pos q2, if_pos (by omega)]
            · rw [if_neg q2]
              by_cases q : s = i
              · rw [if_pos (by omega), q, hm]
              · rw [if_neg (by omega)]
          · unfold f_Graph_notchMore_J200; rw [wtv, w32_n i (by omega)]
        have same : (∀ v : Int, 0 ≤ v → v < 2 * nb t → go t true X (wS t) i v = gs t i v) → mkM (gm t (wB t) i) (nK t) = mkM (fun v => go t true X (wS t) i v) (nK t) := fun q => mkM_congr (fun v g0 g1 => by rw [q v g0 (by omega), gm_gs K.W g0 (by omega)])
        show ∃ b' : mH × Int, _ ∧ f_Graph_notchMore_L71 41 5 66 (b2i (rld t (X 0) (X 1) (X 2))) (qshl 1 (xv X)) (n + 1) h7 i = _
        rw [f_Graph_notchMore_L71]
        simp only [C7, D7]
        rw [chk_t trivial, G7.1.1, if_neg (by omega), chk_t trivial, chk_t trivial, chk_t (by omega), G7.2.2.1 i (by omega) (by omega)]
        by_cases g1 : abl t (dg t i) (xv X) = false
        · rw [if_pos ((qand_bit (by omega) hxv.1 (by omega)).mpr g1)]
          refine keep (same (fun v g0 g2 => ?_))
          rw [go_x K.W V g0 g2, if_neg (by rintro ⟨q1, -, q2, -⟩; rw [q1, g1] at q2; cases q2)]
        · have g1' : abl t (dg t i) (xv X) = true := by
            cases q : abl t (dg t i) (xv X)
            · exact absurd q g1
            · rfl
          rw [if_neg (fun e => g1 ((qand_bit (by omega) hxv.1 (by omega)).mp e)), chk_t trivial, chk_t (by decide), chk_t trivial, e66, r1, s_Graph_digit A7 R7 K.W G7 (by omega) (by omega) v1.1 v1.2, bndT_ok (by decide)]
          simp only [C7, D7]
          rw [chk_t trivial, chk_t (by decide), e66, r2]
          by_cases g2 : dg t i (X 0) = X 1
          · rw [if_pos g2, chk_t trivial, chk_t (by decide), chk_t trivial, r4, s_Graph_digit A7 R7 K.W G7 (by omega) (by omega) v5.1 v5.2, bndT_ok (by decide)]
            simp only [C7, D7]
            rw [chk_t trivial, chk_t (by decide), e66, r6]
            have hgx : ∀ v : Int, 0 ≤ v → v < 2 * nb t → go t true X (wS t) i v = if v = xv X then (hld t (dg t i) (X 0) (X 1) (X 2) || xh X (dg t i)) else gs t i v := fun v g0 g3 => by
              rw [go_x K.W V g0 g3]
              by_cases q : v = xv X
              · rw [if_pos ⟨q, gw, by rw [q]; exact g1', g2⟩, if_pos q]
              · rw [if_neg (fun e => q e.1), if_neg q]
            have hgs : gs t i (xv X) = !(rld t (X 0) (X 1) (X 2) && !hld t (dg t i) (X 0) (X 1) (X 2)) := by
              have htow : tow (dg t i) (X 0) (xv X % 2) = X 2 := xv_tow v4 g2
              show go t false X0 (wS t) i (xv X) = _
              rw [go_mask hxv.1 hxv.2.1, g1', hxv.2.2, gw]
              unfold shu
              rw [hxv.2.2, g2, htow]; simp
            have j151 : ∀ H : Bool, H = xh X (dg t i) → ∃ b' : mH × Int, (b'.2 = ((i + 1 : Nat) : Int) ∧ ∃ M', At b'.1 c p5 L5 M' ∧ Fr [47] M M' ∧ ∀ s, 0 ≤ s → s < nS t → M' 47 s = if s < ((i + 1 : Nat) : Int) then mkM (fun v => go t true X (wS t) s v) (nK t) else mkM (gm t (wB t) s) (nK t)) ∧ f_Graph_notchMore_J151 (f_Graph_notchMore_L71 41 5 66 (b2i (rld t (X 0) (X 1) (X 2))) (qshl 1 (xv X)) n) 41 (b2i (rld t (X 0) (X 1) (X 2))) (qshl 1 (xv X)) i (b2i H) h7 = f_Graph_notchMore_L71 41 5 66 (b2i (rld t (X 0) (X 1) (X 2))) (qshl 1 (xv X)) n b'.1 b'.2 := fun H hH => by
              unfold f_Graph_notchMore_J151 f_Graph_notchMore_J177
              simp only [C7]
              rw [cur]
              have bits : ∀ m : Int, -2147483648 ≤ m ∧ m < 2147483648 → (∀ j : Nat, j < 32 → bt m j = (decide (j < nK t) && if (j : Int) = xv X then (hld t (dg t i) (X 0) (X 1) (X 2) || H) else gs t i j)) → m = mkM (fun v => go t true X (wS t) i v) (nK t) := fun m hm hb => mkM_ext (by omega) hm (fun j hj => by
                rw [hb j hj]
                by_cases q : j < nK t
                · rw [hgx j (by omega) (by omega), hH]
                · rw [decide_eq_false q]; rfl)
              have bgm : ∀ j : Nat, j < 32 → bt (mkM (gm t (wB t) i) (nK t)) j = (decide (j < nK t) && gs t i j) := fun j hj => by
                rw [bt_mkM _ (by omega) hj]
                by_cases q : j < nK t
                · rw [gm_gs K.W (by omega) (by omega)]
                · rw [decide_eq_false q]; rfl
              have hjx : ∀ j : Nat, (j : Int) = xv X → decide (j < nK t) = true := fun j e => decide_eq_true (by omega)
              cases H
              · rw [if_pos (b2i_0.mpr rfl), if_pos (b2i_0.mpr rfl)]
                cases hr : rld t (X 0) (X 1) (X 2)
                · rw [if_pos (b2i_0.mpr rfl), chk_t trivial, chk_t trivial, chk_t (by omega), chk_t trivial, chk_t (by omega), wth]
                  have hh : hld t (dg t i) (X 0) (X 1) (X 2) = false := by
                    rw [Bool.eq_false_iff]; intro q; have := hld_rld q; rw [hr] at this; cases this
                  rw [hr] at put
                  refine put _ (bits _ (qand_rng _ _) (fun j hj => ?_))
                  rw [bt_qand, bt_qxor, bt_m1 hj, Bool.xor_true, bgm j hj, bt_shl1 hxv.1 (by omega) hj, hh]
                  by_cases q : (j : Int) = xv X
                  · rw [decide_eq_true q, if_pos q]; simp
                  · rw [decide_eq_false q, if_neg q]; simp
                · rw [if_neg (by decide)]
                  rw [hr] at keep
                  refine keep (bits _ (mkM_rng _ _) (fun j hj => ?_))
                  rw [bgm j hj]
                  by_cases q : (j : Int) = xv X
                  · rw [if_pos q, q, hgs, hr]; simp
                  · rw [if_neg q]
              · rw [if_neg (by decide)]
                cases hr : rld t (X 0) (X 1) (X 2)
                · rw [if_pos (b2i_0.mpr rfl), if_neg (by decide)]
                  rw [hr] at keep
                  refine keep (bits _ (mkM_rng _ _) (fun j hj => ?_))
                  rw [bgm j hj]
                  by_cases q : (j : Int) = xv X
                  · rw [if_pos q, q, hgs, hr]; simp
                  · rw [if_neg q]
                · rw [if_neg (by decide), chk_t trivial, chk_t trivial, chk_t (by omega), chk_t trivial, chk_t (by omega), wth]
                  rw [hr] at put
                  refine put _ (bits _ (qor_rng _ _) (fun j hj => ?_))
                  rw [bt_qor, bgm j hj, bt_shl1 hxv.1 (by omega) hj]
                  by_cases q : (j : Int) = xv X
                  · rw [decide_eq_true q, if_pos q, hjx j q]; simp
                  · rw [decide_eq_false q, if_neg q]; simp
            have j131 : ∀ P : Bool, P = decide (dg t i (X 4) = X 6) → ∃ b' : mH × Int, (b'.2 = ((i + 1 : Nat) : Int) ∧ ∃ M', At b'.1 c p5 L5 M' ∧ Fr [47] M M' ∧ ∀ s, 0 ≤ s → s < nS t → M' 47 s = if s < ((i + 1 : Nat) : Int) then mkM (fun v => go t true X (wS t) s v) (nK t) else mkM (gm t (wB t) s) (nK t)) ∧ f_Graph_notchMore_J131 (f_Graph_notchMore_L71 41 5 66 (b2i (rld t (X 0) (X 1) (X 2))) (qshl 1 (xv X)) n) 41 66 (b2i (rld t (X 0) (X 1) (X 2))) (qshl 1 (xv X)) i (b2i P) h7 = f_Graph_notchMore_L71 41 5 66 (b2i (rld t (X 0) (X 1) (X 2))) (qshl 1 (xv X)) n b'.1 b'.2 := fun P hP => by
              unfold f_Graph_notchMore_J131 f_Graph_notchMore_J143
              simp only [D7]
              rw [chk_t trivial, chk_t (by decide), e66, r5]
              have hxh : xh X (dg t i) = (P == decide (X 5 = 0)) := by unfold xh; rw [hP]
              rcases v6 with v6 | v6
              · rw [if_neg (by omega)]
                rw [v6] at hxh
                cases P
                · rw [if_pos (by rfl)]; exact j151 false (by rw [hxh]; rfl)
                · rw [if_neg (by decide)]; exact j151 true (by rw [hxh]; rfl)
              · rw [if_pos v6]
                rw [v6] at hxh
                cases P
                · rw [if_neg (by decide)]; exact j151 true (by rw [hxh]; rfl)
                · rw [if_pos (by rfl)]; exact j151 false (by rw [hxh]; rfl)
            by_cases g3 : dg t i (X 4) = X 6
            · rw [if_pos g3]; exact j131 true (decide_eq_true g3).symm
            · rw [if_neg g3]; exact j131 false (decide_eq_false g3).symm
          · rw [if_neg g2]
            refine keep (same (fun v g0 g3 => ?_))
            rw [go_x K.W V g0 g3, if_neg (by rintro ⟨-, -, -, q⟩; exact g2 q)]
      · obtain ⟨h7, r⟩ := b
        obtain ⟨hr_, M7, A7_, F7, hv⟩ := hb
        have hr : r = ((nN t : Nat) : Int) := hr_
        have A7 : At h7 c p5 L5 M7 := A7_
        clear hr_ A7_
        have C7 := A7.gr
        have e2 : M7 41 2 = nS t := by rw [F7 41 (by decide)]; exact G.1.1.1
        show ∃ h' p' L' M', f_Graph_notchMore_L71 41 5 66 (b2i (rld t (X 0) (X 1) (X 2))) (qshl 1 (xv X)) (n + 1) h7 r = some ((3, 0), h') ∧ _
        rw [f_Graph_notchMore_L71]
        simp only [C7]
        rw [chk_t trivial, e2, if_pos (by omega)]
        exact fin h7 ⟨M7, A7, F7, fun s g0 g1 => by rw [hv s g0 g1, if_pos (by omega)]⟩
    · have gw' : wS t (X 0) = true := by
        cases q : wS t (X 0)
        · exact absurd q gw
        · rfl
      rw [if_neg (fun e => gw (by have := (qand_bit (by omega) hxv.1 (by omega)).mp e; rw [← hxv.2.2]; exact this))]
      refine fin _ ⟨_, A6, F6, fun s g0 g1 => ?_⟩
      rw [e47 s g0 g1]
      refine mkM_congr (fun v g2 g3 => ?_)
      rw [gm_gs K.W g2 (by omega), go_x K.W V g2 (by omega), if_neg (by rintro ⟨-, q, -, -⟩; rw [gw'] at q; cases q)]
  unfold f_Graph_notchMore
  simp only [C]
  rw [chk_t trivial, chk_t trivial, G.1.1.1, f5, bndR_ok, t5, chk_t (by decide +kernel), wth]
  simp only [C5]
  rw [chk_t trivial, chk_t trivial, chk_t trivial, m41, G.1.1.1, chk_t (by refine ⟨trivial, trivial, ?_, ?_, ?_, ?_, ?_⟩ <;> omega), wth]
  simp only [D6]
  rw [chk_t trivial, chk_t (by decide), chk_t trivial, chk_t (by decide), e1, r3, r2]
  by_cases g : X 2 ≤ X 1
  · rw [if_pos g]
    exact j49 1 (by unfold xv; rw [if_neg (by omega), Int.add_zero])
  · rw [if_neg g]
    exact j49 2 (by unfold xv; rw [if_pos (by omega), qshl_2 (by omega) (by omega)])
end
