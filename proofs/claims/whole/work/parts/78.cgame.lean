/-! TWO BY TURNS, in the class -/
def GQ (M : aM) (t : tT) (S : tB) (LF : Int → Int) : Prop := PI M 61 63 (M 60 3) (2 * nS t) S ∧ ∀ s, 0 ≤ s → s < nS t → M 62 s = LF s
def GLn (L : Int → Int) (t : tT) : Prop := 2 * nS t ≤ L 61 ∧ nS t ≤ L 62 ∧ 2 * nS t ≤ L 63
abbrev FJ : aM → aM → Prop := Fs [61, 62, 63] 60 [3]
section
variable {h : mH} {c : Int} {p L : Int → Int} {M : aM} {t : tT} {S : tB} {LF : Int → Int}
theorem GP.fj {M M' : aM} {L : Int → Int} (G : GP M M L t) (F : FJ M M') : GP M' M' L t := G.fr (fun v hv => F.1 v (by
  simp only [List.mem_cons, List.not_mem_nil, or_false] at hv ⊢; omega) (by
  simp only [List.mem_cons, List.not_mem_nil, or_false] at hv; omega)) (fun _ _ => rfl)
theorem s_Game_settle (A : At h c p L M) (W : WS t) (hS2 : nS t ≤ 20000) (Q : GQ M t S LF) (Ln : GLn L t) (B : CI (NN t) S) {n d : Int} (h0 : 0 ≤ n) (h1 : n < 2 * nS t) : ∃ h' M', f_Game_settle h 60 n d = some ((3, 0), h') ∧ At h' c p L M' ∧ FJ M M' ∧ GQ M' t (tk S n d) LF := by
  have C := A.ga
  have hN := NN_eq W
  obtain ⟨l1, l2, l3⟩ := Ln
  obtain ⟨Q, QL⟩ := Q
  unfold f_Game_settle tk
  rw [if_neg (by omega)]
  simp only [C, wth]
  rw [chk_t trivial, chk_t (Nat.le_refl _), if_neg (by omega), chk_t trivial, chk_t trivial, chk_t (by omega), Q.1 n h0 h1]
  by_cases e : bF S n = -1
  · have hm2 : bM S < (NN t : Int) := by rw [B.1]; exact cn_full e h0 (by omega)
    have hmany := Q.2.2
    have hb0 := B.2
    have A2 := A.gput (v := 61) n d (by decide) (by decide) (by decide +kernel) (by decide) (by decide)
    have C2 := A2.ga
    have A3 := A2.gput (v := 63) (bM S) n (by decide) (by decide) (by decide +kernel) (by decide) (by decide)
    have C3 := A3.ga
    have A4 := A3.fput (v := 60) (i := 3) (bM S + 1) (by decide) (by decide) (by decide) (by decide +kernel) (by decide)
    refine ⟨_, _, ?_, A4, (((Fs.rf _ _ _ _).pu (by decide) (by decide)).pu (by decide) (by decide)).ps (by decide), ?_⟩
    · rw [if_pos e, chk_t trivial, chk_t trivial, chk_t (Nat.le_refl _), hmany, if_neg (by omega), chk_t trivial, chk_t trivial, chk_t (by omega)]
      simp only [C2]
      rw [mup_fn (by decide), hmany, chk_t trivial, chk_t trivial, chk_t trivial, chk_t (by omega)]
      simp only [C3]
      rw [mup_fn (by decide), mup_fn (by decide), hmany, chk_t trivial, chk_t trivial, w32_id (by omega) (by omega)]
    · rw [if_pos e]
      refine ⟨⟨fun w g0 g1 => ?_, fun j g0 g1 => ?_, ?_⟩, fun s g0 g1 => ?_⟩
      · rw [mup_fn (by decide), mup_fn (by decide)]
        show mup M 61 n d 61 w = u1 (bF S) n d w
        by_cases e2 : w = n
        · rw [e2, mup_eq, u1_eq]
        · rw [mup_ne (Or.inr e2), u1_ne e2]; exact Q.1 w g0 g1
      · have g1 : j < bM S + 1 := g1
        rw [mup_fn (by decide)]
        show mup (mup M 61 n d) 63 (bM S) n 63 j = u1 (bO S) (bM S) n j
        by_cases e2 : j = bM S
        · rw [e2, mup_eq, u1_eq]
        · rw [mup_ne (Or.inr e2), u1_ne e2, mup_fn (by decide)]; exact Q.2.1 j g0 (by omega)
      · rw [mup_eq]; rfl
      · rw [mup_fn (by decide), mup_fn (by decide), mup_fn (by decide)]; exact QL s g0 g1
  · rw [if_neg e, if_neg e]
    exact ⟨h, M, rfl, A, Fs.rf _ _ _ _, Q, QL⟩
theorem s_Game_isLastOf (A : At h c p L M) (hS2 : nS t ≤ 20000) (Q : GQ M t S LF) (Ln : GLn L t) {u : Int} (h0 : 0 ≤ u) (h1 : u < nS t) (hl : 0 ≤ LF u ∧ LF u ≤ 1000) : ∃ h' M', f_Game_isLastOf h 60 u = some ((0, if LF u - 1 = 0 then 1 else 0), h') ∧ At h' c p L M' ∧ FJ M M' ∧ GQ M' t S (u1 LF u (LF u - 1)) := by
  have C := A.ga
  obtain ⟨l1, l2, l3⟩ := Ln
  obtain ⟨Q, QL⟩ := Q
  have A2 := A.gput (v := 62) u (LF u - 1) (by decide) (by decide) (by decide +kernel) (by decide) (by decide)
  have C2 := A2.ga
  refine ⟨_, _, ?_, A2, (Fs.rf _ _ _ _).pu (by decide) (by decide), ⟨?_, fun s g0 g1 => ?_⟩⟩
  · unfold f_Game_isLastOf
    rw [if_neg (by omega)]
    simp only [C, wth]
    rw [chk_t trivial, chk_t (Nat.le_refl _), if_pos (by omega), chk_t trivial, chk_t trivial, chk_t (by omega), chk_t trivial, chk_t (by omega), QL u h0 h1, w32_id (by omega) (by omega)]
    simp only [C2]
    rw [chk_t trivial, chk_t trivial, chk_t (by omega), mup_eq]
    by_cases e : LF u - 1 = 0
    · rw [if_pos e, if_pos e, chk_t (by decide)]
    · rw [if_neg e, if_neg e, chk_t (by decide)]
  · unfold PI at Q ⊢
    rw [mup_fn (by decide), mup_fn (by decide), mup_fn (by decide)]; exact Q
  · by_cases e : s = u
    · rw [e, mup_eq, u1_eq]
    · rw [mup_ne (Or.inr e), u1_ne e]; exact QL s g0 g1
theorem s_Game_turnsOf (A : At h c p L M) (Q : GQ M t S LF) (Ln : GLn L t) {n : Int} (h0 : 0 ≤ n) (h1 : n < 2 * nS t) : f_Game_turnsOf h 60 n = some ((0, bF S n), h) := by
  have C := A.ga
  obtain ⟨l1, l2, l3⟩ := Ln
  unfold f_Game_turnsOf
  rw [if_neg (by omega)]
  simp only [C]
  rw [chk_t trivial, chk_t (Nat.le_refl _), if_neg (by omega), chk_t trivial, chk_t trivial, chk_t (by omega), Q.1.1 n h0 h1]
theorem mkM_0 {f : Int → Bool} {k : Nat} (hk : k ≤ 31) : mkM f k = 0 ↔ anyN f k = false := by
  constructor
  · intro e
    cases g : anyN f k
    · rfl
    · obtain ⟨v, g0, g1, g2⟩ := anyN_iff.mp g
      have := bt_mkM f (n := k) (by omega) (i := v.toNat) (by omega)
      rw [e, bt_0, decide_eq_true (by omega), show ((v.toNat : Nat) : Int) = v by omega, g2] at this
      cases this
  · intro e
    refine (bt_ext (mkM_rng _ _) (by decide) (fun i hi => ?_))
    rw [bt_mkM f (by omega) hi, bt_0]
    by_cases g : i < k
    · cases g2 : f i
      · simp
      · have : anyN f k = true := anyN_iff.mpr ⟨i, by omega, by omega, g2⟩
        rw [this] at e; cases e
    · rw [decide_eq_false g]; rfl
theorem s_Game_settleAhead (A : At h c p L M) (W : WS t) (hS2 : nS t ≤ 20000) (G : GP M M L t) {S0 : tB} {LF0 : Int → Int} {i : Nat} (Q : GQ M t S0 LF0) (Ln : GLn L t) (H : HS t S0 LF0 i) (hi : (i : Int) < bM S0) (h60 : bF S0 (bO S0 i) < 60) :
    ∃ h' M' S LF, f_Game_settleAhead h 60 41 (bO S0 i) = some ((3, 0), h') ∧ At h' c p L M' ∧ FJ M M' ∧ GQ M' t S LF ∧ HS t S LF (i + 1) := by
  obtain ⟨x1, x2, x3, x4⟩ := H.xx W hi
  have hk := nK_rng W
  have hgm : ∀ u : Int, 0 ≤ u → u < nS t → mkM (gm t (wB t) u) (nK t) = mkM (gs t u) (nK t) := fun u g0 g1 => mkM_congr fun v q0 q1 => gm_gs W q0 (by omega)
  have J43 : ∀ h1 M1 S1, At h1 c p L M1 → FJ M M1 → GQ M1 t S1 LF0 → MS t S0 i 0 S1 LF0 → ∀ o : Int, (o = 0 ↔ bO S0 i % 2 = 1) → ∃ h' M' S LF, f_Game_settleAhead_J43 60 41 (bO S0 i / 2) (bF S0 (bO S0 i) + 1) o h1 = some ((3, 0), h') ∧ At h' c p L M' ∧ FJ M M' ∧ GQ M' t S LF ∧ HS t S LF (i + 1) := by
    intro h1 M1 S1 A1 F1 Q1 m1 o ho
    unfold f_Game_settleAhead_J43
    refine loop_r (F := fun n (b : mH × Int) => f_Game_settleAhead_L46 60 41 (bO S0 i / 2) (bF S0 (bO S0 i) + 1) o n b.1 b.2) (P := fun r => ∃ h' M' S LF, r = some ((3, 0), h') ∧ At h' c p L M' ∧ FJ M M' ∧ GQ M' t S LF ∧ HS t S LF (i + 1)) (fun j b => b.2 = (j : Int) ∧ ∃ M' S LF, At b.1 c p L M' ∧ FJ M M' ∧ GQ M' t S LF ∧ MS t S0 i j S LF) (nK t) (fun j hj b hb n => ?_) (fun b hb n => ?_) (i := 0) (b := (h1, 0)) ⟨rfl, M1, S1, LF0, A1, F1, Q1, m1⟩ (by omega) (by omega)
    · obtain ⟨h5, r⟩ := b
      obtain ⟨hr_, M5, S5, LF5, A5_, F5, Q5, m5⟩ := hb
      have hr : r = (j : Int) := hr_
      have A5 : At h5 c p L M5 := A5_
      clear hr_ A5_
      subst hr
      right
      have G5 := G.fj F5
      have C5 := A5.ga
      have D5 := A5.gr
      have e3 : M5 41 3 = 2 * nb t := G5.1.1.2.1
      have e4 : M5 42 j = sf t j := G5.1.2.1 j (by omega) (by omega)
      have hsf := GS_42 W G5.1 j (by omega)
      rw [e4] at hsf
      have hnext : ∀ h6 M6 S6 LF6, At h6 c p L M6 → FJ M M6 → GQ M6 t S6 LF6 → MS t S0 i ((j + 1 : Nat) : Int) S6 LF6 → ∃ b' : mH × Int, (b'.2 = ((j + 1 : Nat) : Int) ∧ ∃ M' S LF, At b'.1 c p L M' ∧ FJ M M' ∧ GQ M' t S LF ∧ MS t S0 i ((j + 1 : Nat) : Int) S LF) ∧ f_Game_settleAhead_J119 (f_Game_settleAhead_L46 60 41 (bO S0 i / 2) (bF S0 (bO S0 i) + 1) o n) j h6 = f_Game_settleAhead_L46 60 41 (bO S0 i / 2) (bF S0 (bO S0 i) + 1) o n b'.1 b'.2 := fun h6 M6 S6 LF6 A6 F6 Q6 m6 => by
        refine ⟨(h6, ((j + 1 : Nat) : Int)), ⟨rfl, M6, S6, LF6, A6, F6, Q6, m6⟩, ?_⟩
        unfold f_Game_settleAhead_J119
        rw [wtv, w32_n j (by omega)]
      show ∃ b' : mH × Int, _ ∧ f_Game_settleAhead_L46 60 41 (bO S0 i / 2) (bF S0 (bO S0 i) + 1) o (n + 1) h5 j = _
      rw [f_Game_settleAhead_L46]
      simp only [D5]
      rw [chk_t trivial, e3, if_neg (by omega), chk_t trivial, chk_t trivial, chk_t (by omega), wtv, e4, w32_id (by omega) (by omega), chk_t trivial, s_Graph_goesFrom A5 W G5.1 G5.2.1, bndT_ok (by decide)]
      by_cases g : (0 ≤ bO S0 i / 2 - sf t j ∧ bO S0 i / 2 - sf t j < nS t) ∧ gs t (bO S0 i / 2 - sf t j) j = true
      · have eb : (decide (0 ≤ bO S0 i / 2 - sf t j) && decide (bO S0 i / 2 - sf t j < nS t) && (decide ((0 : Int) ≤ j) && decide ((j : Int) < 2 * nb t)) && gm t (wB t) (bO S0 i / 2 - sf t j) j) = true := by
          rw [gm_gs W (by omega) (by omega), g.2, decide_eq_true g.1.1, decide_eq_true g.1.2, decide_eq_true (show (0 : Int) ≤ j by omega), decide_eq_true (show (j : Int) < 2 * nb t by omega)]; rfl
        rw [eb, if_neg (by decide)]
        by_cases o0 : o = 0
        · have hm := ms_fst W H hi h60 (by omega) (by omega) m5 (ho.mp o0) g
          obtain ⟨h6, M6, f6, A6, F6, Q6⟩ := s_Game_settle A5 W hS2 Q5 Ln m5.I.1 (n := 2 * (bO S0 i / 2 - sf t j)) (d := bF S0 (bO S0 i) + 1) (by omega) (by omega)
          rw [if_pos o0]
          simp only [C5]
          rw [chk_t trivial, w32_id (by omega) (by omega), f6, bndT_ok (by decide)]
          exact hnext h6 M6 _ _ A6 (F5.tr F6) Q6 (by push_cast; exact hm)
        · have hm := ms_oth W H hi h60 (by omega) (by omega) m5 (by
            have : ¬ bO S0 i % 2 = 1 := fun q => o0 (ho.mpr q)
            omega) g
          have hl := m5.l _ g.1.1 g.1.2
          have hl2 := cnN_rng (fun v => gs t (bO S0 i / 2 - sf t j) v && !ed S0 i j (2 * ((bO S0 i / 2 - sf t j) + sf t v)) v) (nK t)
          rw [← hl] at hl2
          obtain ⟨h6, M6, f6, A6, F6, Q6⟩ := s_Game_isLastOf A5 hS2 Q5 Ln g.1.1 g.1.2 (by omega)
          rw [if_neg o0]
          simp only [C5]
          rw [chk_t trivial, f6, bndT_ok (by decide)]
          by_cases e : LF5 (bO S0 i / 2 - sf t j) - 1 = 0
          · rw [if_pos e] at hm ⊢
            obtain ⟨h7, M7, f7, A7, F7, Q7⟩ := s_Game_settle A6 W hS2 Q6 Ln m5.I.1 (n := 2 * (bO S0 i / 2 - sf t j) + 1) (d := bF S0 (bO S0 i) + 1) (by omega) (by omega)
            have C6 := A6.ga
            rw [if_neg (by decide)]
            simp only [C6]
            rw [chk_t trivial, w32_id (x := 2 * (bO S0 i / 2 - sf t j)) (by omega) (by omega), w32_id (by omega) (by omega), f7, bndT_ok (by decide)]
            exact hnext h7 M7 _ _ A7 ((F5.tr F6).tr F7) Q7 (by push_cast; exact hm)
          · rw [if_neg e] at hm ⊢
            rw [if_pos rfl]
            exact hnext h6 M6 _ _ A6 (F5.tr F6) Q6 (by push_cast; exact hm)
      · have eb : (decide (0 ≤ bO S0 i / 2 - sf t j) && decide (bO S0 i / 2 - sf t j < nS t) && (decide ((0 : Int) ≤ j) && decide ((j : Int) < 2 * nb t)) && gm t (wB t) (bO S0 i / 2 - sf t j) j) = false := by
          rw [gm_gs W (by omega) (by omega)]
          cases q : gs t (bO S0 i / 2 - sf t j) j
          · simp
          · by_cases q1 : 0 ≤ bO S0 i / 2 - sf t j
            · by_cases q2 : bO S0 i / 2 - sf t j < nS t
              · exact absurd ⟨⟨q1, q2⟩, q⟩ g
              · rw [decide_eq_false q2]; simp
            · rw [decide_eq_false q1]; simp
        rw [eb, if_pos (by decide)]
        exact hnext h5 M5 S5 LF5 A5 F5 Q5 (by push_cast; exact ms_no W H hi m5 g)
    · obtain ⟨h5, r⟩ := b
      obtain ⟨hr_, M5, S5, LF5, A5_, F5, Q5, m5⟩ := hb
      have hr : r = ((nK t : Nat) : Int) := hr_
      have A5 : At h5 c p L M5 := A5_
      clear hr_ A5_
      subst hr
      have D5 := A5.gr
      have e3 : M5 41 3 = 2 * nb t := (G.fj F5).1.1.2.1
      refine ⟨h5, M5, S5, LF5, ?_, A5, F5, Q5, H.next hi h60 m5⟩
      show f_Game_settleAhead_L46 60 41 (bO S0 i / 2) (bF S0 (bO S0 i) + 1) o (n + 1) h5 _ = _
      rw [f_Game_settleAhead_L46]
      simp only [D5]
      rw [chk_t trivial, e3, if_pos (by omega)]
  have J24 : ∀ o : Int, (o = 0 ↔ bO S0 i % 2 = 1) → ∃ h' M' S LF, f_Game_settleAhead_J24 60 41 (bO S0 i) (bO S0 i / 2) (bF S0 (bO S0 i) + 1) o h = some ((3, 0), h') ∧ At h' c p L M' ∧ FJ M M' ∧ GQ M' t S LF ∧ HS t S LF (i + 1) := by
    intro o ho
    have C := A.ga
    have D := A.gr
    have hm := ms_ini W H hi h60
    unfold f_Game_settleAhead_J24
    simp only [D]
    rw [chk_t trivial, s_Graph_stepsFrom A W G.1 G.2.1, bndT_ok (by decide), if_pos (show 0 ≤ bO S0 i / 2 ∧ bO S0 i / 2 < nS t by omega), hgm _ (by omega) (by omega)]
    by_cases e : stp0 t (bO S0 i / 2) = false
    · have hv := vx_rng x1.1 x1.2
      obtain ⟨h6, M6, f6, A6, F6, Q6⟩ := s_Game_settle A W hS2 Q Ln H.I.1 (n := vx (bO S0 i)) (d := bF S0 (bO S0 i) + 1) hv.1 hv.2.1
      rw [if_pos ((mkM_0 (by omega)).mpr e)]
      simp only [C]
      rw [chk_t trivial, qxor1b x1.1 (by omega), f6, bndT_ok (by decide)]
      rw [if_pos e] at hm
      exact J43 h6 M6 _ A6 F6 Q6 hm o ho
    · rw [if_neg (fun q => e ((mkM_0 (by omega)).mp q))]
      rw [if_neg e] at hm
      exact J43 h M _ A (Fs.rf _ _ _ _) Q hm o ho
  have C := A.ga
  unfold f_Game_settleAhead
  rw [wtv, qshr_eq (by omega) (by omega) (by decide) (by decide), show (2 : Int) ^ (1 : Int).toNat = 2 from rfl]
  simp only [C]
  rw [chk_t trivial, s_Game_turnsOf A Q Ln x1.1 x1.2, bndT_ok (by decide), wtv, w32_id (by omega) (by omega), qand1]
  by_cases e : bO S0 i % 2 = 0
  · rw [if_pos e]; exact J24 1 ⟨fun q => by omega, fun q => by omega⟩
  · rw [if_neg e]; exact J24 0 ⟨fun _ => by omega, fun _ => rfl⟩
theorem s_Game_begin (A : At h c p L M) (W : WS t) (hS2 : nS t ≤ 20000) (G : GP M M L t) : ∃ h' p' L' M', f_Game_begin h 60 41 = some ((3, 0), h') ∧ At h' c p' L' M' ∧ Of [61, 62, 63] L L' ∧ FJ M M' ∧ GLn L' t ∧ GQ M' t g00 (fun s => cnN (fun v => gs t s v) (nK t)) := by
  have hn := nN_eq W
  have hN := NN_eq W
  have hk := nK_rng W
  have C := A.ga
  have D := A.gr
  have e2 : M 41 2 = nS t := G.1.1.1
  obtain ⟨q3, h3, f3, t3, p3, L3, M3, A3, l3, op3, oL3, oM3⟩ := s_Nb_grown A (v := 61) (o := 60) (i := 0) (need := 2 * nS t) (by decide) (by decide +kernel) (by decide) (by decide) (by decide +kernel) (by decide +kernel) (most := 40000) (by decide +kernel) (by omega)
  have C3 := A3.ga
  have D3 := A3.gr
  have e3 : M3 41 2 = nS t := by rw [oM3 41 (by decide)]; exact e2
  obtain ⟨q4, h4, f4, t4, p4, L4, M4, A4, l4, op4, oL4, oM4⟩ := s_Nb_grown A3 (v := 62) (o := 60) (i := 1) (need := nS t) (by decide) (by decide +kernel) (by decide) (by decide) (by decide +kernel) (by decide +kernel) (most := 20000) (by decide +kernel) hS2
  have C4 := A4.ga
  have D4 := A4.gr
  have e4 : M4 41 2 = nS t := by rw [oM4 41 (by decide)]; exact e3
  obtain ⟨q5, h5, f5, t5, p5, L5, M5, A5, l5, op5, oL5, oM5⟩ := s_Nb_grown A4 (v := 63) (o := 60) (i := 2) (need := 2 * nS t) (by decide) (by decide +kernel) (by decide) (by decide) (by decide +kernel) (by decide +kernel) (most := 40000) (by decide +kernel) (by omega)
  have C5 := A5.ga
  have A6 := A5.fput (v := 60) (i := 3) 0 (by decide) (by decide) (by decide) (by decide +kernel) (by decide)
  have Ln : GLn L5 t := ⟨by rw [oL5 61 (by decide), oL4 61 (by decide)]; exact l3, by rw [oL5 62 (by decide)]; exact l4, l5⟩
  have hoL : Of [61, 62, 63] L L5 := (oL3.mono (by decide)).tr ((oL4.mono (by decide)).tr (oL5.mono (by decide)))
  have F6 : FJ M (mup M5 60 3 0) := ((((oM3.mono (l2 := [61, 62, 63]) (by decide)).tr (oM4.mono (by decide))).tr (oM5.mono (by decide))).fs (d := 60) (is := [3]) (by decide)).ps (by decide)
  have G6 : GP (mup M5 60 3 0) (mup M5 60 3 0) L5 t := (G.fj F6).fr (fun _ _ => rfl) (fun v hv => hoL v (by
    simp only [List.mem_cons, List.not_mem_nil, or_false] at hv ⊢; omega))
  unfold f_Game_begin
  simp only [C, D]
  rw [chk_t trivial, chk_t trivial, e2, w32_id (by omega) (by omega), f3, bndR_ok, t3, chk_t (by decide +kernel), wth]
  simp only [C3, D3]
  rw [chk_t trivial, chk_t trivial, e3, f4, bndR_ok, t4, chk_t (by decide +kernel), wth]
  simp only [C4, D4]
  rw [chk_t trivial, chk_t trivial, e4, w32_id (by omega) (by omega), f5, bndR_ok, t5, chk_t (by decide +kernel), wth]
  simp only [C5]
  rw [chk_t trivial, wth]
  have J100 : ∀ h7 M7, At h7 c p5 L5 M7 → FJ M M7 → M7 60 3 = 0 → (∀ s, 0 ≤ s → s < nS t → M7 62 s = cnN (fun v => gs t s v) (nK t)) → ∃ h' p' L' M', f_Game_begin_J100 60 41 h7 = some ((3, 0), h') ∧ At h' c p' L' M' ∧ Of [61, 62, 63] L L' ∧ FJ M M' ∧ GLn L' t ∧ GQ M' t g00 (fun s => cnN (fun v => gs t s v) (nK t)) := by
    intro h7 M7 A7 F7 z7 Q7
    unfold f_Game_begin_J100
    refine loop_r (F := fun n (b : mH × Int) => f_Game_begin_L102 60 41 n b.1 b.2) (P := fun r => ∃ h' p' L' M', r = some ((3, 0), h') ∧ At h' c p' L' M' ∧ Of [61, 62, 63] L L' ∧ FJ M M' ∧ GLn L' t ∧ GQ M' t g00 (fun s => cnN (fun v => gs t s v) (nK t))) (fun j b => b.2 = (j : Int) ∧ ∃ M', At b.1 c p5 L5 M' ∧ FJ M M' ∧ M' 60 3 = 0 ∧ (∀ s, 0 ≤ s → s < nS t → M' 62 s = cnN (fun v => gs t s v) (nK t)) ∧ ∀ s, 0 ≤ s → s < (j : Int) → M' 61 s = -1) (NN t) (fun j hj b hb n => ?_) (fun b hb n => ?_) (i := 0) (b := (h7, 0)) ⟨rfl, M7, A7, F7, z7, Q7, fun s g0 g1 => by omega⟩ (by omega) (by omega)
    · obtain ⟨h8, r⟩ := b
      obtain ⟨hr_, M8, A8_, F8, z8, Q8, v8⟩ := hb
      have hr : r = (j : Int) := hr_
      have A8 : At h8 c p5 L5 M8 := A8_
      clear hr_ A8_
      subst hr
      right
      have C8 := A8.ga
      have D8 := A8.gr
      have e8 : M8 41 2 = nS t := by rw [F8.1 41 (by decide) (by decide)]; exact e2
      have A9 := A8.gput (v := 61) j (-1) (by decide) (by decide) (by decide +kernel) (by decide) (by decide)
      have l61 := Ln.1
      refine ⟨(hput h8 (p5 61) j (-1), ((j + 1 : Nat) : Int)), ⟨rfl, _, A9, F8.pu (by decide) (by decide), by rw [mup_fn (by decide)]; exact z8, by rw [mup_fn (by decide)]; exact Q8, fun s g0 g1 => ?_⟩, ?_⟩
      · by_cases q1 : s = j
        · rw [q1, mup_eq]
        · rw [mup_ne (Or.inr q1)]; exact v8 s g0 (by omega)
      · show f_Game_begin_L102 60 41 (n + 1) h8 j = f_Game_begin_L102 60 41 n (hput h8 (p5 61) j (-1)) ((j + 1 : Nat) : Int)
        rw [f_Game_begin_L102]
        simp only [C8, D8]
        rw [chk_t trivial, e8, w32_id (by omega) (by omega), if_neg (by omega), chk_t trivial, chk_t (Nat.le_refl _), if_neg (by omega), chk_t trivial, chk_t trivial, chk_t (by omega), wth, wtv, w32_n j (by omega)]
    · obtain ⟨h8, r⟩ := b
      obtain ⟨hr_, M8, A8_, F8, z8, Q8, v8⟩ := hb
      have hr : r = ((NN t : Nat) : Int) := hr_
      have A8 : At h8 c p5 L5 M8 := A8_
      clear hr_ A8_
      subst hr
      have C8 := A8.ga
      have D8 := A8.gr
      have e8 : M8 41 2 = nS t := by rw [F8.1 41 (by decide) (by decide)]; exact e2
      refine ⟨h8, p5, L5, M8, ?_, A8, hoL, F8, Ln, ⟨⟨fun s g0 g1 => v8 s g0 (by omega), fun j g0 g1 => absurd (show j < 0 from g1) (by omega), z8⟩, Q8⟩⟩
      show f_Game_begin_L102 60 41 (n + 1) h8 _ = _
      rw [f_Game_begin_L102]
      simp only [D8]
      rw [chk_t trivial, e8, w32_id (by omega) (by omega), if_pos (by omega)]
  refine loop_r (F := fun n (b : mH × Int) => f_Game_begin_L63 (fun h11 => f_Game_begin_J100 60 41 h11) 60 41 n b.1 b.2) (P := fun r => ∃ h' p' L' M', r = some ((3, 0), h') ∧ At h' c p' L' M' ∧ Of [61, 62, 63] L L' ∧ FJ M M' ∧ GLn L' t ∧ GQ M' t g00 (fun s => cnN (fun v => gs t s v) (nK t))) (fun j b => b.2 = (j : Int) ∧ ∃ M', At b.1 c p5 L5 M' ∧ FJ M M' ∧ M' 60 3 = 0 ∧ ∀ s, 0 ≤ s → s < (j : Int) → M' 62 s = cnN (fun v => gs t s v) (nK t)) (nN t) (fun j hj b hb n => ?_) (fun b hb n => ?_) (i := 0) (b := (hput (hput h5 60 2 q5) 60 3 0, 0)) ⟨rfl, _, A6, F6, mup_eq _ _ _ _, fun s g0 g1 => by omega⟩ (by omega) (by omega)
  · obtain ⟨h8, r⟩ := b
    obtain ⟨hr_, M8, A8_, F8, z8, v8⟩ := hb
    have hr : r = (j : Int) := hr_
    have A8 : At h8 c p5 L5 M8 := A8_
    clear hr_ A8_
    subst hr
    right
    have C8 := A8.ga
    have D8 := A8.gr
    have G8 : GP M8 M8 L5 t := (G.fj F8).fr (fun _ _ => rfl) (fun v hv => hoL v (by
      simp only [List.mem_cons, List.not_mem_nil, or_false] at hv ⊢; omega))
    have e8 : M8 41 2 = nS t := G8.1.1.1
    have l62 := Ln.2.1
    have A9 := A8.gput (v := 62) j (cnN (fun v => gs t j v) (nK t)) (by decide) (by decide) (by decide +kernel) (by decide) (by decide)
    refine ⟨(hput h8 (p5 62) j (cnN (fun v => gs t j v) (nK t)), ((j + 1 : Nat) : Int)), ⟨rfl, _, A9, F8.pu (by decide) (by decide), by rw [mup_fn (by decide)]; exact z8, fun s g0 g1 => ?_⟩, ?_⟩
    · by_cases q1 : s = j
      · rw [q1, mup_eq]
      · rw [mup_ne (Or.inr q1)]; exact v8 s g0 (by omega)
    · show f_Game_begin_L63 _ 60 41 (n + 1) h8 j = f_Game_begin_L63 _ 60 41 n (hput h8 (p5 62) j (cnN (fun v => gs t j v) (nK t))) ((j + 1 : Nat) : Int)
      rw [f_Game_begin_L63]
      simp only [C8, D8]
      rw [chk_t trivial, e8, if_neg (by omega), chk_t trivial, chk_t (Nat.le_refl _), if_neg (by omega), chk_t trivial, chk_t trivial, s_Graph_stepsFrom A8 W G8.1 G8.2.1, bndT_ok (by decide), if_pos (by omega), mkM_congr (g := gs t j) (fun v q0 q1 => gm_gs W q0 (by omega)), s_bitCount _ _ (by omega), bndT_ok (by decide)]
      simp only [C8]
      rw [chk_t trivial, chk_t (by omega), wth, wtv, w32_n j (by omega)]
  · obtain ⟨h8, r⟩ := b
    obtain ⟨hr_, M8, A8_, F8, z8, v8⟩ := hb
    have hr : r = ((nN t : Nat) : Int) := hr_
    have A8 : At h8 c p5 L5 M8 := A8_
    clear hr_ A8_
    subst hr
    have D8 := A8.gr
    have e8 : M8 41 2 = nS t := by rw [F8.1 41 (by decide) (by decide)]; exact e2
    show ∃ h' p' L' M', f_Game_begin_L63 _ 60 41 (n + 1) h8 _ = _ ∧ _
    rw [f_Game_begin_L63]
    simp only [D8]
    rw [chk_t trivial, e8, if_pos (by omega)]
    exact J100 h8 M8 A8 F8 z8 (fun s g0 g1 => v8 s g0 (by omega))
theorem s_turnsToOpen (A : At h c p L M) (W : WS t) (D : RW t (pa t)) (hS2 : nS t ≤ 20000) (G : GP M M L t) : ∃ h' p' L' M' d, f_Game_turnsToOpen h 60 41 (st t (pa t)) = some ((0, d), h') ∧ At h' c p' L' M' ∧ Of [61, 62, 63] L L' ∧ FJ M M' ∧ KY t d := by
  have hN := NN_eq W
  have hs := st_rng W D
  have ho := st_rng W W.ropen
  have C := A.ga
  have I0 : CI (NN t) g00 := ⟨by show 0 = cn (fun _ => -1) _; rw [cn_m1], Int.le_refl _⟩
  obtain ⟨h1, p1, L1, M1, f1, A1, oL, F1, Ln, Q1⟩ := s_Game_begin A W hS2 G
  have G1 : GP M1 M1 L1 t := (G.fj F1).fr (fun _ _ => rfl) (fun v hv => oL v (by
    simp only [List.mem_cons, List.not_mem_nil, or_false] at hv ⊢; omega))
  obtain ⟨h2, M2, f2, A2, F2, Q2⟩ := s_Game_settle A1 W hS2 Q1 Ln I0 (n := 2 * st t (po t)) (d := 0) (by omega) (by omega)
  have I1 := CI_tk I0 (s := 2 * st t (po t)) (d := 0) (by omega) (by omega) (by decide)
  have G2 := G1.fj F2
  obtain ⟨h3, M3, f3, A3, F3, Q3⟩ := s_Game_settle A2 W hS2 Q2 Ln I1 (n := 2 * st t (po t) + 1) (d := 0) (by omega) (by omega)
  have C1 := A1.ga
  have D1 := A1.gr
  have C2 := A2.ga
  have D2 := A2.gr
  have G3 := G2.fj F3
  have F3' : FJ M M3 := (F1.tr F2).tr F3
  unfold f_Game_turnsToOpen
  simp only [C]
  rw [chk_t trivial, f1, bndT_ok (by decide)]
  simp only [C1, D1]
  rw [chk_t trivial, chk_t trivial, G1.1.1.2.2, w32_id (by omega) (by omega), f2, bndT_ok (by decide)]
  simp only [C2, D2]
  rw [chk_t trivial, chk_t trivial, G2.1.1.2.2, w32_id (x := 2 * st t (po t)) (by omega) (by omega), w32_id (by omega) (by omega), f3, bndT_ok (by decide)]
  have J91 : ∀ h7 M7 S LF, ∀ i : Nat, At h7 c p1 L1 M7 → FJ M M7 → GQ M7 t S LF → HS t S LF i → (bF S (2 * st t (pa t)) ≠ -1 ∨ bM S ≤ i) → ∃ h' p' L' M' d, f_Game_turnsToOpen_J91 60 (st t (pa t)) h7 = some ((0, d), h') ∧ At h' c p' L' M' ∧ Of [61, 62, 63] L L' ∧ FJ M M' ∧ KY t d := by
    intro h7 M7 S LF i A7 F7 Q7 H7 hx
    have C7 := A7.ga
    refine ⟨h7, p1, L1, M7, bF S (2 * st t (pa t)), ?_, A7, oL, F7, ?_⟩
    · unfold f_Game_turnsToOpen_J91
      simp only [C7]
      rw [chk_t trivial, w32_id (by omega) (by omega), s_Game_turnsOf A7 Q7 Ln (by omega) (by omega), bndT_ok (by decide)]
    · by_cases e : bF S (2 * st t (pa t)) = -1
      · rw [e]; exact H7.none W D (by omega) e
      · exact H7.some W D e
  refine loop_r (F := fun n (b : mH × Int) => f_Game_turnsToOpen_L31 (fun h7 => f_Game_turnsToOpen_J91 60 (st t (pa t)) h7) 60 41 (st t (pa t)) n b.1 b.2) (P := fun r => ∃ h' p' L' M' d, r = some ((0, d), h') ∧ At h' c p' L' M' ∧ Of [61, 62, 63] L L' ∧ FJ M M' ∧ KY t d) (fun i b => b.2 = (i : Int) ∧ ∃ M' S LF, At b.1 c p1 L1 M' ∧ FJ M M' ∧ GQ M' t S LF ∧ HS t S LF i) (NN t) (fun i hi b hb n => ?_) (fun b hb n => ?_) (i := 0) (b := (h3, 0)) ⟨rfl, M3, _, _, A3, F3', Q3, HS.ini W⟩ (by omega) (by omega)
  · obtain ⟨h8, r⟩ := b
    obtain ⟨hr_, M8, S, LF, A8_, F8, Q8, H8⟩ := hb
    have hr : r = (i : Int) := hr_
    have A8 : At h8 c p1 L1 M8 := A8_
    clear hr_ A8_
    subst hr
    have C8 := A8.ga
    have hm := Q8.1.2.2
    have hle := H8.I.1.le
    have l63 := Ln.2.2
    have G8 : GP M8 M8 L1 t := (G.fj F8).fr (fun _ _ => rfl) (fun v hv => oL v (by
      simp only [List.mem_cons, List.not_mem_nil, or_false] at hv ⊢; omega))
    show (∃ h' p' L' M' d, f_Game_turnsToOpen_L31 _ 60 41 (st t (pa t)) (n + 1) h8 i = _ ∧ _) ∨ ∃ b' : mH × Int, _ ∧ f_Game_turnsToOpen_L31 _ 60 41 (st t (pa t)) (n + 1) h8 i = _
    rw [f_Game_turnsToOpen_L31]
    simp only [C8]
    rw [chk_t trivial, chk_t (Nat.le_refl _), if_neg (by omega), chk_t trivial, hm]
    by_cases g : bM S ≤ i
    · left
      rw [if_pos g]
      exact J91 h8 M8 S LF i A8 F8 Q8 H8 (Or.inr g)
    · obtain ⟨x1, x2, x3, x4⟩ := H8.xx W (show (i : Int) < bM S by omega)
      rw [if_neg g, chk_t trivial, w32_id (by omega) (by omega), s_Game_turnsOf A8 Q8 Ln (by omega) (by omega), bndT_ok (by decide)]
      by_cases e : bF S (2 * st t (pa t)) = -1
      · right
        rw [if_pos e]
        simp only [C8]
        rw [chk_t trivial, chk_t trivial, chk_t (by omega), chk_t trivial, Q8.1.2.1 i (by omega) (by omega), s_Game_turnsOf A8 Q8 Ln x1.1 x1.2, bndT_ok (by decide)]
        by_cases e2 : 60 ≤ bF S (bO S i)
        · rw [if_pos e2]
          refine ⟨(h8, ((i + 1 : Nat) : Int)), ⟨rfl, M8, S, LF, A8, F8, Q8, H8.skip e2⟩, ?_⟩
          unfold f_Game_turnsToOpen_J85
          rw [wtv, w32_n i (by omega)]
        · obtain ⟨h9, M9, S9, LF9, f9, A9, F9, Q9, H9⟩ := s_Game_settleAhead A8 W hS2 G8 Q8 Ln H8 (by omega) (by omega)
          rw [if_neg e2]
          simp only [C8]
          rw [chk_t trivial, chk_t trivial, chk_t (by omega), chk_t trivial, Q8.1.2.1 i (by omega) (by omega), f9, bndT_ok (by decide)]
          refine ⟨(h9, ((i + 1 : Nat) : Int)), ⟨rfl, M9, S9, LF9, A9, F8.tr F9, Q9, H9⟩, ?_⟩
          unfold f_Game_turnsToOpen_J85
          rw [wtv, w32_n i (by omega)]
      · left
        rw [if_neg e]
        exact J91 h8 M8 S LF i A8 F8 Q8 H8 (Or.inl e)
  · obtain ⟨h8, r⟩ := b
    obtain ⟨hr_, M8, S, LF, A8_, F8, Q8, H8⟩ := hb
    have hr : r = ((NN t : Nat) : Int) := hr_
    have A8 : At h8 c p1 L1 M8 := A8_
    clear hr_ A8_
    subst hr
    have C8 := A8.ga
    have hm := Q8.1.2.2
    have hle := H8.I.1.le
    have hj := J91 h8 M8 S LF (NN t) A8 F8 Q8 H8 (Or.inr hle)
    show ∃ h' p' L' M' d, f_Game_turnsToOpen_L31 _ 60 41 (st t (pa t)) (n + 1) h8 _ = _ ∧ _
    rw [f_Game_turnsToOpen_L31]
    simp only [C8]
    rw [chk_t trivial, chk_t (Nat.le_refl _), chk_t trivial, hm]
    by_cases e : L1 63 ≤ ((NN t : Nat) : Int)
    · rw [if_pos e]; exact hj
    · rw [if_neg e, if_pos hle]; exact hj
end
section
variable {h : mH} {c : Int} {p L : Int → Int} {M : aM} {E : Int → tT}
theorem c_keys (A : At h c p L M) {t : tT} (K : KS E M L t) : ∃ d, (nS t ≤ 20000 → KY t d) ∧ CR c M E t (f_Nb_keys h 1) (if nS t ≤ 20000 then (0, d) else (4, xS)) := by
  have C := A.nb
  by_cases hS2 : nS t ≤ 20000
  · rcases s_Nb_needGraph A K with ⟨g, e⟩ | ⟨g, h1, p1, L1, M1, f1, A1, -, -, F1, K1, G1⟩
    · omega
    · have C1 := A1.nb
      have D1 := A1.b5
      have E1 := A1.ga
      obtain ⟨h2, p2, L2, M2, d, f2, A2, oL, F2, hd⟩ := s_turnsToOpen A1 K.W K.D hS2 G1
      refine ⟨d, fun _ => hd, ?_⟩
      rw [if_pos hS2]
      have F2r : Fr [60, 61, 62, 63] M1 M2 := fun v hv => F2.1 v (by simp only [List.mem_cons, List.not_mem_nil, or_false] at hv ⊢; omega) (by simp only [List.mem_cons, List.not_mem_nil, or_false] at hv ⊢; omega)
      have K2 : KS E M2 L2 t := K1.keep (fun v hv => F2r v (by
        simp only [List.mem_cons, List.not_mem_nil, or_false, not_or]
        unfold kO at hv; omega)) (fun v hv => oL v (by
        simp only [List.mem_cons, List.not_mem_nil, or_false, not_or]
        unfold kO at hv; omega))
      refine CR_mv (F1.a.tr (F2r.mono (by decide))) (CR_eq ?_ (CR_ok A2 K2))
      unfold f_Nb_keys
      simp only [C]
      rw [chk_t trivial, f1, bndT_ok (by decide)]
      simp only [C1, D1]
      rw [chk_t trivial, chk_t trivial, chk_t trivial, chk_t trivial, chk_t trivial, chk_t trivial, s_standNow5 A1 K1, bndT_ok (by decide)]
      simp only [E1]
      rw [chk_t trivial, f2, bndT_ok (by decide)]
  · refine ⟨0, fun g => absurd g hS2, ?_⟩
    rw [if_neg hS2]
    unfold f_Nb_keys
    simp only [C]
    rw [chk_t trivial]
    rcases s_Nb_needGraph A K with ⟨g, e⟩ | ⟨g, -⟩
    · rw [e, bndT_ex]; exact CR_ex A K
    · omega
end
