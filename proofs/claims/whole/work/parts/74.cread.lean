/-! CALLS THAT ONLY READ THE BOX -/
section
variable {h : mH} {c : Int} {p L : Int → Int} {M : aM} {E : Int → tT}
theorem RH59 (A : At h c p L M) {t : tT} (K : KS E M L t) : RH h 9 (nb t) (pa t) := by
  have D := A.b5
  refine ⟨?_, ?_, fun b g0 g1 => ?_⟩
  · simp only [D]
  · simp only [D]; decide
  · simp only [D]; exact (K.R.2.1 b g0 g1).2.2.2.1
theorem c_fault (A : At h c p L M) {t : tT} (K : KS E M L t) (w : Int) : CR c M E t (f_Nb_fault h 1 w) (0, if w = 0 then M 1 2 else if w = 1 then M 1 3 else -1) := by
  have C := A.nb
  unfold f_Nb_fault
  simp only [C]
  by_cases g : w = 0
  · rw [if_pos g, if_pos g, chk_t trivial]; exact CR_ok A K
  · rw [if_neg g, if_neg g]
    by_cases g1 : w = 1
    · rw [if_pos g1, if_pos g1, chk_t trivial]; exact CR_ok A K
    · rw [if_neg g1, if_neg g1]; exact CR_ok A K
def baV (t : tT) (b w : Int) : Int := if w = 0 then pl t b else if w = 1 then pa t b else if w = 2 then po t b else if w = 3 then md t b else if w = 4 then b2i (wS t b) else cnN (fun r => decide (rb t r = b)) (nr t).toNat
theorem c_bar (A : At h c p L M) {t : tT} (K : KS E M L t) (b w : Int) : CR c M E t (f_Nb_bar h 1 b w) (if 0 ≤ b ∧ b < nb t then (if 0 ≤ w ∧ w ≤ 5 then (0, baV t b w) else (4, xA)) else (4, xN)) := by
  have B := BH.of5 A K.R
  have C := A.nb
  have D := A.b5
  have hn := K.W.1
  unfold f_Nb_bar
  simp only [C]
  rw [chk_t trivial, s_Nb_needBar A K]
  by_cases g : 0 ≤ b ∧ b < nb t
  · rw [if_pos g, if_pos g, bndT_ok (by decide)]
    have R := K.R.2.1 b g.1 g.2
    by_cases g0 : w = 0
    · subst g0
      rw [if_pos rfl, if_pos (by decide)]
      unfold f_Nb_bar_J44
      simp only [C, D]
      rw [chk_t trivial, chk_t trivial, chk_t trivial, chk_t (by omega), R.1]
      exact CR_ok A K
    rw [if_neg g0]
    by_cases g1 : w = 1
    · subst g1
      rw [if_pos rfl, if_pos (by decide)]
      unfold f_Nb_bar_J54
      simp only [C, D]
      rw [chk_t trivial, chk_t trivial, chk_t trivial, chk_t (by omega), R.2.2.2.1]
      exact CR_ok A K
    rw [if_neg g1]
    by_cases g2 : w = 2
    · subst g2
      rw [if_pos rfl, if_pos (by decide)]
      unfold f_Nb_bar_J64
      simp only [C, D]
      rw [chk_t trivial, chk_t trivial, chk_t trivial, chk_t (by omega), R.2.2.1]
      exact CR_ok A K
    rw [if_neg g2]
    by_cases g3 : w = 3
    · subst g3
      rw [if_pos rfl, if_pos (by decide)]
      unfold f_Nb_bar_J74
      simp only [C, D]
      rw [chk_t trivial, chk_t trivial, chk_t trivial, chk_t (by omega), R.2.2.2.2]
      exact CR_ok A K
    rw [if_neg g3]
    by_cases g4 : w = 4
    · subst g4
      rw [if_pos rfl, if_pos (by decide)]
      unfold f_Nb_bar_J84
      simp only [C]
      rw [chk_t trivial, chk_t B.T, s_Box_isWorn B K.W, bndT_ok (by decide), decide_eq_true g.1, decide_eq_true g.2, Bool.true_and, Bool.true_and]
      have e : baV t b 4 = b2i (wS t b) := rfl
      rw [e]
      cases wS t b
      · exact CR_ok A K
      · exact CR_ok A K
    rw [if_neg g4]
    by_cases g5 : w = 5
    · subst g5
      rw [if_pos rfl, if_pos (by decide)]
      unfold f_Nb_bar_J101
      simp only [C]
      rw [chk_t trivial, chk_t B.T, s_Box_rulesOf B K.W, bndT_ok (by decide)]
      exact CR_ok A K
    rw [if_neg g5, if_neg (by omega)]
    exact CR_ex A K
  · rw [if_neg g, if_neg g, bndT_ex]
    exact CR_ex A K
def ruV (t : tT) (r w : Int) : Int := if w = 0 then rb t r else if w = 1 then rf t r else if w = 2 then rt t r else if w = 3 then rn t r else b2i (hR t (pa t) r)
theorem c_rule (A : At h c p L M) {t : tT} (K : KS E M L t) (r w : Int) : CR c M E t (f_Nb_rule h 1 r w) (if 0 ≤ r ∧ r < nr t then (if 0 ≤ w ∧ w ≤ 4 then (0, ruV t r w) else (4, xA)) else (4, xN)) := by
  have B := BH.of5 A K.R
  have C := A.nb
  have D := A.b5
  have hn := K.W.2.1
  unfold f_Nb_rule
  by_cases g : r < 0
  · rw [if_pos g, if_neg (by omega)]; exact CR_ex A K
  rw [if_neg g]
  simp only [C]
  rw [chk_t trivial, chk_t B.T, B.s3]
  by_cases gg : r < nr t
  · rw [if_pos gg, if_pos (show 0 ≤ r ∧ r < nr t by omega)]
    have R := K.R.2.2 r (by omega) gg
    by_cases g0 : w = 0
    · subst g0
      rw [if_pos rfl, if_pos (by decide)]
      unfold f_Nb_rule_J60
      simp only [C, D]
      rw [chk_t trivial, chk_t trivial, chk_t trivial, chk_t (by omega), R.1]
      exact CR_ok A K
    rw [if_neg g0]
    by_cases g1 : w = 1
    · subst g1
      rw [if_pos rfl, if_pos (by decide)]
      unfold f_Nb_rule_J70
      simp only [C, D]
      rw [chk_t trivial, chk_t trivial, chk_t trivial, chk_t (by omega), R.2.1]
      exact CR_ok A K
    rw [if_neg g1]
    by_cases g2 : w = 2
    · subst g2
      rw [if_pos rfl, if_pos (by decide)]
      unfold f_Nb_rule_J80
      simp only [C, D]
      rw [chk_t trivial, chk_t trivial, chk_t trivial, chk_t (by omega), R.2.2.1]
      exact CR_ok A K
    rw [if_neg g2]
    by_cases g3 : w = 3
    · subst g3
      rw [if_pos rfl, if_pos (by decide)]
      unfold f_Nb_rule_J90
      simp only [C, D]
      rw [chk_t trivial, chk_t trivial, chk_t trivial, chk_t (by omega), R.2.2.2.1]
      exact CR_ok A K
    rw [if_neg g3]
    by_cases g4 : w = 4
    · subst g4
      rw [if_pos rfl, if_pos (by decide)]
      unfold f_Nb_rule_J100
      simp only [C, D]
      rw [chk_t trivial, chk_t trivial, chk_t trivial, chk_t trivial, s_Box_holdsIn B K.W (RH59 A K) (by omega) gg, bndT_ok (by decide)]
      have e : ruV t r 4 = b2i (hR t (pa t) r) := rfl
      rw [e]
      cases hR t (pa t) r
      · exact CR_ok A K
      · exact CR_ok A K
    rw [if_neg g4, if_neg (by omega)]
    exact CR_ex A K
  · rw [if_neg gg, if_neg (by omega)]; exact CR_ex A K
theorem c_placeIn (A : At h c p L M) {t : tT} (K : KS E M L t) (s b : Int) : CR c M E t (f_Nb_placeIn h 1 s b) (if (0 ≤ b ∧ b < nb t) ∧ 0 ≤ s ∧ s < nS t then (if nS t ≤ 20000 then (0, dg t s b) else (4, xS)) else (4, xN)) := by
  have B := BH.of5 A K.R
  have C := A.nb
  unfold f_Nb_placeIn
  simp only [C]
  rw [chk_t trivial, s_Nb_needBar A K]
  by_cases g : 0 ≤ b ∧ b < nb t
  · rw [if_pos g, bndT_ok (by decide)]
    simp only [C]
    rw [chk_t trivial, s_Nb_needStand A K]
    by_cases g1 : 0 ≤ s ∧ s < nS t
    · rw [if_pos g1, if_pos ⟨g, g1⟩, bndT_ok (by decide)]
      simp only [C]
      rw [chk_t trivial, s_Nb_needFew A K]
      by_cases g2 : nS t ≤ 20000
      · rw [if_pos g2, if_pos g2, bndT_ok (by decide)]
        simp only [C]
        rw [chk_t trivial, chk_t B.T, s_Box_placeOf B K.W g1.1 (by omega) g.1 g.2, bndT_ok (by decide)]
        exact CR_ok A K
      · rw [if_neg g2, if_neg g2, bndT_ex]; exact CR_ex A K
    · rw [if_neg g1, if_neg (fun x => g1 x.2), bndT_ex]; exact CR_ex A K
  · rw [if_neg g, if_neg (fun x => g x.1), bndT_ex]; exact CR_ex A K
def isO (t : tT) : Bool := allN (fun b => decide (pa t b = po t b)) (nb t).toNat
theorem c_isOpen (A : At h c p L M) {t : tT} (K : KS E M L t) : CR c M E t (f_Nb_isOpen h 1) (0, b2i (isO t)) := by
  have B := BH.of5 A K.R
  have C := A.nb
  unfold f_Nb_isOpen
  simp only [C]
  rw [chk_t trivial, chk_t B.T, s_Box_isOpened B K.W, bndT_ok (by decide)]
  show CR c M E t (chk (b2i (isO t) = 0 ∨ b2i (isO t) = 1) (some ((0, b2i (isO t)), h))) _
  rw [chk_t (b2i_01 _)]
  exact CR_ok A K
theorem c_may (A : At h c p L M) {t : tT} (K : KS E M L t) (b : Int) {up : Int} (hu : up = 0 ∨ up = 1) : CR c M E t (f_Nb_may h 1 b up) (0, why t false X0 (pa t) (wS t) b up) := by
  have B := BH.of5 A K.R
  have C := A.nb
  unfold f_Nb_may
  simp only [C]
  rw [chk_t trivial, chk_t B.T, s_Box_whyNot B K.W K.D hu, bndT_ok (by decide)]
  exact CR_ok A K
def coV (t : tT) (fed w : Int) : Int := if w = 0 then t 0 else if w = 1 then nb t else if w = 2 then nr t else if w = 3 then ne t else if w = 4 then we t else if w = 5 then nS t else if w = 6 then smN (md t) (nb t).toNat else if w = 7 then fed else -1
theorem c_count (A : At h c p L M) {t : tT} (K : KS E M L t) (hd : ∀ b, 0 ≤ b → b < nb t → 0 ≤ md t b ∧ md t b ≤ 100000) (w : Int) : CR c M E t (f_Nb_count h 1 w) (0, coV t (M 1 1) w) := by
  have B := BH.of5 A K.R
  have C := A.nb
  unfold f_Nb_count coV
  by_cases g0 : w = 0
  · rw [if_pos g0, if_pos g0]; unfold f_Nb_count_J48; simp only [C]; rw [chk_t trivial, chk_t B.T, B.s1]; exact CR_ok A K
  rw [if_neg g0, if_neg g0]
  by_cases g1 : w = 1
  · rw [if_pos g1, if_pos g1]; unfold f_Nb_count_J56; simp only [C]; rw [chk_t trivial, chk_t B.T, B.s2]; exact CR_ok A K
  rw [if_neg g1, if_neg g1]
  by_cases g2 : w = 2
  · rw [if_pos g2, if_pos g2]; unfold f_Nb_count_J64; simp only [C]; rw [chk_t trivial, chk_t B.T, B.s3]; exact CR_ok A K
  rw [if_neg g2, if_neg g2]
  by_cases g3 : w = 3
  · rw [if_pos g3, if_pos g3]; unfold f_Nb_count_J72; simp only [C]; rw [chk_t trivial, chk_t B.T, B.s4]; exact CR_ok A K
  rw [if_neg g3, if_neg g3]
  by_cases g4 : w = 4
  · rw [if_pos g4, if_pos g4]; unfold f_Nb_count_J80; simp only [C]; rw [chk_t trivial, chk_t B.T, B.s5]; exact CR_ok A K
  rw [if_neg g4, if_neg g4]
  by_cases g5 : w = 5
  · rw [if_pos g5, if_pos g5]; unfold f_Nb_count_J88; simp only [C]; rw [chk_t trivial, chk_t B.T, s_Box_standCount B K.W, bndT_ok (by decide)]; exact CR_ok A K
  rw [if_neg g5, if_neg g5]
  by_cases g6 : w = 6
  · rw [if_pos g6, if_pos g6]; unfold f_Nb_count_J96; simp only [C]; rw [chk_t trivial, chk_t B.T, s_Box_stepsMade B K.W hd, bndT_ok (by decide)]; exact CR_ok A K
  rw [if_neg g6, if_neg g6]
  by_cases g7 : w = 7
  · rw [if_pos g7, if_pos g7]; unfold f_Nb_count_J104; simp only [C]; rw [chk_t trivial]; exact CR_ok A K
  rw [if_neg g7, if_neg g7]
  exact CR_ok A K
end
