/-! CALLS OF THE CLASS THAT ONLY ASK -/
def cA : List Int := [3, 18, 19, 20, 21, 22, 23, 24, 25, 26, 27, 28, 29, 30, 41, 42, 43, 44, 45, 46, 47, 48, 49, 50, 51, 52, 53, 54, 55, 56, 57, 58, 59, 60, 61, 62, 63, 64, 65, 66, 67, 68, 69, 70, 71, 72, 73, 74]
def CR (c : Int) (M : aM) (E : Int → tT) (t : tT) (f : Option mR) (v : mV) : Prop := ∃ h' c' p' L' M', f = some (v, h') ∧ At h' c' p' L' M' ∧ c' ≤ c + 6 ∧ Fr cA M M' ∧ KS E M' L' t
theorem CR_eq {c : Int} {M : aM} {E : Int → tT} {t : tT} {f g : Option mR} {v : mV} (h : g = f) (r : CR c M E t f v) : CR c M E t g v := by rw [h]; exact r
theorem CR_mv {c : Int} {M M1 : aM} {E : Int → tT} {t : tT} {f : Option mR} {v : mV} (F : Fr cA M M1) (r : CR c M1 E t f v) : CR c M E t f v := by
  obtain ⟨h', c', p', L', M', a, b, d, e, k⟩ := r
  exact ⟨h', c', p', L', M', a, b, d, F.tr e, k⟩
section
variable {h : mH} {c : Int} {p L : Int → Int} {M : aM} {E : Int → tT}
theorem CR_ok (A : At h c p L M) {t : tT} (K : KS E M L t) {v : mV} : CR c M E t (some (v, h)) v := ⟨h, c, p, L, M, rfl, A, by omega, Fr.rf _ _, K⟩
theorem CR_ex (A : At h c p L M) {t : tT} (K : KS E M L t) {e : Int} : CR c M E t (some ((4, e), halc h 0 0 6)) (4, e) := ⟨_, c + 6, p, L, M, rfl, A.exc, Int.le_refl _, Fr.rf _ _, K⟩
theorem FC.a {M M' : aM} (F : FC M M') : Fr cA M M' := F.mono (by decide)
/-- what all these begin with: too many stands, or a graph made ready -/
theorem CR_graph (A : At h c p L M) {t : tT} (K : KS E M L t) {k : Int → mH → Option mR} {v : mV} (hv : ∀ h1 p1 L1 M1, At h1 c p1 L1 M1 → KS E M1 L1 t → GP M1 M1 L1 t → Fr cA M M1 → nS t ≤ 20000 → CR c M1 E t (k 0 h1) v) : CR c M E t (bndT 3 (f_Nb_needGraph h 1) k) (if nS t ≤ 20000 then v else (4, xS)) := by
  rcases s_Nb_needGraph A K with ⟨g, e⟩ | ⟨g, h1, p1, L1, M1, f1, A1, -, -, F1, K1, G1⟩
  · rw [e, bndT_ex, if_neg (by omega)]; exact CR_ex A K
  · rw [f1, bndT_ok (by decide), if_pos g]
    exact CR_mv F1.a (hv h1 p1 L1 M1 A1 K1 G1 F1.a g)
theorem CR_now (A : At h c p L M) {t : tT} (K : KS E M L t) (hS2 : nS t ≤ 20000) {k : Int → mH → Option mR} {v : mV} (hv : ∀ h1 p1 L1 M1, At h1 c p1 L1 M1 → KS E M1 L1 t → GP M1 M1 L1 t → PR M1 L1 48 49 50 t (st t (pa t)) false → CR c M1 E t (k 48 h1) v) : CR c M E t (bndT 2 (f_Nb_fromNow h 1) k) v := by
  obtain ⟨h1, p1, L1, M1, f1, A1, -, -, F1, K1, G1, P1⟩ := s_Nb_fromNow A K hS2
  rw [f1, bndT_ok (by decide)]
  exact CR_mv F1.a (hv h1 p1 L1 M1 A1 K1 G1 P1)
theorem CR_open (A : At h c p L M) {t : tT} (K : KS E M L t) (hS2 : nS t ≤ 20000) (G : GP M M L t) {k : Int → mH → Option mR} {v : mV} (hv : ∀ h1 p1 L1 M1, At h1 c p1 L1 M1 → KS E M1 L1 t → GP M1 M1 L1 t → PR M1 L1 51 52 53 t (st t (po t)) true → (∀ z, PR M L 48 49 50 t z false → PR M1 L1 48 49 50 t z false) → CR c M1 E t (k 51 h1) v) : CR c M E t (bndT 2 (f_Nb_toOpen h 1) k) v := by
  obtain ⟨h1, p1, L1, M1, f1, A1, -, -, F1, hL, K1, G1, P1⟩ := s_Nb_toOpen A K hS2 G
  rw [f1, bndT_ok (by decide)]
  exact CR_mv (F1.mono (by decide)) (hv h1 p1 L1 M1 A1 K1 G1 P1 (fun z P => P.fr (F1 48 (by decide)) (F1 49 (by decide)) (F1 50 (by decide)) (hL 49 (by decide)) (hL 50 (by decide))))
theorem c_canBe (A : At h c p L M) {t : tT} (K : KS E M L t) (s : Int) : CR c M E t (f_Nb_canBe h 1 s) (if 0 ≤ s ∧ s < nS t then (if nS t ≤ 20000 then (0, b2i (decide (bF (SF t (st t (pa t))) s ≠ -1))) else (4, xS)) else (4, xN)) := by
  have C := A.nb
  have hk : PK 48 49 50 := by unfold PK; decide
  unfold f_Nb_canBe
  simp only [C]
  rw [chk_t trivial, s_Nb_needStand A K]
  by_cases g : 0 ≤ s ∧ s < nS t
  · rw [if_pos g, if_pos g, bndT_ok (by decide)]
    simp only [C]
    rw [chk_t trivial]
    refine CR_graph A K (fun h1 p1 L1 M1 A1 K1 G1 F1 hS2 => ?_)
    have C1 := A1.nb
    simp only [C1]
    rw [chk_t trivial]
    refine CR_now A1 K1 hS2 (fun h2 p2 L2 M2 A2 K2 G2 P2 => ?_)
    have C2 := A2.p48
    simp only [C2]
    have far : f_Paths_farOf h2 48 s = some ((0, bF (SF t (st t (pa t))) s), h2) := PR_far A2 hk P2 g.1 g.2
    rw [chk_t trivial, far, bndT_ok (by decide)]
    by_cases e : bF (SF t (st t (pa t))) s = -1
    · rw [if_pos e, chk_t (by simp), decide_eq_false (by simp [e])]; exact CR_ok A2 K2
    · rw [if_neg e, chk_t (by simp), decide_eq_true e]; exact CR_ok A2 K2
  · rw [if_neg g, if_neg g, bndT_ex]; exact CR_ex A K
theorem c_shortest (A : At h c p L M) {t : tT} (K : KS E M L t) (a b k : Int) : CR c M E t (f_Nb_shortest h 1 a b k) (if (0 ≤ a ∧ a < nS t) ∧ 0 ≤ b ∧ b < nS t then (if nS t ≤ 20000 then (0, lof t (SB t b) a k) else (4, xS)) else (4, xN)) := by
  have C := A.nb
  unfold f_Nb_shortest
  simp only [C]
  rw [chk_t trivial, s_Nb_needStand A K]
  by_cases g : 0 ≤ a ∧ a < nS t
  · rw [if_pos g, bndT_ok (by decide)]
    simp only [C]
    rw [chk_t trivial, s_Nb_needStand A K]
    by_cases g2 : 0 ≤ b ∧ b < nS t
    · rw [if_pos g2, bndT_ok (by decide), if_pos ⟨g, g2⟩]
      simp only [C]
      rw [chk_t trivial]
      refine CR_graph A K (fun h1 p1 L1 M1 A1 K1 G1 F1 hS2 => ?_)
      have C1 := A1.nb
      have D1 := A1.p51
      obtain ⟨h2, p2, L2, M2, f2, A2, op2, oL2, F2, K2, G2, P2⟩ := s_seek51 A1 K1 hS2 G1 g2.1 g2.2
      have C2 := A2.nb
      have D2 := A2.p51
      simp only [C1, D1]
      rw [chk_t trivial, chk_t trivial, chk_t trivial, f2, bndT_ok (by decide)]
      simp only [C2, D2]
      rw [chk_t trivial, chk_t trivial, chk_t trivial, s_Paths_lineOf A2 K.W hS2 G2 P2 g2.1 g2.2 g.1 g.2, bndT_ok (by decide)]
      exact CR_mv (F2.mono (by decide)) (CR_ok A2 K2)
    · rw [if_neg g2, bndT_ex, if_neg (fun x => g2 x.2)]; exact CR_ex A K
  · rw [if_neg g, bndT_ex, if_neg (fun x => g x.1)]; exact CR_ex A K
theorem c_opening (A : At h c p L M) {t : tT} (K : KS E M L t) (k : Int) : CR c M E t (f_Nb_opening h 1 k) (if nS t ≤ 20000 then (0, lof t (SB t (st t (po t))) (st t (pa t)) k) else (4, xS)) := by
  have C := A.nb
  unfold f_Nb_opening
  simp only [C]
  rw [chk_t trivial]
  refine CR_graph A K (fun h1 p1 L1 M1 A1 K1 G1 F1 hS2 => ?_)
  have C1 := A1.nb
  simp only [C1]
  rw [chk_t trivial]
  refine CR_open A1 K1 hS2 G1 (fun h2 p2 L2 M2 A2 K2 G2 P2 _ => ?_)
  have C2 := A2.nb
  have D2 := A2.b5
  have E2 := A2.p51
  simp only [C2, D2]
  rw [chk_t trivial, chk_t trivial, chk_t trivial, chk_t trivial, chk_t trivial, s_standNow5 A2 K2, bndT_ok (by decide)]
  simp only [E2]
  rw [chk_t trivial, s_Paths_lineOf A2 K.W hS2 G2 P2 K.opn.1 K.opn.2 K.now.1 K.now.2, bndT_ok (by decide)]
  exact CR_ok A2 K2
theorem c_farthest (A : At h c p L M) {t : tT} (K : KS E M L t) (w : Int) : ∃ b, (nS t ≤ 20000 → Fst (SF t (st t (pa t))) (nS t) b) ∧ CR c M E t (f_Nb_farthest h 1 w) (if nS t ≤ 20000 then (if w = 0 then (0, bF (SF t (st t (pa t))) b) else if w = 1 then (0, b) else (4, xA)) else (4, xS)) := by
  have C := A.nb
  have hk : PK 48 49 50 := by unfold PK; decide
  by_cases hS2 : nS t ≤ 20000
  · obtain ⟨b, hb⟩ : ∃ b, Fst (SF t (st t (pa t))) (nS t) b := by
      obtain ⟨h1, p1, L1, M1, f1, A1, -, -, F1, K1, G1, P1⟩ := s_Nb_fromNow A K hS2
      obtain ⟨b, -, hb⟩ := s_Paths_farthestStand A1 K.W hS2 K.now.1 K.now.2 P1
      exact ⟨b, hb⟩
    refine ⟨b, fun _ => hb, ?_⟩
    unfold f_Nb_farthest
    simp only [C]
    rw [chk_t trivial]
    refine CR_graph A K (fun h1 p1 L1 M1 A1 K1 G1 F1 hS2 => ?_)
    have C1 := A1.nb
    have j24 : w = 0 ∨ w = 1 → CR c M1 E t (f_Nb_farthest_J24 1 w h1) (if w = 0 then (0, bF (SF t (st t (pa t))) b) else if w = 1 then (0, b) else (4, xA)) := fun hw => by
      unfold f_Nb_farthest_J24
      simp only [C1]
      rw [chk_t trivial]
      refine CR_now A1 K1 hS2 (fun h2 p2 L2 M2 A2 K2 G2 P2 => ?_)
      obtain ⟨b2, e2, hb2⟩ := s_Paths_farthestStand A2 K.W hS2 K.now.1 K.now.2 P2
      rw [hb2.uniq hb] at e2
      have C2 := A2.p48
      simp only [C2]
      rw [chk_t trivial, e2, bndT_ok (by decide)]
      rcases hw with rfl | rfl
      · have far : f_Paths_farOf h2 48 b = some ((0, bF (SF t (st t (pa t))) b), h2) := PR_far A2 hk P2 hb.1.1 hb.1.2
        simp only [C2]
        rw [if_pos trivial, if_pos trivial, chk_t trivial, far, bndT_ok (by decide)]
        exact CR_ok A2 K2
      · rw [if_neg (by decide), if_neg (by decide), if_pos rfl]; exact CR_ok A2 K2
    by_cases w0 : w = 0
    · rw [if_pos w0]; exact j24 (Or.inl w0)
    · rw [if_neg w0]
      by_cases w1 : w = 1
      · rw [if_pos w1]; exact j24 (Or.inr w1)
      · rw [if_neg w1, if_neg w0, if_neg w1]; exact CR_ex A1 K1
  · refine ⟨0, fun e => absurd e hS2, ?_⟩
    unfold f_Nb_farthest
    simp only [C]
    rw [chk_t trivial, if_neg hS2]
    have := CR_graph (v := (0, 0)) A K (k := fun x2 h1 => (if w = (0 : Int) then f_Nb_farthest_J24 1 w h1 else (if w = 1 then f_Nb_farthest_J24 1 w h1 else some ((4, exNo "java/lang/IllegalArgumentException"), halc h1 0 0 6)))) (fun h1 p1 L1 M1 A1 K1 G1 F1 e => absurd e hS2)
    rw [if_neg hS2] at this
    exact this
theorem c_within (A : At h c p L M) {t : tT} (K : KS E M L t) (m : Int) : CR c M E t (f_Nb_within h 1 m) (if nS t ≤ 20000 then (if 0 ≤ m ∧ m ≤ 999 then (0, cnN (fun i => decide (bF (SF t (st t (pa t))) (bO (SF t (st t (pa t))) i) ≤ m)) (bM (SF t (st t (pa t)))).toNat) else (4, xA)) else (4, xS)) := by
  have C := A.nb
  unfold f_Nb_within
  simp only [C]
  rw [chk_t trivial]
  refine CR_graph A K (fun h1 p1 L1 M1 A1 K1 G1 F1 hS2 => ?_)
  have C1 := A1.nb
  by_cases g : m < 0
  · rw [if_pos g, if_neg (by omega)]; exact CR_ex A1 K1
  · rw [if_neg g]
    by_cases g2 : m ≤ 999
    · rw [if_pos g2, if_pos (by omega)]
      simp only [C1]
      rw [chk_t trivial]
      refine CR_now A1 K1 hS2 (fun h2 p2 L2 M2 A2 K2 G2 P2 => ?_)
      have C2 := A2.p48
      simp only [C2]
      rw [chk_t trivial, s_Paths_manyWithin A2 K.W hS2 K.now.1 K.now.2 P2, bndT_ok (by decide)]
      exact CR_ok A2 K2
    · rw [if_neg g2, if_neg (by omega)]; exact CR_ex A1 K1
theorem c_fromStart (A : At h c p L M) {t : tT} (K : KS E M L t) (s : Int) : CR c M E t (f_Nb_fromStart h 1 s) (if 0 ≤ s ∧ s < nS t then (if nS t ≤ 20000 then (0, b2i (decide (bF (SF t (st t (ps t))) s ≠ -1))) else (4, xS)) else (4, xN)) := by
  have C := A.nb
  have hk : PK 54 55 56 := by unfold PK; decide
  unfold f_Nb_fromStart
  simp only [C]
  rw [chk_t trivial, s_Nb_needStand A K]
  by_cases g : 0 ≤ s ∧ s < nS t
  · rw [if_pos g, if_pos g, bndT_ok (by decide)]
    simp only [C]
    rw [chk_t trivial]
    refine CR_graph A K (fun h1 p1 L1 M1 A1 K1 G1 F1 hS2 => ?_)
    have C1 := A1.nb
    have D1 := A1.b5
    have E1 := A1.p54
    have B1 := BH.of5 A1 K1.R
    have hps := st_rng K.W K.W.rstart
    obtain ⟨h2, p2, L2, M2, f2, A2, op2, oL2, F2, K2, G2, P2⟩ := s_seek54 A1 K1 hS2 G1 hps.1 hps.2
    have C2 := A2.nb
    have E2 := A2.p54
    have so : f_Box_standOf h1 5 7 = some ((0, st t (ps t)), h1) := by
      refine s_Box_standOf B1 K.W (a := 7) (row := ps t) ⟨?_, ?_, fun b g0 g1 => ?_⟩ K.W.rstart
      · simp only [D1]
      · simp only [D1]; decide
      · have := B1.V7 b g0 g1
        simp only [D1] at this ⊢; exact this
    simp only [C1, D1]
    rw [chk_t trivial, chk_t trivial, chk_t trivial, chk_t trivial, chk_t trivial, chk_t trivial, so, bndT_ok (by decide)]
    simp only [E1]
    have far : f_Paths_farOf h2 54 s = some ((0, bF (SF t (st t (ps t))) s), h2) := PR_far A2 hk P2 g.1 g.2
    rw [chk_t trivial, f2, bndT_ok (by decide)]
    simp only [C2, E2]
    rw [chk_t trivial, chk_t trivial, far, bndT_ok (by decide)]
    refine CR_mv (F2.mono (by decide)) ?_
    by_cases e : bF (SF t (st t (ps t))) s = -1
    · rw [if_pos e, chk_t (by simp), decide_eq_false (by simp [e])]; exact CR_ok A2 K2
    · rw [if_neg e, chk_t (by simp), decide_eq_true e]; exact CR_ok A2 K2
  · rw [if_neg g, if_neg g, bndT_ex]; exact CR_ex A K
theorem c_reached (A : At h c p L M) {t : tT} (K : KS E M L t) : CR c M E t (f_Nb_reached h 1) (0, if 20000 < nS t then -1000 else bM (SF t (st t (pa t)))) := by
  obtain ⟨h1, p1, L1, M1, f1, A1, -, -, F1, K1⟩ := s_Nb_reached A K
  exact ⟨h1, c, p1, L1, M1, f1, A1, by omega, F1.a, K1⟩
theorem c_stand (A : At h c p L M) {t : tT} (K : KS E M L t) : CR c M E t (f_Nb_stand h 1) (0, if 20000 < nS t then -1000 else st t (pa t)) := by
  rw [s_Nb_stand A K]; exact CR_ok A K
end
