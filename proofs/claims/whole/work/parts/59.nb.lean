section
variable {h : mH} {c : Int} {p L : Int → Int} {M : aM} {E : Int → tT}
theorem GP.fr {M M' : aM} {L L' : Int → Int} {t : tT} (G : GP M M L t) (h : ∀ v ∈ [(5 : Int), 41, 42, 44, 45, 46], M' v = M v) (hL : ∀ v ∈ [(44 : Int), 45, 46], L' v = L v) : GP M' M' L' t := by
  unfold GP GS GG at G ⊢
  rw [h 5 (by decide), h 41 (by decide), h 42 (by decide), h 44 (by decide), h 45 (by decide), h 46 (by decide), hL 44 (by decide), hL 45 (by decide), hL 46 (by decide)]
  exact G
theorem PR.fr {M M' : aM} {L L' : Int → Int} {k f o : Int} {t : tT} {z : Int} {bk : Bool} (P : PR M L k f o t z bk) (hk : M' k = M k) (hf : M' f = M f) (ho : M' o = M o) (hLf : L' f = L f) (hLo : L' o = L o) : PR M' L' k f o t z bk := by
  unfold PR PI at P ⊢
  rw [hk, hf, ho, hLf, hLo]
  exact P
theorem s_seek48 (A : At h c p L M) {t : tT} (K : KS E M L t) (hS2 : nS t ≤ 20000) (G : GP M M L t) {z : Int} (hz0 : 0 ≤ z) (hz1 : z < nS t) :
    ∃ h' p' L' M', f_Paths_seek h 48 41 z = some ((3, 0), h') ∧ At h' c p' L' M' ∧ Of [49, 50] p p' ∧ Of [49, 50] L L' ∧ Fr [48, 49, 50] M M' ∧ KS E M' L' t ∧ GP M' M' L' t ∧ PR M' L' 48 49 50 t z false := by
  have hk : PK 48 49 50 := by unfold PK; decide
  obtain ⟨h1, p1, L1, M1, f1, A1, op, oL, F, P1, e1, c1⟩ := s_Paths_seek (bk := false) A hk K.p1.2.2 K.W hS2 G.1 G.2.1 G.2.2.2 (E := E) (by rw [G.2.2.1]; exact K.S) K.p1.1 hz0 hz1
  have hF : Fr [48, 49, 50] M M1 := fun v hv => by
    simp only [List.mem_cons, List.not_mem_nil, or_false, not_or] at hv
    exact F.1 v (by simp; omega) (by omega)
  have m1 : M1 1 = M 1 := hF 1 (by decide)
  have kp : ∀ v, v ∉ [(48 : Int), 49, 50] → M1 v = M v := hF
  have KK : IP E M1 L1 48 49 50 false := ⟨c1, by rw [e1, m1]; exact K.G.2, by rw [F.2 0 (by decide)]; exact K.p1.2.2⟩
  have G1 := G.fr (M' := M1) (L' := L1) (fun v hv => hF v (by
    simp only [List.mem_cons, List.not_mem_nil, or_false] at hv
    rcases hv with rfl | rfl | rfl | rfl | rfl | rfl <;> decide)) (fun v hv => oL v (by
    simp only [List.mem_cons, List.not_mem_nil, or_false] at hv
    rcases hv with rfl | rfl | rfl <;> decide))
  refine ⟨h1, p1, L1, M1, f1, A1, op, oL, hF, ?_, G1, P1⟩
  have K2 : IG E M1 L1 := K.G.keep (fun v hv => hF v (by
    simp only [List.mem_cons, List.not_mem_nil, or_false] at hv
    rcases hv with rfl | rfl | rfl | rfl | rfl | rfl <;> decide)) (fun v hv => oL v (by
    simp only [List.mem_cons, List.not_mem_nil, or_false] at hv
    rcases hv with rfl | rfl | rfl <;> decide))
  have kk1 : IP E M1 L1 48 49 50 false := by first | exact KK | exact K.p1.keep m1 (hF _ (by decide)) (hF _ (by decide)) (hF _ (by decide)) (oL _ (by decide)) (oL _ (by decide))
  have kk2 : IP E M1 L1 51 52 53 true := by first | exact KK | exact K.p2.keep m1 (hF _ (by decide)) (hF _ (by decide)) (hF _ (by decide)) (oL _ (by decide)) (oL _ (by decide))
  have kk3 : IP E M1 L1 54 55 56 false := by first | exact KK | exact K.p3.keep m1 (hF _ (by decide)) (hF _ (by decide)) (hF _ (by decide)) (oL _ (by decide)) (oL _ (by decide))
  exact ⟨K.R.eq (fun v g0 g1 => hF v (by simp; omega)), K.W, K.D, by rw [hF 5 (by decide)]; exact K.S, by rw [m1, hF 5 (by decide)]; exact K.e, K2, kk1, kk2, kk3, K.N.keep m1 (hF _ (by decide)) (hF _ (by decide))⟩
theorem s_seek51 (A : At h c p L M) {t : tT} (K : KS E M L t) (hS2 : nS t ≤ 20000) (G : GP M M L t) {z : Int} (hz0 : 0 ≤ z) (hz1 : z < nS t) :
    ∃ h' p' L' M', f_Paths_seek h 51 41 z = some ((3, 0), h') ∧ At h' c p' L' M' ∧ Of [52, 53] p p' ∧ Of [52, 53] L L' ∧ Fr [51, 52, 53] M M' ∧ KS E M' L' t ∧ GP M' M' L' t ∧ PR M' L' 51 52 53 t z true := by
  have hk : PK 51 52 53 := by unfold PK; decide
  obtain ⟨h1, p1, L1, M1, f1, A1, op, oL, F, P1, e1, c1⟩ := s_Paths_seek (bk := true) A hk K.p2.2.2 K.W hS2 G.1 G.2.1 G.2.2.2 (E := E) (by rw [G.2.2.1]; exact K.S) K.p2.1 hz0 hz1
  have hF : Fr [51, 52, 53] M M1 := fun v hv => by
    simp only [List.mem_cons, List.not_mem_nil, or_false, not_or] at hv
    exact F.1 v (by simp; omega) (by omega)
  have m1 : M1 1 = M 1 := hF 1 (by decide)
  have kp : ∀ v, v ∉ [(51 : Int), 52, 53] → M1 v = M v := hF
  have KK : IP E M1 L1 51 52 53 true := ⟨c1, by rw [e1, m1]; exact K.G.2, by rw [F.2 0 (by decide)]; exact K.p2.2.2⟩
  have G1 := G.fr (M' := M1) (L' := L1) (fun v hv => hF v (by
    simp only [List.mem_cons, List.not_mem_nil, or_false] at hv
    rcases hv with rfl | rfl | rfl | rfl | rfl | rfl <;> decide)) (fun v hv => oL v (by
    simp only [List.mem_cons, List.not_mem_nil, or_false] at hv
    rcases hv with rfl | rfl | rfl <;> decide))
  refine ⟨h1, p1, L1, M1, f1, A1, op, oL, hF, ?_, G1, P1⟩
  have K2 : IG E M1 L1 := K.G.keep (fun v hv => hF v (by
    simp only [List.mem_cons, List.not_mem_nil, or_false] at hv
    rcases hv with rfl | rfl | rfl | rfl | rfl | rfl <;> decide)) (fun v hv => oL v (by
    simp only [List.mem_cons, List.not_mem_nil, or_false] at hv
    rcases hv with rfl | rfl | rfl <;> decide))
  have kk1 : IP E M1 L1 48 49 50 false := by first | exact KK | exact K.p1.keep m1 (hF _ (by decide)) (hF _ (by decide)) (hF _ (by decide)) (oL _ (by decide)) (oL _ (by decide))
  have kk2 : IP E M1 L1 51 52 53 true := by first | exact KK | exact K.p2.keep m1 (hF _ (by decide)) (hF _ (by decide)) (hF _ (by decide)) (oL _ (by decide)) (oL _ (by decide))
  have kk3 : IP E M1 L1 54 55 56 false := by first | exact KK | exact K.p3.keep m1 (hF _ (by decide)) (hF _ (by decide)) (hF _ (by decide)) (oL _ (by decide)) (oL _ (by decide))
  exact ⟨K.R.eq (fun v g0 g1 => hF v (by simp; omega)), K.W, K.D, by rw [hF 5 (by decide)]; exact K.S, by rw [m1, hF 5 (by decide)]; exact K.e, K2, kk1, kk2, kk3, K.N.keep m1 (hF _ (by decide)) (hF _ (by decide))⟩
theorem s_seek54 (A : At h c p L M) {t : tT} (K : KS E M L t) (hS2 : nS t ≤ 20000) (G : GP M M L t) {z : Int} (hz0 : 0 ≤ z) (hz1 : z < nS t) :
    ∃ h' p' L' M', f_Paths_seek h 54 41 z = some ((3, 0), h') ∧ At h' c p' L' M' ∧ Of [55, 56] p p' ∧ Of [55, 56] L L' ∧ Fr [54, 55, 56] M M' ∧ KS E M' L' t ∧ GP M' M' L' t ∧ PR M' L' 54 55 56 t z false := by
  have hk : PK 54 55 56 := by unfold PK; decide
  obtain ⟨h1, p1, L1, M1, f1, A1, op, oL, F, P1, e1, c1⟩ := s_Paths_seek (bk := false) A hk K.p3.2.2 K.W hS2 G.1 G.2.1 G.2.2.2 (E := E) (by rw [G.2.2.1]; exact K.S) K.p3.1 hz0 hz1
  have hF : Fr [54, 55, 56] M M1 := fun v hv => by
    simp only [List.mem_cons, List.not_mem_nil, or_false, not_or] at hv
    exact F.1 v (by simp; omega) (by omega)
  have m1 : M1 1 = M 1 := hF 1 (by decide)
  have kp : ∀ v, v ∉ [(54 : Int), 55, 56] → M1 v = M v := hF
  have KK : IP E M1 L1 54 55 56 false := ⟨c1, by rw [e1, m1]; exact K.G.2, by rw [F.2 0 (by decide)]; exact K.p3.2.2⟩
  have G1 := G.fr (M' := M1) (L' := L1) (fun v hv => hF v (by
    simp only [List.mem_cons, List.not_mem_nil, or_false] at hv
    rcases hv with rfl | rfl | rfl | rfl | rfl | rfl <;> decide)) (fun v hv => oL v (by
    simp only [List.mem_cons, List.not_mem_nil, or_false] at hv
    rcases hv with rfl | rfl | rfl <;> decide))
  refine ⟨h1, p1, L1, M1, f1, A1, op, oL, hF, ?_, G1, P1⟩
  have K2 : IG E M1 L1 := K.G.keep (fun v hv => hF v (by
    simp only [List.mem_cons, List.not_mem_nil, or_false] at hv
    rcases hv with rfl | rfl | rfl | rfl | rfl | rfl <;> decide)) (fun v hv => oL v (by
    simp only [List.mem_cons, List.not_mem_nil, or_false] at hv
    rcases hv with rfl | rfl | rfl <;> decide))
  have kk1 : IP E M1 L1 48 49 50 false := by first | exact KK | exact K.p1.keep m1 (hF _ (by decide)) (hF _ (by decide)) (hF _ (by decide)) (oL _ (by decide)) (oL _ (by decide))
  have kk2 : IP E M1 L1 51 52 53 true := by first | exact KK | exact K.p2.keep m1 (hF _ (by decide)) (hF _ (by decide)) (hF _ (by decide)) (oL _ (by decide)) (oL _ (by decide))
  have kk3 : IP E M1 L1 54 55 56 false := by first | exact KK | exact K.p3.keep m1 (hF _ (by decide)) (hF _ (by decide)) (hF _ (by decide)) (oL _ (by decide)) (oL _ (by decide))
  exact ⟨K.R.eq (fun v g0 g1 => hF v (by simp; omega)), K.W, K.D, by rw [hF 5 (by decide)]; exact K.S, by rw [m1, hF 5 (by decide)]; exact K.e, K2, kk1, kk2, kk3, K.N.keep m1 (hF _ (by decide)) (hF _ (by decide))⟩
theorem KS.now {M : aM} {L : Int → Int} {t : tT} (K : KS E M L t) : 0 ≤ st t (pa t) ∧ st t (pa t) < nS t := st_rng K.W K.D
theorem WS.ropen {t : tT} (W : WS t) : RW t (po t) := fun b g0 g1 => by have := W.2.2.2.2.2.1 b g0 g1; omega
theorem WS.rstart {t : tT} (W : WS t) : RW t (ps t) := fun b g0 g1 => by have := W.2.2.2.2.2.1 b g0 g1; omega
theorem KS.opn {M : aM} {L : Int → Int} {t : tT} (K : KS E M L t) : 0 ≤ st t (po t) ∧ st t (po t) < nS t := st_rng K.W K.W.ropen
theorem s_standNow5 (A : At h c p L M) {t : tT} (K : KS E M L t) : f_Box_standOf h 5 9 = some ((0, st t (pa t)), h) := by
  have B := BH.of5 A K.R
  have D := A.b5
  refine s_Box_standOf B K.W (a := 9) (row := pa t) ⟨?_, ?_, fun b g0 g1 => ?_⟩ K.D
  · simp only [D]
  · simp only [D]; decide
  · have := B.V9 b g0 g1
    simp only [D] at this ⊢; exact this
/-- what these leave alone: all but the caches -/
abbrev FC : aM → aM → Prop := Fr cL
theorem s_Nb_needGraph (A : At h c p L M) {t : tT} (K : KS E M L t) :
    (20000 < nS t ∧ f_Nb_needGraph h 1 = some ((4, xS), halc h 0 0 6)) ∨ (nS t ≤ 20000 ∧ ∃ h' p' L' M', f_Nb_needGraph h 1 = some ((3, 0), h') ∧ At h' c p' L' M' ∧ Of cG p p' ∧ Of cG L L' ∧ FC M M' ∧ KS E M' L' t ∧ GP M' M' L' t) := by
  have C := A.nb
  have C5 := A.b5
  have Cg := A.gr
  unfold f_Nb_needGraph
  simp only [C]
  rw [chk_t trivial, s_Nb_needFew A K]
  by_cases g : nS t ≤ 20000
  · right
    obtain ⟨h1, p1, L1, M1, f1, A1, op, oL, F, K1, G1⟩ := s_Nb_prep A K g
    refine ⟨g, h1, p1, L1, M1, ?_, A1, op.mono (by decide), oL.mono (by decide), F.mono (by decide), K1, G1⟩
    rw [if_pos g, bndT_ok (by decide)]
    simp only [C, Cg]
    rw [chk_t trivial, chk_t trivial, chk_t trivial, f1, bndT_ok (by decide)]
  · left
    rw [if_neg g, bndT_ex]
    exact ⟨by omega, rfl⟩
theorem s_Nb_fromNow (A : At h c p L M) {t : tT} (K : KS E M L t) (hS2 : nS t ≤ 20000) : ∃ h' p' L' M', f_Nb_fromNow h 1 = some ((2, 48), h') ∧ At h' c p' L' M' ∧ Of cG p p' ∧ Of cG L L' ∧ FC M M' ∧ KS E M' L' t ∧ GP M' M' L' t ∧ PR M' L' 48 49 50 t (st t (pa t)) false := by
  have C := A.nb
  have Cg := A.gr
  obtain ⟨h1, p1, L1, M1, f1, A1, op1, oL1, F1, K1, G1⟩ := s_Nb_prep A K hS2
  have C1 := A1.nb
  have D1 := A1.b5
  have P1 := A1.p48
  obtain ⟨h2, p2, L2, M2, f2, A2, op2, oL2, F2, K2, G2, P2⟩ := s_seek48 A1 K1 hS2 G1 K1.now.1 K1.now.2
  have C2 := A2.nb
  refine ⟨h2, p2, L2, M2, ?_, A2, (op1.mono (by decide)).tr (op2.mono (by decide)), (oL1.mono (by decide)).tr (oL2.mono (by decide)), (F1.mono (by decide)).tr (F2.mono (by decide)), K2, G2, P2⟩
  unfold f_Nb_fromNow
  simp only [C, Cg]
  rw [chk_t trivial, chk_t trivial, chk_t trivial, f1, bndT_ok (by decide)]
  simp only [C1, D1]
  rw [chk_t trivial, chk_t trivial, chk_t trivial, chk_t trivial, chk_t trivial, chk_t trivial, s_standNow5 A1 K1, bndT_ok (by decide)]
  simp only [P1]
  rw [chk_t trivial, f2, bndT_ok (by decide)]
  simp only [C2]
  rw [chk_t trivial]
theorem s_Nb_toOpen (A : At h c p L M) {t : tT} (K : KS E M L t) (hS2 : nS t ≤ 20000) (G : GP M M L t) : ∃ h' p' L' M', f_Nb_toOpen h 1 = some ((2, 51), h') ∧ At h' c p' L' M' ∧ Of cG p p' ∧ Of cG L L' ∧ Fr [41, 42, 43, 44, 45, 46, 51, 52, 53] M M' ∧ (∀ v ∈ [(49 : Int), 50, 55, 56], L' v = L v) ∧ KS E M' L' t ∧ GP M' M' L' t ∧ PR M' L' 51 52 53 t (st t (po t)) true := by
  have C := A.nb
  have Cg := A.gr
  have P1 := A.p51
  obtain ⟨h2, p2, L2, M2, f2, A2, op2, oL2, F2, K2, G2, P2⟩ := s_seek51 A K hS2 G K.opn.1 K.opn.2
  have C2 := A2.nb
  refine ⟨h2, p2, L2, M2, ?_, A2, op2.mono (by decide), oL2.mono (by decide), F2.mono (by decide), fun v hv => ?_, K2, G2, P2⟩
  · unfold f_Nb_toOpen
    simp only [C, Cg, P1]
    rw [chk_t trivial, chk_t trivial, chk_t trivial, chk_t trivial, chk_t trivial, G.1.1.2.2, f2, bndT_ok (by decide)]
    simp only [C2]
    rw [chk_t trivial]
  · simp only [List.mem_cons, List.not_mem_nil, or_false] at hv
    rcases hv with rfl | rfl | rfl | rfl <;> rw [oL2 _ (by decide)]
theorem PR_far (A : At h c p L M) {k f o : Int} (hk : PK k f o) {t : tT} {z : Int} {bk : Bool} (P : PR M L k f o t z bk) {s : Int} (h0 : 0 ≤ s) (h1 : s < nS t) : f_Paths_farOf h k s = some ((0, bF (bfs (nxD bk t (wS t)) (nK t) (nN t) z) s), h) := by
  have := P.1
  rw [s_Paths_farOf A hk, if_pos ⟨h0, by omega⟩, P.2.2.1 s h0 h1]
/-- stand() -/
theorem s_Nb_stand (A : At h c p L M) {t : tT} (K : KS E M L t) : f_Nb_stand h 1 = some ((0, if 20000 < nS t then -1000 else st t (pa t)), h) := by
  have C := A.nb
  have D := A.b5
  unfold f_Nb_stand
  simp only [C]
  rw [chk_t trivial, s_Nb_isSpent A K, bndT_ok (by decide)]
  by_cases g : 20000 < nS t
  · rw [decide_eq_true g, if_neg (by decide), if_pos g]
  · rw [decide_eq_false g, if_pos (by decide), if_neg g]
    simp only [C, D]
    rw [chk_t trivial, chk_t trivial, chk_t trivial, chk_t trivial, s_standNow5 A K, bndT_ok (by decide)]
/-- reached() -/
theorem s_Nb_reached (A : At h c p L M) {t : tT} (K : KS E M L t) : ∃ h' p' L' M', f_Nb_reached h 1 = some ((0, if 20000 < nS t then -1000 else bM (bfs (th t false X0 (wS t)) (nK t) (nN t) (st t (pa t)))), h') ∧ At h' c p' L' M' ∧ Of cG p p' ∧ Of cG L L' ∧ FC M M' ∧ KS E M' L' t := by
  have C := A.nb
  unfold f_Nb_reached
  simp only [C]
  rw [chk_t trivial, s_Nb_isSpent A K, bndT_ok (by decide)]
  by_cases g : 20000 < nS t
  · rw [decide_eq_true g, if_neg (by decide), if_pos g]
    exact ⟨h, p, L, M, rfl, A, Of.rf _ _, Of.rf _ _, Fr.rf _ _, K⟩
  · rw [decide_eq_false g, if_pos (by decide), if_neg g]
    obtain ⟨h1, p1, L1, M1, f1, A1, op, oL, F, K1, G1, P1⟩ := s_Nb_fromNow A K (by omega)
    have D1 := A1.p48
    simp only [C]
    rw [chk_t trivial, f1, bndT_ok (by decide)]
    simp only [D1]
    rw [chk_t trivial, P1.2.2.2.2]
    exact ⟨h1, p1, L1, M1, rfl, A1, op, oL, F, K1⟩
end
