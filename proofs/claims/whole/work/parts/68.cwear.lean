/-! what one more worn bar opens -/
def wW (t : tT) (b c : Int) : Bool := wS t c || decide (c = b)
def iw (t : tT) (b : Int) : Int := bF (bfs (th t false X0 (wW t b)) (nK t) (nN t) (st t (pa t))) (st t (po t))
/-- the bar by which it is least, the first; and how many steps then -/
def wk (t : tT) : Nat → Int × Int
  | 0 => (-1, -1)
  | b + 1 => if iw t b = -1 ∨ ((wk t b).1 ≠ -1 ∧ (wk t b).2 ≤ iw t b) then wk t b else (b, iw t b)
section
variable {h : mH} {c : Int} {p L : Int → Int} {M : aM} {E : Int → tT}
/-- aside: from now towards OPEN with the steps of tried -/
theorem s_aside (A : At h c p L M) {t : tT} (K : KS E M L t) (hS2 : nS t ≤ 20000) (G : GS M L t) {nx : Int → Int → Int} (N : NX nx (nK t) (nN t)) (F47 : GF M 47 (nK t) (nN t) nx) (hL : nS t ≤ L 47) {z goal : Int} (hz0 : 0 ≤ z) (hz1 : z < nS t) (hg0 : 0 ≤ goal) (hg1 : goal < nS t) :
    ∃ h' p' L' M', f_Paths_spread h 54 41 (p 47) z goal = some ((3, 0), h') ∧ At h' c p' L' M' ∧ Of [55, 56] p p' ∧ Of [55, 56] L L' ∧ Fr [54, 55, 56] M M' ∧ KS E M' L' t ∧ f_Paths_farOf h' 54 goal = some ((0, bF (bfs nx (nK t) (nN t) z) goal), h') := by
  have hk : PK 54 55 56 := by unfold PK; decide
  have hnn := nN_eq K.W
  have hkk := nK_rng K.W
  have hS := nS_rng K.W
  obtain ⟨h1, p1, L1, M1, f1, A1, op, oL, lf, lo, F, v3, j, Q, hj⟩ := s_Paths_spread A hk (n := nN t) (K := nK t) (by omega) (by omega) hkk.1 (by rw [hkk.2]; exact G.1.2.1) (by rw [hnn]; exact G.1.1) (g := 47) (Or.inr rfl) (by rw [hnn]; exact hL) N (Or.inl ⟨K.p3.2.2, F47⟩) (GS_42 K.W G) (z := z) (goal := goal) hz0 (by omega)
  have hF : Fr [54, 55, 56] M M1 := fun v hv => by
    simp only [List.mem_cons, List.not_mem_nil, or_false, not_or] at hv
    exact F.1 v (by simp; omega) (by omega)
  have m1 : M1 1 = M 1 := hF 1 (by decide)
  refine ⟨h1, p1, L1, M1, f1, A1, op, oL, hF, ⟨K.R.eq (fun v g0 g1 => hF v (by simp; omega)), K.W, K.D, by rw [hF 5 (by decide)]; exact K.S, by rw [m1, hF 5 (by decide)]; exact K.e, K.G.keep (fun v hv => hF v (by
    simp only [List.mem_cons, List.not_mem_nil, or_false] at hv
    rcases hv with rfl | rfl | rfl | rfl | rfl | rfl <;> decide)) (fun v hv => oL v (by
    simp only [List.mem_cons, List.not_mem_nil, or_false] at hv
    rcases hv with rfl | rfl | rfl <;> decide)), K.p1.keep m1 (hF _ (by decide)) (hF _ (by decide)) (hF _ (by decide)) (oL _ (by decide)) (oL _ (by decide)), K.p2.keep m1 (hF _ (by decide)) (hF _ (by decide)) (hF _ (by decide)) (oL _ (by decide)) (oL _ (by decide)),
    ⟨Or.inl v3, by rw [F.2 1 (by decide), m1]; exact K.p3.2.1, by rw [F.2 0 (by decide)]; exact K.p3.2.2⟩, K.N.keep m1 (hF _ (by decide)) (hF _ (by decide))⟩, ?_⟩
  rw [s_Paths_farOf A1 hk, if_pos ⟨hg0, by omega⟩, Q.1 goal hg0 (by omega)]
  congr 3
  rcases hj with hj | ⟨-, -, hj⟩
  · rw [bfs_end N hz0 (by omega) hj]
  · rw [Q.1 goal hg0 (by omega)] at hj
    exact bfs_far N hz0 (by omega) hj
theorem s_openingIfWorn (A : At h c p L M) {t : tT} (K : KS E M L t) (hS2 : nS t ≤ 20000) (G : GP M M L t) {b : Int} (hb0 : 0 ≤ b) (hb1 : b < nb t) :
    ∃ h' p' L' M', f_Nb_openingIfWorn h 1 b = some ((0, iw t b), h') ∧ At h' c p' L' M' ∧ Fr [47, 54, 55, 56] M M' ∧ KS E M' L' t ∧ GP M' M' L' t := by
  have hn := K.W.1
  have C := A.nb
  have D := A.gr
  obtain ⟨h1, p1, L1, M1, f1, A1, op1, oL1, F1, G1⟩ := s_Graph_wearMore A K.W hS2 G.1 (qshl 3 (2 * b))
  have K1 : KS E M1 L1 t := K.keep (fun v hv => F1 v (by unfold kO at hv; simp; omega)) (fun v hv => oL1 v (by unfold kO at hv; simp; omega))
  have GP1 : GP M1 M1 L1 t := G.fr (fun v hv => F1 v (by
    simp only [List.mem_cons, List.not_mem_nil, or_false] at hv
    rcases hv with rfl | rfl | rfl | rfl | rfl | rfl <;> decide)) (fun v hv => oL1 v (by
    simp only [List.mem_cons, List.not_mem_nil, or_false] at hv
    rcases hv with rfl | rfl | rfl <;> decide))
  have C1 := A1.nb
  have D1 := A1.gr
  have E1 := A1.b5
  have H1 := A1.p54
  have hbits : ∀ v : Int, 0 ≤ v → v < 2 * nb t → bt (qor (M 41 1) (qshl 3 (2 * b))) v.toNat = wW t b (v / 2) := fun v g0 g1 => by
    rw [bt_qor, G.2.2.2, bt_wB K.W v g0 g1, bt_shl3 hb0 (by omega) (by omega), show ((v.toNat : Nat) : Int) = v by omega]; rfl
  have F47 : GF M1 47 (nK t) (nN t) (th t false X0 (wW t b)) := GG_GF K.W GP1.1 G1 (fun s v _ _ g0 g1 => gm_go K.W hbits g0 g1 X0)
  obtain ⟨h2, p2, L2, M2, f2, A2, op2, oL2, F2, K2, far⟩ := s_aside A1 K1 hS2 GP1.1 (NX_F K.W false X0 (wW t b)) F47 G1.1 (z := st t (pa t)) (goal := st t (po t)) K.now.1 K.now.2 K.opn.1 K.opn.2
  have GP2 : GP M2 M2 L2 t := GP1.fr (fun v hv => F2 v (by
    simp only [List.mem_cons, List.not_mem_nil, or_false] at hv
    rcases hv with rfl | rfl | rfl | rfl | rfl | rfl <;> decide)) (fun v hv => oL2 v (by
    simp only [List.mem_cons, List.not_mem_nil, or_false] at hv
    rcases hv with rfl | rfl | rfl <;> decide))
  have C2 := A2.nb
  have D2 := A2.gr
  have H2 := A2.p54
  refine ⟨h2, p2, L2, M2, ?_, A2, (F1.mono (by decide)).tr (F2.mono (by decide)), K2, GP2⟩
  unfold f_Nb_openingIfWorn
  simp only [C, D]
  rw [chk_t trivial, chk_t trivial, w32_2b hb0 (by omega), f1, bndT_ok (by decide)]
  simp only [C1, D1, E1]
  rw [chk_t trivial, chk_t trivial, chk_t trivial, chk_t trivial, chk_t trivial, chk_t trivial, chk_t trivial, chk_t trivial, s_standNow5 A1 K1, bndT_ok (by decide)]
  simp only [C1, D1, H1]
  rw [chk_t trivial, chk_t trivial, chk_t trivial, GP1.1.1.2.2, f2, bndT_ok (by decide)]
  simp only [C2, D2, H2]
  rw [chk_t trivial, chk_t trivial, chk_t trivial, chk_t trivial, GP2.1.1.2.2, far, bndT_ok (by decide)]
  rfl
theorem c_ifWorn (A : At h c p L M) {t : tT} (K : KS E M L t) (b : Int) : CR c M E t (f_Nb_ifWorn h 1 b) (if 0 ≤ b ∧ b < nb t then (if nS t ≤ 20000 then (0, iw t b) else (4, xS)) else (4, xN)) := by
  have C := A.nb
  unfold f_Nb_ifWorn
  simp only [C]
  rw [chk_t trivial, s_Nb_needBar A K]
  by_cases g : 0 ≤ b ∧ b < nb t
  · rw [if_pos g, if_pos g, bndT_ok (by decide)]
    simp only [C]
    rw [chk_t trivial]
    refine CR_graph A K (fun h1 p1 L1 M1 A1 K1 G1 F1 hS2 => ?_)
    have C1 := A1.nb
    simp only [C1]
    obtain ⟨h2, p2, L2, M2, f2, A2, F2, K2, G2⟩ := s_openingIfWorn A1 K1 hS2 G1 g.1 g.2
    rw [chk_t trivial, f2, bndT_ok (by decide)]
    exact CR_mv (F2.mono (by decide)) (CR_ok A2 K2)
  · rw [if_neg g, if_neg g, bndT_ex]; exact CR_ex A K
theorem c_weakest (A : At h c p L M) {t : tT} (K : KS E M L t) : CR c M E t (f_Nb_weakest h 1) (if nS t ≤ 20000 then (0, (wk t (nb t).toNat).1) else (4, xS)) := by
  have C := A.nb
  have hn := K.W.1
  unfold f_Nb_weakest
  simp only [C]
  rw [chk_t trivial]
  refine CR_graph A K (fun h1 p1 L1 M1 A1 K1 G1 F1 hS2 => ?_)
  refine loop_r (F := fun m (b : mH × Int × Int × Int) => f_Nb_weakest_L10 1 m b.1 b.2.1 b.2.2.1 b.2.2.2) (P := fun r => CR c M1 E t r (0, (wk t (nb t).toNat).1)) (fun i b => b.2 = ((wk t i).1, (wk t i).2, (i : Int)) ∧ ∃ p' L' M', At b.1 c p' L' M' ∧ Fr [47, 54, 55, 56] M1 M' ∧ KS E M' L' t ∧ GP M' M' L' t) (nb t).toNat (fun i hi b hb m => ?_) (fun b hb m => ?_) (i := 0) (b := (h1, -1, -1, 0)) ⟨rfl, p1, L1, M1, A1, Fr.rf _ _, K1, G1⟩ (by omega) (by omega)
  · obtain ⟨h2, r⟩ := b
    obtain ⟨hr_, p2, L2, M2, A2_, F2, K2, G2⟩ := hb
    have hr : r = ((wk t i).1, (wk t i).2, (i : Int)) := hr_
    have A2 : At h2 c p2 L2 M2 := A2_
    clear hr_ A2_
    subst hr
    right
    have C2 := A2.nb
    have B2 := BH.of5 A2 K2.R
    obtain ⟨h3, p3, L3, M3, f3, A3, F3, K3, G3⟩ := s_openingIfWorn A2 K2 hS2 G2 (b := i) (by omega) (by omega)
    refine ⟨(h3, (wk t (i + 1)).1, (wk t (i + 1)).2, ((i + 1 : Nat) : Int)), ⟨rfl, p3, L3, M3, A3, F2.tr F3, K3, G3⟩, ?_⟩
    have j50 : ∀ a b, f_Nb_weakest_J50 (f_Nb_weakest_L10 1 m) a b i h3 = f_Nb_weakest_L10 1 m h3 a b ((i + 1 : Nat) : Int) := fun a b => by
      unfold f_Nb_weakest_J50; rw [wtv, w32_n i (by omega)]
    show f_Nb_weakest_L10 1 (m + 1) h2 (wk t i).1 (wk t i).2 i = f_Nb_weakest_L10 1 m h3 (wk t (i + 1)).1 (wk t (i + 1)).2 ((i + 1 : Nat) : Int)
    rw [f_Nb_weakest_L10]
    simp only [C2]
    unfold f_Nb_weakest_J45
    rw [chk_t trivial, chk_t B2.T, B2.s2, if_neg (by omega), chk_t trivial, f3, bndT_ok (by decide), j50, j50]
    rw [wk]
    by_cases g1 : iw t i = -1
    · rw [if_pos g1, if_pos (Or.inl g1)]
    · rw [if_neg g1]
      by_cases g2 : (wk t i).1 = -1
      · rw [if_pos g2, if_neg (by rintro (q | q); exact g1 q; exact q.1 g2)]
      · rw [if_neg g2]
        by_cases g3 : (wk t i).2 ≤ iw t i
        · rw [if_pos g3, if_pos (Or.inr ⟨g2, g3⟩)]
        · rw [if_neg g3, if_neg (by rintro (q | q); exact g1 q; exact g3 q.2)]
  · obtain ⟨h2, r⟩ := b
    obtain ⟨hr_, p2, L2, M2, A2_, F2, K2, G2⟩ := hb
    have hr : r = ((wk t (nb t).toNat).1, (wk t (nb t).toNat).2, ((nb t).toNat : Int)) := hr_
    have A2 : At h2 c p2 L2 M2 := A2_
    clear hr_ A2_
    subst hr
    have C2 := A2.nb
    have B2 := BH.of5 A2 K2.R
    show CR c M1 E t (f_Nb_weakest_L10 1 (m + 1) h2 (wk t (nb t).toNat).1 (wk t (nb t).toNat).2 ((nb t).toNat : Int)) _
    rw [f_Nb_weakest_L10]
    simp only [C2]
    rw [chk_t trivial, chk_t B2.T, B2.s2, if_pos (by omega)]
    exact CR_mv (F2.mono (by decide)) (CR_ok A2 K2)
end
