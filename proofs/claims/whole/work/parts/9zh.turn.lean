/-! THE TURNS OF THE LAW: calls that ask -/
section
variable {h : mH} {c : Int} {p L : Int → Int} {M : aM} {E : Int → tT} {o t : tT} {n i : Int}
theorem LW1 {u : tT} {tg : Nat} (htg : tg ≠ 4) {F : Option mR} {v : mV} {k y e1 : Int} (r : CS c M E u F v) {KX : Int → mH → Option mR} (H1 : ∀ h1, KX e1 h1 = some ((0, 1), h1)) (hv : (k = 0 ∧ v = (tg, y)) ∨ (k = 1 ∧ v = (4, e1))) : LW c M E u (bndC tg F (fun x2 h1 => chk (hpT h1 99 = 22) (chk ((0 : Int) ≤ 0 ∧ 0 < hpL h1 99) (wth (hput h1 99 0 x2) (fun h3 => some ((0, 0), h3))))) KX) k y := by
  rcases hv with q | ⟨rfl, rfl⟩
  · exact LW_of htg r (e := e1) (Or.inl q) (fun k0 => absurd q.1 k0)
  · exact LW_ex r (by decide) H1
theorem LW2 {u : tT} {tg : Nat} (htg : tg ≠ 4) {F : Option mR} {v : mV} {k y e1 e2 : Int} (r : CS c M E u F v) {KX : Int → mH → Option mR} (H1 : ∀ h1, KX e1 h1 = some ((0, 1), h1)) (H2 : ∀ h1, KX e2 h1 = some ((0, 2), h1)) (hv : (k = 0 ∧ v = (tg, y)) ∨ (k = 1 ∧ v = (4, e1)) ∨ (k = 2 ∧ v = (4, e2))) : LW c M E u (bndC tg F (fun x2 h1 => chk (hpT h1 99 = 22) (chk ((0 : Int) ≤ 0 ∧ 0 < hpL h1 99) (wth (hput h1 99 0 x2) (fun h3 => some ((0, 0), h3))))) KX) k y := by
  rcases hv with q | ⟨rfl, rfl⟩ | ⟨rfl, rfl⟩
  · exact LW_of htg r (e := e1) (Or.inl q) (fun k0 => absurd q.1 k0)
  · exact LW_ex r (by decide) H1
  · exact LW_ex r (by decide) H2
theorem LW3 {u : tT} {tg : Nat} (htg : tg ≠ 4) {F : Option mR} {v : mV} {k y e1 e2 e3 : Int} (r : CS c M E u F v) {KX : Int → mH → Option mR} (H1 : ∀ h1, KX e1 h1 = some ((0, 1), h1)) (H2 : ∀ h1, KX e2 h1 = some ((0, 2), h1)) (H3 : ∀ h1, KX e3 h1 = some ((0, 3), h1)) (hv : (k = 0 ∧ v = (tg, y)) ∨ (k = 1 ∧ v = (4, e1)) ∨ (k = 2 ∧ v = (4, e2)) ∨ (k = 3 ∧ v = (4, e3))) : LW c M E u (bndC tg F (fun x2 h1 => chk (hpT h1 99 = 22) (chk ((0 : Int) ≤ 0 ∧ 0 < hpL h1 99) (wth (hput h1 99 0 x2) (fun h3 => some ((0, 0), h3))))) KX) k y := by
  rcases hv with q | ⟨rfl, rfl⟩ | ⟨rfl, rfl⟩ | ⟨rfl, rfl⟩
  · exact LW_of htg r (e := e1) (Or.inl q) (fun k0 => absurd q.1 k0)
  · exact LW_ex r (by decide) H1
  · exact LW_ex r (by decide) H2
  · exact LW_ex r (by decide) H3
theorem LW2b {u : tT} {F : Option mR} {v : mV} {k y e1 e2 : Int} (hy : y = 0 ∨ y = 1) (r : CS c M E u F v) {KX : Int → mH → Option mR} (H1 : ∀ h1, KX e1 h1 = some ((0, 1), h1)) (H2 : ∀ h1, KX e2 h1 = some ((0, 2), h1)) (hv : (k = 0 ∧ v = (0, y)) ∨ (k = 1 ∧ v = (4, e1)) ∨ (k = 2 ∧ v = (4, e2))) : LW c M E u (bndC 0 F (fun x2 h1 => (if x2 = (0 : Int) then chk (hpT h1 99 = 22) (chk ((0 : Int) ≤ 0 ∧ 0 < hpL h1 99) (wth (hput h1 99 0 0) (fun h3 => some ((0, 0), h3)))) else chk (hpT h1 99 = 22) (chk ((0 : Int) ≤ 0 ∧ 0 < hpL h1 99) (wth (hput h1 99 0 1) (fun h3 => some ((0, 0), h3)))))) KX) k y := by
  rcases hv with q | ⟨rfl, rfl⟩ | ⟨rfl, rfl⟩
  · exact LW_ofB r hy (e := e1) (Or.inl q) (fun k0 => absurd q.1 k0)
  · exact LW_ex r (by decide) H1
  · exact LW_ex r (by decide) H2
theorem lw_3 (G : mG) (A : At h c p L M) (S : TS E o c L M t n) (hn : 0 ≤ n ∧ n < 512) (i0 : 0 ≤ i) (i1 : i + 6 ≤ (gLen G : Int)) (il : (gLen G : Int) ≤ 3072) : GO o n i (fun R => f_Law_law_J382 G R 1 75 99 i h) := by
  have w1 : w32 (i + 1) = i + 1 := w32_id (by omega) (by omega)
  have w2 : w32 (i + 2) = i + 2 := w32_id (by omega) (by omega)
  obtain ⟨h1, c1, p1, L1, M1, f1, A1, hc1, F1, K1, y1⟩ : LW c M E t (f_Law_bar h 1 (gX G (i + 1)) (gX G (i + 2)) 99) (if 0 ≤ gX G (i + 1) ∧ gX G (i + 1) < nb t then (if 0 ≤ gX G (i + 2) ∧ gX G (i + 2) ≤ 5 then 0 else 2) else 1) (baV t (gX G (i + 1)) (gX G (i + 2))) := by
    unfold f_Law_bar
    rw [chk_t A.nb.1]
    refine LW2 (by decide) (e1 := xN) (e2 := xA) (CR_cs (c_bar A S.K (gX G (i + 1)) (gX G (i + 2)))) (fun _ => if_pos rfl) (fun _ => (if_neg (by decide +kernel)).trans (if_pos rfl)) ?_
    repeat' split
    all_goals first | exact Or.inl ⟨rfl, rfl⟩ | exact Or.inr (Or.inl ⟨rfl, rfl⟩) | exact Or.inr (Or.inr ⟨rfl, rfl⟩) | (exfalso; omega)
  have I1 := RI_cl S.I F1
  obtain ⟨h2, M2, A2, F2, e76, f2⟩ := lw_end A1 (by decide) (RV_rc I1 (r_bar A1 I1 (gX G (i + 1)) (gX G (i + 2)))) rfl y1
  refine ⟨h2, E, c1, p1, L1, M2, t, fun R => ?_, A2, TS_mov S hn.1 F1 K1 F2 e76 (S.B.le (by omega)) S.O hc1⟩
  show f_Law_law_J382 G R 1 75 99 i h = R h2 (i + 6)
  unfold f_Law_law_J382
  rw [w1, w2, chk_t (by omega), chk_t (by omega), f1, bndR_ok, chk_t (by omega), chk_t (by omega)]
  exact (f2 _ _ _).trans (lw_next G R i0 (by omega) h2)
theorem lw_4 (G : mG) (A : At h c p L M) (S : TS E o c L M t n) (hn : 0 ≤ n ∧ n < 512) (i0 : 0 ≤ i) (i1 : i + 6 ≤ (gLen G : Int)) (il : (gLen G : Int) ≤ 3072) : GO o n i (fun R => f_Law_law_J450 G R 1 75 99 i h) := by
  have w1 : w32 (i + 1) = i + 1 := w32_id (by omega) (by omega)
  have w2 : w32 (i + 2) = i + 2 := w32_id (by omega) (by omega)
  obtain ⟨h1, c1, p1, L1, M1, f1, A1, hc1, F1, K1, y1⟩ : LW c M E t (f_Law_rule h 1 (gX G (i + 1)) (gX G (i + 2)) 99) (if 0 ≤ gX G (i + 1) ∧ gX G (i + 1) < nr t then (if 0 ≤ gX G (i + 2) ∧ gX G (i + 2) ≤ 4 then 0 else 2) else 1) (ruV t (gX G (i + 1)) (gX G (i + 2))) := by
    unfold f_Law_rule
    rw [chk_t A.nb.1]
    refine LW2 (by decide) (e1 := xN) (e2 := xA) (CR_cs (c_rule A S.K (gX G (i + 1)) (gX G (i + 2)))) (fun _ => if_pos rfl) (fun _ => (if_neg (by decide +kernel)).trans (if_pos rfl)) ?_
    repeat' split
    all_goals first | exact Or.inl ⟨rfl, rfl⟩ | exact Or.inr (Or.inl ⟨rfl, rfl⟩) | exact Or.inr (Or.inr ⟨rfl, rfl⟩) | (exfalso; omega)
  have I1 := RI_cl S.I F1
  obtain ⟨h2, M2, A2, F2, e76, f2⟩ := lw_end A1 (by decide) (RV_rc I1 (r_rule A1 I1 (gX G (i + 1)) (gX G (i + 2)))) rfl y1
  refine ⟨h2, E, c1, p1, L1, M2, t, fun R => ?_, A2, TS_mov S hn.1 F1 K1 F2 e76 (S.B.le (by omega)) S.O hc1⟩
  show f_Law_law_J450 G R 1 75 99 i h = R h2 (i + 6)
  unfold f_Law_law_J450
  rw [w1, w2, chk_t (by omega), chk_t (by omega), f1, bndR_ok, chk_t (by omega), chk_t (by omega)]
  exact (f2 _ _ _).trans (lw_next G R i0 (by omega) h2)
theorem lw_6 (G : mG) (A : At h c p L M) (S : TS E o c L M t n) (hn : 0 ≤ n ∧ n < 512) (i0 : 0 ≤ i) (i1 : i + 6 ≤ (gLen G : Int)) (il : (gLen G : Int) ≤ 3072) : GO o n i (fun R => f_Law_law_J531 G R 1 75 99 i h) := by
  have w1 : w32 (i + 1) = i + 1 := w32_id (by omega) (by omega)
  have w2 : w32 (i + 2) = i + 2 := w32_id (by omega) (by omega)
  obtain ⟨h1, c1, p1, L1, M1, f1, A1, hc1, F1, K1, y1⟩ : LW c M E t (f_Law_placeIn h 1 (gX G (i + 1)) (gX G (i + 2)) 99) (if (0 ≤ gX G (i + 2) ∧ gX G (i + 2) < nb t) ∧ 0 ≤ gX G (i + 1) ∧ gX G (i + 1) < nS t then (if nS t ≤ 20000 then 0 else 2) else 1) (dg t (gX G (i + 1)) (gX G (i + 2))) := by
    unfold f_Law_placeIn
    rw [chk_t A.nb.1]
    refine LW2 (by decide) (e1 := xN) (e2 := xS) (CR_cs (c_placeIn A S.K (gX G (i + 1)) (gX G (i + 2)))) (fun _ => if_pos rfl) (fun _ => (if_neg (by decide +kernel)).trans (if_pos rfl)) ?_
    repeat' split
    all_goals first | exact Or.inl ⟨rfl, rfl⟩ | exact Or.inr (Or.inl ⟨rfl, rfl⟩) | exact Or.inr (Or.inr ⟨rfl, rfl⟩) | (exfalso; omega)
  have I1 := RI_cl S.I F1
  obtain ⟨h2, M2, A2, F2, e76, f2⟩ := lw_end A1 (by decide) (RV_rc I1 (r_placeIn A1 I1 (gX G (i + 1)) (gX G (i + 2)))) rfl y1
  refine ⟨h2, E, c1, p1, L1, M2, t, fun R => ?_, A2, TS_mov S hn.1 F1 K1 F2 e76 (S.B.le (by omega)) S.O hc1⟩
  show f_Law_law_J531 G R 1 75 99 i h = R h2 (i + 6)
  unfold f_Law_law_J531
  rw [w1, w2, chk_t (by omega), chk_t (by omega), f1, bndR_ok, chk_t (by omega), chk_t (by omega)]
  exact (f2 _ _ _).trans (lw_next G R i0 (by omega) h2)
theorem lw_16 (G : mG) (A : At h c p L M) (S : TS E o c L M t n) (hn : 0 ≤ n ∧ n < 512) (i0 : 0 ≤ i) (i1 : i + 6 ≤ (gLen G : Int)) (il : (gLen G : Int) ≤ 3072) : GO o n i (fun R => f_Law_law_J1039 G R 1 75 99 i h) := by
  have w1 : w32 (i + 1) = i + 1 := w32_id (by omega) (by omega)
  have w2 : w32 (i + 2) = i + 2 := w32_id (by omega) (by omega)
  have w3 : w32 (i + 3) = i + 3 := w32_id (by omega) (by omega)
  obtain ⟨h1, c1, p1, L1, M1, f1, A1, hc1, F1, K1, y1⟩ : LW c M E t (f_Law_shortest h 1 (gX G (i + 1)) (gX G (i + 2)) (gX G (i + 3)) 99) (if (0 ≤ gX G (i + 1) ∧ gX G (i + 1) < nS t) ∧ 0 ≤ gX G (i + 2) ∧ gX G (i + 2) < nS t then (if nS t ≤ 20000 then 0 else 2) else 1) (lof t (SB t (gX G (i + 2))) (gX G (i + 1)) (gX G (i + 3))) := by
    unfold f_Law_shortest
    rw [chk_t A.nb.1]
    refine LW2 (by decide) (e1 := xN) (e2 := xS) (CR_cs (c_shortest A S.K (gX G (i + 1)) (gX G (i + 2)) (gX G (i + 3)))) (fun _ => if_pos rfl) (fun _ => (if_neg (by decide +kernel)).trans (if_pos rfl)) ?_
    repeat' split
    all_goals first | exact Or.inl ⟨rfl, rfl⟩ | exact Or.inr (Or.inl ⟨rfl, rfl⟩) | exact Or.inr (Or.inr ⟨rfl, rfl⟩) | (exfalso; omega)
  have I1 := RI_cl S.I F1
  obtain ⟨h2, M2, A2, F2, e76, f2⟩ := lw_end A1 (by decide) (RV_rc I1 (r_shortest A1 I1 (gX G (i + 1)) (gX G (i + 2)) (gX G (i + 3)) (gX_rng G _))) rfl y1
  refine ⟨h2, E, c1, p1, L1, M2, t, fun R => ?_, A2, TS_mov S hn.1 F1 K1 F2 e76 (S.B.le (by omega)) S.O hc1⟩
  show f_Law_law_J1039 G R 1 75 99 i h = R h2 (i + 6)
  unfold f_Law_law_J1039
  rw [w1, w2, w3, chk_t (by omega), chk_t (by omega), chk_t (by omega), f1, bndR_ok, chk_t (by omega), chk_t (by omega), chk_t (by omega)]
  exact (f2 _ _ _).trans (lw_next G R i0 (by omega) h2)
theorem lw_17 (G : mG) (A : At h c p L M) (S : TS E o c L M t n) (hn : 0 ≤ n ∧ n < 512) (i0 : 0 ≤ i) (i1 : i + 6 ≤ (gLen G : Int)) (il : (gLen G : Int) ≤ 3072) : GO o n i (fun R => f_Law_law_J1119 G R 1 75 99 i h) := by
  have w1 : w32 (i + 1) = i + 1 := w32_id (by omega) (by omega)
  obtain ⟨h1, c1, p1, L1, M1, f1, A1, hc1, F1, K1, y1⟩ : LW c M E t (f_Law_opening h 1 (gX G (i + 1)) 99) (if nS t ≤ 20000 then 0 else 1) (lof t (SB t (st t (po t))) (st t (pa t)) (gX G (i + 1))) := by
    unfold f_Law_opening
    rw [chk_t A.nb.1]
    refine LW1 (by decide) (e1 := xS) (CR_cs (c_opening A S.K (gX G (i + 1)))) (fun _ => if_pos rfl) ?_
    repeat' split
    all_goals first | exact Or.inl ⟨rfl, rfl⟩ | exact Or.inr ⟨rfl, rfl⟩ | (exfalso; omega)
  have I1 := RI_cl S.I F1
  obtain ⟨h2, M2, A2, F2, e76, f2⟩ := lw_end A1 (by decide) (RV_rc I1 (r_opening A1 I1 (gX G (i + 1)) (gX_rng G _))) rfl y1
  refine ⟨h2, E, c1, p1, L1, M2, t, fun R => ?_, A2, TS_mov S hn.1 F1 K1 F2 e76 (S.B.le (by omega)) S.O hc1⟩
  show f_Law_law_J1119 G R 1 75 99 i h = R h2 (i + 6)
  unfold f_Law_law_J1119
  rw [w1, chk_t (by omega), f1, bndR_ok, chk_t (by omega)]
  exact (f2 _ _ _).trans (lw_next G R i0 (by omega) h2)
theorem lw_18 (G : mG) (A : At h c p L M) (S : TS E o c L M t n) (hn : 0 ≤ n ∧ n < 512) (i0 : 0 ≤ i) (i1 : i + 6 ≤ (gLen G : Int)) (il : (gLen G : Int) ≤ 3072) : GO o n i (fun R => f_Law_law_J1175 G R 1 75 99 i h) := by
  obtain ⟨h1, c1, p1, L1, M1, f1, A1, hc1, F1, K1, y1⟩ : LW c M E t (f_Law_ways h 1 99) (if nS t ≤ 20000 then 0 else 1) (wy t (SF t (st t (pa t))) (st t (pa t)) (bM (SF t (st t (pa t)))).toNat (st t (po t))) := by
    unfold f_Law_ways
    rw [chk_t A.nb.1]
    refine LW1 (by decide) (e1 := xS) (CR_cs (c_ways A S.K)) (fun _ => if_pos rfl) ?_
    repeat' split
    all_goals first | exact Or.inl ⟨rfl, rfl⟩ | exact Or.inr ⟨rfl, rfl⟩ | (exfalso; omega)
  have I1 := RI_cl S.I F1
  obtain ⟨h2, M2, A2, F2, e76, f2⟩ := lw_end A1 (by decide) (RV_rc I1 (r_ways A1 I1)) rfl y1
  refine ⟨h2, E, c1, p1, L1, M2, t, fun R => ?_, A2, TS_mov S hn.1 F1 K1 F2 e76 (S.B.le (by omega)) S.O hc1⟩
  show f_Law_law_J1175 G R 1 75 99 i h = R h2 (i + 6)
  unfold f_Law_law_J1175
  rw [f1, bndR_ok]
  exact (f2 _ _ _).trans (lw_next G R i0 (by omega) h2)
theorem lw_19 (G : mG) (A : At h c p L M) (S : TS E o c L M t n) (hn : 0 ≤ n ∧ n < 512) (i0 : 0 ≤ i) (i1 : i + 6 ≤ (gLen G : Int)) (il : (gLen G : Int) ≤ 3072) : GO o n i (fun R => f_Law_law_J1218 G R 1 75 99 i h) := by
  have w1 : w32 (i + 1) = i + 1 := w32_id (by omega) (by omega)
  obtain ⟨d, hd, hc⟩ := c_farthest A S.K (gX G (i + 1))
  obtain ⟨h1, c1, p1, L1, M1, f1, A1, hc1, F1, K1, y1⟩ : LW c M E t (f_Law_farthest h 1 (gX G (i + 1)) 99) (if nS t ≤ 20000 then (if 0 ≤ gX G (i + 1) ∧ gX G (i + 1) ≤ 1 then 0 else 2) else 1) (if gX G (i + 1) = 0 then bF (SF t (st t (pa t))) d else d) := by
    unfold f_Law_farthest
    rw [chk_t A.nb.1]
    refine LW2 (by decide) (e1 := xS) (e2 := xA) (CR_cs (hc)) (fun _ => if_pos rfl) (fun _ => (if_neg (by decide +kernel)).trans (if_pos rfl)) ?_
    repeat' split
    all_goals first | exact Or.inl ⟨rfl, rfl⟩ | exact Or.inr (Or.inl ⟨rfl, rfl⟩) | exact Or.inr (Or.inr ⟨rfl, rfl⟩) | (exfalso; omega)
  have I1 := RI_cl S.I F1
  obtain ⟨h2, M2, A2, F2, e76, f2⟩ := lw_end A1 (by decide) (RV_rc I1 (r_farthest A1 I1 (gX G (i + 1)) hd)) rfl y1
  refine ⟨h2, E, c1, p1, L1, M2, t, fun R => ?_, A2, TS_mov S hn.1 F1 K1 F2 e76 (S.B.le (by omega)) S.O hc1⟩
  show f_Law_law_J1218 G R 1 75 99 i h = R h2 (i + 6)
  unfold f_Law_law_J1218
  rw [w1, chk_t (by omega), f1, bndR_ok, chk_t (by omega)]
  exact (f2 _ _ _).trans (lw_next G R i0 (by omega) h2)
theorem lw_20 (G : mG) (A : At h c p L M) (S : TS E o c L M t n) (hn : 0 ≤ n ∧ n < 512) (i0 : 0 ≤ i) (i1 : i + 6 ≤ (gLen G : Int)) (il : (gLen G : Int) ≤ 3072) : GO o n i (fun R => f_Law_law_J1274 G R 1 75 99 i h) := by
  have w1 : w32 (i + 1) = i + 1 := w32_id (by omega) (by omega)
  obtain ⟨h1, c1, p1, L1, M1, f1, A1, hc1, F1, K1, y1⟩ : LW c M E t (f_Law_within h 1 (gX G (i + 1)) 99) (if nS t ≤ 20000 then (if 0 ≤ gX G (i + 1) ∧ gX G (i + 1) ≤ 999 then 0 else 2) else 1) (cnN (fun j => decide (bF (SF t (st t (pa t))) (bO (SF t (st t (pa t))) j) ≤ gX G (i + 1))) (bM (SF t (st t (pa t)))).toNat) := by
    unfold f_Law_within
    rw [chk_t A.nb.1]
    refine LW2 (by decide) (e1 := xS) (e2 := xA) (CR_cs (c_within A S.K (gX G (i + 1)))) (fun _ => if_pos rfl) (fun _ => (if_neg (by decide +kernel)).trans (if_pos rfl)) ?_
    repeat' split
    all_goals first | exact Or.inl ⟨rfl, rfl⟩ | exact Or.inr (Or.inl ⟨rfl, rfl⟩) | exact Or.inr (Or.inr ⟨rfl, rfl⟩) | (exfalso; omega)
  have I1 := RI_cl S.I F1
  obtain ⟨h2, M2, A2, F2, e76, f2⟩ := lw_end A1 (by decide) (RV_rc I1 (r_within A1 I1 (gX G (i + 1)))) rfl y1
  refine ⟨h2, E, c1, p1, L1, M2, t, fun R => ?_, A2, TS_mov S hn.1 F1 K1 F2 e76 (S.B.le (by omega)) S.O hc1⟩
  show f_Law_law_J1274 G R 1 75 99 i h = R h2 (i + 6)
  unfold f_Law_law_J1274
  rw [w1, chk_t (by omega), f1, bndR_ok, chk_t (by omega)]
  exact (f2 _ _ _).trans (lw_next G R i0 (by omega) h2)
theorem lw_22 (G : mG) (A : At h c p L M) (S : TS E o c L M t n) (hn : 0 ≤ n ∧ n < 512) (i0 : 0 ≤ i) (i1 : i + 6 ≤ (gLen G : Int)) (il : (gLen G : Int) ≤ 3072) : GO o n i (fun R => f_Law_law_J1393 G R 1 75 99 i h) := by
  have w1 : w32 (i + 1) = i + 1 := w32_id (by omega) (by omega)
  obtain ⟨h1, c1, p1, L1, M1, f1, A1, hc1, F1, K1, y1⟩ : LW c M E t (f_Law_dead h 1 (gX G (i + 1)) 99) (if nS t ≤ 20000 then (if 0 ≤ gX G (i + 1) ∧ gX G (i + 1) ≤ 1 then 0 else 2) else 1) (if gX G (i + 1) = 0 then cnN (Qd t) (nN t) else f1 (Qd t) (nN t)) := by
    unfold f_Law_dead
    rw [chk_t A.nb.1]
    refine LW2 (by decide) (e1 := xS) (e2 := xA) (CR_cs (c_dead A S.K (gX G (i + 1)))) (fun _ => if_pos rfl) (fun _ => (if_neg (by decide +kernel)).trans (if_pos rfl)) ?_
    repeat' split
    all_goals first | exact Or.inl ⟨rfl, rfl⟩ | exact Or.inr (Or.inl ⟨rfl, rfl⟩) | exact Or.inr (Or.inr ⟨rfl, rfl⟩) | (exfalso; omega)
  have I1 := RI_cl S.I F1
  obtain ⟨h2, M2, A2, F2, e76, f2⟩ := lw_end A1 (by decide) (RV_rc I1 (r_dead A1 I1 (gX G (i + 1)))) rfl y1
  refine ⟨h2, E, c1, p1, L1, M2, t, fun R => ?_, A2, TS_mov S hn.1 F1 K1 F2 e76 (S.B.le (by omega)) S.O hc1⟩
  show f_Law_law_J1393 G R 1 75 99 i h = R h2 (i + 6)
  unfold f_Law_law_J1393
  rw [w1, chk_t (by omega), f1, bndR_ok, chk_t (by omega)]
  exact (f2 _ _ _).trans (lw_next G R i0 (by omega) h2)
theorem lw_23 (G : mG) (A : At h c p L M) (S : TS E o c L M t n) (hn : 0 ≤ n ∧ n < 512) (i0 : 0 ≤ i) (i1 : i + 6 ≤ (gLen G : Int)) (il : (gLen G : Int) ≤ 3072) : GO o n i (fun R => f_Law_law_J1449 G R 1 75 99 i h) := by
  obtain ⟨h1, c1, p1, L1, M1, f1, A1, hc1, F1, K1, y1⟩ : LW c M E t (f_Law_oneWays h 1 99) (if nS t ≤ 20000 then 0 else 1) (smN (fun j => ow t (bO (SF t (st t (pa t))) j)) (bM (SF t (st t (pa t)))).toNat) := by
    unfold f_Law_oneWays
    rw [chk_t A.nb.1]
    refine LW1 (by decide) (e1 := xS) (CR_cs (c_oneWays A S.K)) (fun _ => if_pos rfl) ?_
    repeat' split
    all_goals first | exact Or.inl ⟨rfl, rfl⟩ | exact Or.inr ⟨rfl, rfl⟩ | (exfalso; omega)
  have I1 := RI_cl S.I F1
  obtain ⟨h2, M2, A2, F2, e76, f2⟩ := lw_end A1 (by decide) (RV_rc I1 (r_oneWays A1 I1)) rfl y1
  refine ⟨h2, E, c1, p1, L1, M2, t, fun R => ?_, A2, TS_mov S hn.1 F1 K1 F2 e76 (S.B.le (by omega)) S.O hc1⟩
  show f_Law_law_J1449 G R 1 75 99 i h = R h2 (i + 6)
  unfold f_Law_law_J1449
  rw [f1, bndR_ok]
  exact (f2 _ _ _).trans (lw_next G R i0 (by omega) h2)
end
