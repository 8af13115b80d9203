/-! THE TURNS OF THE LAW, on -/
section
variable {h : mH} {c : Int} {p L : Int → Int} {M : aM} {E : Int → tT} {o t : tT} {n i : Int}
theorem lw_24 (G : mG) (A : At h c p L M) (S : TS E o c L M t n) (hn : 0 ≤ n ∧ n < 512) (i0 : 0 ≤ i) (i1 : i + 6 ≤ (gLen G : Int)) (il : (gLen G : Int) ≤ 3072) : GO o n i (fun R => f_Law_law_J1493 G R 1 75 99 i h) := by
  have w1 : w32 (i + 1) = i + 1 := w32_id (by omega) (by omega)
  obtain ⟨d, hd, hc⟩ := c_fewestOf A S.K (gX G (i + 1))
  obtain ⟨h1, c1, p1, L1, M1, f1, A1, hc1, F1, K1, y1⟩ : LW c M E t (f_Law_fewestOf h 1 (gX G (i + 1)) 99) (if 0 ≤ gX G (i + 1) ∧ gX G (i + 1) < nb t then (if nS t ≤ 20000 then 0 else 2) else 1) d := by
    unfold f_Law_fewestOf
    rw [chk_t A.nb.1]
    refine LW2 (by decide) (e1 := xN) (e2 := xS) (CR_cs (hc)) (fun _ => if_pos rfl) (fun _ => (if_neg (by decide +kernel)).trans (if_pos rfl)) ?_
    repeat' split
    all_goals first | exact Or.inl ⟨rfl, rfl⟩ | exact Or.inr (Or.inl ⟨rfl, rfl⟩) | exact Or.inr (Or.inr ⟨rfl, rfl⟩) | (exfalso; omega)
  have I1 := RI_cl S.I F1
  obtain ⟨h2, M2, A2, F2, e76, f2⟩ := lw_end A1 (by decide) (RV_rc I1 (r_fewestOf A1 I1 (gX G (i + 1)) hd)) rfl y1
  refine ⟨h2, E, c1, p1, L1, M2, t, fun R => ?_, A2, TS_mov S hn.1 F1 K1 F2 e76 (S.B.le (by omega)) S.O hc1⟩
  show f_Law_law_J1493 G R 1 75 99 i h = R h2 (i + 6)
  unfold f_Law_law_J1493
  rw [w1, chk_t (by omega), f1, bndR_ok, chk_t (by omega)]
  exact (f2 _ _ _).trans (lw_next G R i0 (by omega) h2)
theorem lw_25 (G : mG) (A : At h c p L M) (S : TS E o c L M t n) (hn : 0 ≤ n ∧ n < 512) (i0 : 0 ≤ i) (i1 : i + 6 ≤ (gLen G : Int)) (il : (gLen G : Int) ≤ 3072) : GO o n i (fun R => f_Law_law_J1549 G R 1 75 99 i h) := by
  have w1 : w32 (i + 1) = i + 1 := w32_id (by omega) (by omega)
  obtain ⟨h1, c1, p1, L1, M1, f1, A1, hc1, F1, K1, y1⟩ : LW c M E t (f_Law_musts h 1 (gX G (i + 1)) 99) (if nS t ≤ 20000 then (if gX G (i + 1) = 0 ∨ 10 ≤ gX G (i + 1) then 0 else 2) else 1) (muV t (gX G (i + 1))) := by
    unfold f_Law_musts
    rw [chk_t A.nb.1]
    refine LW2 (by decide) (e1 := xS) (e2 := xA) (CR_cs (c_musts A S.K (gX_rng G (i + 1)))) (fun _ => if_pos rfl) (fun _ => (if_neg (by decide +kernel)).trans (if_pos rfl)) ?_
    repeat' split
    all_goals first | exact Or.inl ⟨rfl, rfl⟩ | exact Or.inr (Or.inl ⟨rfl, rfl⟩) | exact Or.inr (Or.inr ⟨rfl, rfl⟩) | (exfalso; omega)
  have I1 := RI_cl S.I F1
  obtain ⟨h2, M2, A2, F2, e76, f2⟩ := lw_end A1 (by decide) (RV_rc I1 (r_musts A1 I1 (gX_rng G (i + 1)))) rfl y1
  refine ⟨h2, E, c1, p1, L1, M2, t, fun R => ?_, A2, TS_mov S hn.1 F1 K1 F2 e76 (S.B.le (by omega)) S.O hc1⟩
  show f_Law_law_J1549 G R 1 75 99 i h = R h2 (i + 6)
  unfold f_Law_law_J1549
  rw [w1, chk_t (by omega), f1, bndR_ok, chk_t (by omega)]
  exact (f2 _ _ _).trans (lw_next G R i0 (by omega) h2)
theorem lw_26 (G : mG) (A : At h c p L M) (S : TS E o c L M t n) (hn : 0 ≤ n ∧ n < 512) (i0 : 0 ≤ i) (i1 : i + 6 ≤ (gLen G : Int)) (il : (gLen G : Int) ≤ 3072) : GO o n i (fun R => f_Law_law_J1605 G R 1 75 99 i h) := by
  have w1 : w32 (i + 1) = i + 1 := w32_id (by omega) (by omega)
  have w2 : w32 (i + 2) = i + 2 := w32_id (by omega) (by omega)
  obtain ⟨h1, c1, p1, L1, M1, f1, A1, hc1, F1, K1, y1⟩ : LW c M E t (f_Law_halves h 1 (gX G (i + 1)) (gX G (i + 2)) 99) (if (1 ≤ gX G (i + 1) ∧ gX G (i + 1) ≤ 30) ∧ 0 ≤ gX G (i + 2) ∧ gX G (i + 2) < 2 ^ (gX G (i + 1)).toNat then 0 else 1) (hvV (gX G (i + 2))) := by
    unfold f_Law_halves
    rw [chk_t A.nb.1]
    refine LW1 (by decide) (e1 := xA) (CR_cs (c_halves A S.K (gX G (i + 1)) (gX G (i + 2)) (gX_rng G _))) (fun _ => if_pos rfl) ?_
    repeat' split
    all_goals first | exact Or.inl ⟨rfl, rfl⟩ | exact Or.inr ⟨rfl, rfl⟩ | (exfalso; omega)
  have I1 := RI_cl S.I F1
  obtain ⟨h2, M2, A2, F2, e76, f2⟩ := lw_end A1 (by decide) (RV_rc I1 (r_halves A1 (gX G (i + 1)) (gX G (i + 2)))) rfl y1
  refine ⟨h2, E, c1, p1, L1, M2, t, fun R => ?_, A2, TS_mov S hn.1 F1 K1 F2 e76 (S.B.le (by omega)) S.O hc1⟩
  show f_Law_law_J1605 G R 1 75 99 i h = R h2 (i + 6)
  unfold f_Law_law_J1605
  rw [w1, w2, chk_t (by omega), chk_t (by omega), f1, bndR_ok, chk_t (by omega), chk_t (by omega)]
  exact (f2 _ _ _).trans (lw_next G R i0 (by omega) h2)
theorem lw_27 (G : mG) (A : At h c p L M) (S : TS E o c L M t n) (hn : 0 ≤ n ∧ n < 512) (i0 : 0 ≤ i) (i1 : i + 6 ≤ (gLen G : Int)) (il : (gLen G : Int) ≤ 3072) : GO o n i (fun R => f_Law_law_J1673 G R 1 75 99 i h) := by
  have w1 : w32 (i + 1) = i + 1 := w32_id (by omega) (by omega)
  have w2 : w32 (i + 2) = i + 2 := w32_id (by omega) (by omega)
  obtain ⟨h1, c1, p1, L1, M1, f1, A1, hc1, F1, K1, y1⟩ : LW c M E t (f_Law_halvesFirst h 1 (gX G (i + 1)) (gX G (i + 2)) 99) (if (1 ≤ gX G (i + 1) ∧ gX G (i + 1) ≤ 30) ∧ 0 ≤ gX G (i + 2) ∧ gX G (i + 2) < 2 ^ (gX G (i + 1)).toNat then 0 else 1) (if gX G (i + 2) = 0 then -1 else tzV (hvV (gX G (i + 2)))) := by
    unfold f_Law_halvesFirst
    rw [chk_t A.nb.1]
    refine LW1 (by decide) (e1 := xA) (CR_cs (c_halvesFirst A S.K (gX G (i + 1)) (gX G (i + 2)) (gX_rng G _))) (fun _ => if_pos rfl) ?_
    repeat' split
    all_goals first | exact Or.inl ⟨rfl, rfl⟩ | exact Or.inr ⟨rfl, rfl⟩ | (exfalso; omega)
  have I1 := RI_cl S.I F1
  obtain ⟨h2, M2, A2, F2, e76, f2⟩ := lw_end A1 (by decide) (RV_rc I1 (r_halvesFirst A1 (gX G (i + 1)) (gX G (i + 2)))) rfl y1
  refine ⟨h2, E, c1, p1, L1, M2, t, fun R => ?_, A2, TS_mov S hn.1 F1 K1 F2 e76 (S.B.le (by omega)) S.O hc1⟩
  show f_Law_law_J1673 G R 1 75 99 i h = R h2 (i + 6)
  unfold f_Law_law_J1673
  rw [w1, w2, chk_t (by omega), chk_t (by omega), f1, bndR_ok, chk_t (by omega), chk_t (by omega)]
  exact (f2 _ _ _).trans (lw_next G R i0 (by omega) h2)
theorem lw_28 (G : mG) (A : At h c p L M) (S : TS E o c L M t n) (hn : 0 ≤ n ∧ n < 512) (i0 : 0 ≤ i) (i1 : i + 6 ≤ (gLen G : Int)) (il : (gLen G : Int) ≤ 3072) : GO o n i (fun R => f_Law_law_J1741 G R 1 75 99 i h) := by
  have w1 : w32 (i + 1) = i + 1 := w32_id (by omega) (by omega)
  obtain ⟨h1, c1, p1, L1, M1, f1, A1, hc1, F1, K1, y1⟩ : LW c M E t (f_Law_ifWorn h 1 (gX G (i + 1)) 99) (if 0 ≤ gX G (i + 1) ∧ gX G (i + 1) < nb t then (if nS t ≤ 20000 then 0 else 2) else 1) (iw t (gX G (i + 1))) := by
    unfold f_Law_ifWorn
    rw [chk_t A.nb.1]
    refine LW2 (by decide) (e1 := xN) (e2 := xS) (CR_cs (c_ifWorn A S.K (gX G (i + 1)))) (fun _ => if_pos rfl) (fun _ => (if_neg (by decide +kernel)).trans (if_pos rfl)) ?_
    repeat' split
    all_goals first | exact Or.inl ⟨rfl, rfl⟩ | exact Or.inr (Or.inl ⟨rfl, rfl⟩) | exact Or.inr (Or.inr ⟨rfl, rfl⟩) | (exfalso; omega)
  have I1 := RI_cl S.I F1
  obtain ⟨h2, M2, A2, F2, e76, f2⟩ := lw_end A1 (by decide) (RV_rc I1 (r_ifWorn A1 I1 (gX G (i + 1)))) rfl y1
  refine ⟨h2, E, c1, p1, L1, M2, t, fun R => ?_, A2, TS_mov S hn.1 F1 K1 F2 e76 (S.B.le (by omega)) S.O hc1⟩
  show f_Law_law_J1741 G R 1 75 99 i h = R h2 (i + 6)
  unfold f_Law_law_J1741
  rw [w1, chk_t (by omega), f1, bndR_ok, chk_t (by omega)]
  exact (f2 _ _ _).trans (lw_next G R i0 (by omega) h2)
theorem lw_29 (G : mG) (A : At h c p L M) (S : TS E o c L M t n) (hn : 0 ≤ n ∧ n < 512) (i0 : 0 ≤ i) (i1 : i + 6 ≤ (gLen G : Int)) (il : (gLen G : Int) ≤ 3072) : GO o n i (fun R => f_Law_law_J1797 G R 1 75 99 i h) := by
  obtain ⟨h1, c1, p1, L1, M1, f1, A1, hc1, F1, K1, y1⟩ : LW c M E t (f_Law_weakest h 1 99) (if nS t ≤ 20000 then 0 else 1) ((wk t (nb t).toNat).1) := by
    unfold f_Law_weakest
    rw [chk_t A.nb.1]
    refine LW1 (by decide) (e1 := xS) (CR_cs (c_weakest A S.K)) (fun _ => if_pos rfl) ?_
    repeat' split
    all_goals first | exact Or.inl ⟨rfl, rfl⟩ | exact Or.inr ⟨rfl, rfl⟩ | (exfalso; omega)
  have I1 := RI_cl S.I F1
  obtain ⟨h2, M2, A2, F2, e76, f2⟩ := lw_end A1 (by decide) (RV_rc I1 (r_weakest A1 I1)) rfl y1
  refine ⟨h2, E, c1, p1, L1, M2, t, fun R => ?_, A2, TS_mov S hn.1 F1 K1 F2 e76 (S.B.le (by omega)) S.O hc1⟩
  show f_Law_law_J1797 G R 1 75 99 i h = R h2 (i + 6)
  unfold f_Law_law_J1797
  rw [f1, bndR_ok]
  exact (f2 _ _ _).trans (lw_next G R i0 (by omega) h2)
theorem lw_30 (G : mG) (A : At h c p L M) (S : TS E o c L M t n) (hn : 0 ≤ n ∧ n < 512) (i0 : 0 ≤ i) (i1 : i + 6 ≤ (gLen G : Int)) (il : (gLen G : Int) ≤ 3072) : GO o n i (fun R => f_Law_law_J1841 G R 1 75 99 i h) := by
  have w1 : w32 (i + 1) = i + 1 := w32_id (by omega) (by omega)
  have w2 : w32 (i + 2) = i + 2 := w32_id (by omega) (by omega)
  obtain ⟨h1, c1, p1, L1, M1, f1, A1, hc1, F1, K1, y1⟩ : LW c M E t (f_Law_hardest h 1 (gX G (i + 1)) (gX G (i + 2)) 99) (if (1 ≤ gX G (i + 1) ∧ gX G (i + 1) ≤ 999) ∧ 0 ≤ gX G (i + 2) ∧ gX G (i + 2) ≤ 6 then (if nS t ≤ 600 then 0 else 2) else 1) (hH t (wS t) (st t (pa t)) (gX G (i + 1)) (gX G (i + 2))) := by
    unfold f_Law_hardest
    rw [chk_t A.nb.1]
    refine LW2 (by decide) (e1 := xA) (e2 := xS) (CR_cs (c_hardest A S.K (gX G (i + 1)) (gX G (i + 2)))) (fun _ => if_pos rfl) (fun _ => (if_neg (by decide +kernel)).trans (if_pos rfl)) ?_
    repeat' split
    all_goals first | exact Or.inl ⟨rfl, rfl⟩ | exact Or.inr (Or.inl ⟨rfl, rfl⟩) | exact Or.inr (Or.inr ⟨rfl, rfl⟩) | (exfalso; omega)
  have I1 := RI_cl S.I F1
  obtain ⟨h2, M2, A2, F2, e76, f2⟩ := lw_end A1 (by decide) (RV_rc I1 (r_hardest A1 I1 (gX G (i + 1)) (gX G (i + 2)))) rfl y1
  refine ⟨h2, E, c1, p1, L1, M2, t, fun R => ?_, A2, TS_mov S hn.1 F1 K1 F2 e76 (S.B.le (by omega)) S.O hc1⟩
  show f_Law_law_J1841 G R 1 75 99 i h = R h2 (i + 6)
  unfold f_Law_law_J1841
  rw [w1, w2, chk_t (by omega), chk_t (by omega), f1, bndR_ok, chk_t (by omega), chk_t (by omega)]
  exact (f2 _ _ _).trans (lw_next G R i0 (by omega) h2)
theorem lw_32 (G : mG) (A : At h c p L M) (S : TS E o c L M t n) (hn : 0 ≤ n ∧ n < 512) (i0 : 0 ≤ i) (i1 : i + 6 ≤ (gLen G : Int)) (il : (gLen G : Int) ≤ 3072) : GO o n i (fun R => f_Law_law_J1964 G R 1 75 99 i h) := by
  have w1 : w32 (i + 1) = i + 1 := w32_id (by omega) (by omega)
  have w2 : w32 (i + 2) = i + 2 := w32_id (by omega) (by omega)
  obtain ⟨h1, c1, p1, L1, M1, f1, A1, hc1, F1, K1, y1⟩ : LW c M E t (f_Law_keeps h 1 (gX G (i + 1)) (gX G (i + 2)) 99) (if (1 ≤ gX G (i + 1) ∧ gX G (i + 1) ≤ 2) ∧ 0 ≤ gX G (i + 2) ∧ gX G (i + 2) ≤ 2 then (if nS t ≤ 20000 then 0 else 2) else 1) (kpV t (gX G (i + 1)) (gX G (i + 2))) := by
    unfold f_Law_keeps
    rw [chk_t A.nb.1]
    refine LW2 (by decide) (e1 := xA) (e2 := xS) (CR_cs (c_keeps A S.K (gX G (i + 1)) (gX G (i + 2)))) (fun _ => if_pos rfl) (fun _ => (if_neg (by decide +kernel)).trans (if_pos rfl)) ?_
    repeat' split
    all_goals first | exact Or.inl ⟨rfl, rfl⟩ | exact Or.inr (Or.inl ⟨rfl, rfl⟩) | exact Or.inr (Or.inr ⟨rfl, rfl⟩) | (exfalso; omega)
  have I1 := RI_cl S.I F1
  obtain ⟨h2, M2, A2, F2, e76, f2⟩ := lw_end A1 (by decide) (RV_rc I1 (r_keeps A1 I1 (gX G (i + 1)) (gX G (i + 2)))) rfl y1
  refine ⟨h2, E, c1, p1, L1, M2, t, fun R => ?_, A2, TS_mov S hn.1 F1 K1 F2 e76 (S.B.le (by omega)) S.O hc1⟩
  show f_Law_law_J1964 G R 1 75 99 i h = R h2 (i + 6)
  unfold f_Law_law_J1964
  rw [w1, w2, chk_t (by omega), chk_t (by omega), f1, bndR_ok, chk_t (by omega), chk_t (by omega)]
  exact (f2 _ _ _).trans (lw_next G R i0 (by omega) h2)
theorem lw_36 (G : mG) (A : At h c p L M) (S : TS E o c L M t n) (hn : 0 ≤ n ∧ n < 512) (i0 : 0 ≤ i) (i1 : i + 6 ≤ (gLen G : Int)) (il : (gLen G : Int) ≤ 3072) : GO o n i (fun R => f_Law_law_J2274 G R 1 75 99 i h) := by
  obtain ⟨d, hd, hc⟩ := c_keys A S.K
  obtain ⟨h1, c1, p1, L1, M1, f1, A1, hc1, F1, K1, y1⟩ : LW c M E t (f_Law_keys h 1 99) (if nS t ≤ 20000 then 0 else 1) d := by
    unfold f_Law_keys
    rw [chk_t A.nb.1]
    refine LW1 (by decide) (e1 := xS) (CR_cs (hc)) (fun _ => if_pos rfl) ?_
    repeat' split
    all_goals first | exact Or.inl ⟨rfl, rfl⟩ | exact Or.inr ⟨rfl, rfl⟩ | (exfalso; omega)
  have I1 := RI_cl S.I F1
  obtain ⟨h2, M2, A2, F2, e76, f2⟩ := lw_end A1 (by decide) (RV_rc I1 (r_keys A1 I1 hd)) rfl y1
  refine ⟨h2, E, c1, p1, L1, M2, t, fun R => ?_, A2, TS_mov S hn.1 F1 K1 F2 e76 (S.B.le (by omega)) S.O hc1⟩
  show f_Law_law_J2274 G R 1 75 99 i h = R h2 (i + 6)
  unfold f_Law_law_J2274
  rw [f1, bndR_ok]
  exact (f2 _ _ _).trans (lw_next G R i0 (by omega) h2)
theorem lw_15 (G : mG) (A : At h c p L M) (S : TS E o c L M t n) (hn : 0 ≤ n ∧ n < 512) (i0 : 0 ≤ i) (i1 : i + 6 ≤ (gLen G : Int)) (il : (gLen G : Int) ≤ 3072) : GO o n i (fun R => f_Law_law_J976 G R 1 75 99 i h) := by
  have w1 : w32 (i + 1) = i + 1 := w32_id (by omega) (by omega)
  obtain ⟨h1, c1, p1, L1, M1, f1, A1, hc1, F1, K1, y1⟩ : LW c M E t (f_Law_canBe h 1 (gX G (i + 1)) 99) (if 0 ≤ gX G (i + 1) ∧ gX G (i + 1) < nS t then (if nS t ≤ 20000 then 0 else 2) else 1) (b2i (decide (bF (SF t (st t (pa t))) (gX G (i + 1)) ≠ -1))) := by
    unfold f_Law_canBe
    rw [chk_t A.nb.1]
    refine LW2b (by unfold b2i; split <;> omega) (e1 := xN) (e2 := xS) (CR_cs (c_canBe A S.K (gX G (i + 1)))) (fun _ => if_pos rfl) (fun _ => (if_neg (by decide +kernel)).trans (if_pos rfl)) ?_
    repeat' split
    all_goals first | exact Or.inl ⟨rfl, rfl⟩ | exact Or.inr (Or.inl ⟨rfl, rfl⟩) | exact Or.inr (Or.inr ⟨rfl, rfl⟩) | (exfalso; omega)
  have I1 := RI_cl S.I F1
  obtain ⟨h2, M2, A2, F2, e76, f2⟩ := lw_endB A1 (by unfold b2i; split <;> omega) (RV_rc I1 (r_canBe A1 I1 (gX G (i + 1)))) rfl y1
  refine ⟨h2, E, c1, p1, L1, M2, t, fun R => ?_, A2, TS_mov S hn.1 F1 K1 F2 e76 (S.B.le (by omega)) S.O hc1⟩
  show f_Law_law_J976 G R 1 75 99 i h = R h2 (i + 6)
  unfold f_Law_law_J976
  rw [w1, chk_t (by omega), f1, bndR_ok, chk_t (by omega)]
  exact (f2 _ _ _).trans (lw_next G R i0 (by omega) h2)
theorem lw_21 (G : mG) (A : At h c p L M) (S : TS E o c L M t n) (hn : 0 ≤ n ∧ n < 512) (i0 : 0 ≤ i) (i1 : i + 6 ≤ (gLen G : Int)) (il : (gLen G : Int) ≤ 3072) : GO o n i (fun R => f_Law_law_J1330 G R 1 75 99 i h) := by
  have w1 : w32 (i + 1) = i + 1 := w32_id (by omega) (by omega)
  obtain ⟨h1, c1, p1, L1, M1, f1, A1, hc1, F1, K1, y1⟩ : LW c M E t (f_Law_fromStart h 1 (gX G (i + 1)) 99) (if 0 ≤ gX G (i + 1) ∧ gX G (i + 1) < nS t then (if nS t ≤ 20000 then 0 else 2) else 1) (b2i (decide (bF (SF t (st t (ps t))) (gX G (i + 1)) ≠ -1))) := by
    unfold f_Law_fromStart
    rw [chk_t A.nb.1]
    refine LW2b (by unfold b2i; split <;> omega) (e1 := xN) (e2 := xS) (CR_cs (c_fromStart A S.K (gX G (i + 1)))) (fun _ => if_pos rfl) (fun _ => (if_neg (by decide +kernel)).trans (if_pos rfl)) ?_
    repeat' split
    all_goals first | exact Or.inl ⟨rfl, rfl⟩ | exact Or.inr (Or.inl ⟨rfl, rfl⟩) | exact Or.inr (Or.inr ⟨rfl, rfl⟩) | (exfalso; omega)
  have I1 := RI_cl S.I F1
  obtain ⟨h2, M2, A2, F2, e76, f2⟩ := lw_endB A1 (by unfold b2i; split <;> omega) (RV_rc I1 (r_fromStart A1 I1 (gX G (i + 1)))) rfl y1
  refine ⟨h2, E, c1, p1, L1, M2, t, fun R => ?_, A2, TS_mov S hn.1 F1 K1 F2 e76 (S.B.le (by omega)) S.O hc1⟩
  show f_Law_law_J1330 G R 1 75 99 i h = R h2 (i + 6)
  unfold f_Law_law_J1330
  rw [w1, chk_t (by omega), f1, bndR_ok, chk_t (by omega)]
  exact (f2 _ _ _).trans (lw_next G R i0 (by omega) h2)
theorem lw_2 (G : mG) (A : At h c p L M) (S : TS E o c L M t n) (hn : 0 ≤ n ∧ n < 512) (i0 : 0 ≤ i) (i1 : i + 6 ≤ (gLen G : Int)) (il : (gLen G : Int) ≤ 3072) : GO o n i (fun R => f_Law_law_J357 G R 1 75 i h) := by
  have w1 : w32 (i + 1) = i + 1 := w32_id (by omega) (by omega)
  obtain ⟨h1, c1, p1, L1, M1, f1, A1, hc1, F1, K1⟩ := CR_cs (c_fault A S.K (gX G (i + 1)))
  have I1 := RI_cl S.I (fr99 F1)
  have r := r_fault A1 (gX G (i + 1))
  rw [(fr99 F1) 75 (cM_no (by decide)), ← S.F.1, ← S.F.2] at r
  obtain ⟨h2, M2, A2, F2, e76, f2⟩ := lw_plain A1 (RV_rc I1 (r))
  refine ⟨h2, E, c1, p1, L1, M2, t, fun R => ?_, A2, TS_mov S hn.1 (fr99 F1) K1 F2 e76 (S.B.le (by omega)) S.O (by omega)⟩
  show f_Law_law_J357 G R 1 75 i h = R h2 (i + 6)
  unfold f_Law_law_J357
  rw [w1, chk_t (by omega), chk_t A.nb.1, f1, bndT_ok (by decide), chk_t (by omega)]
  exact (f2 _ _).trans (lw_next G R i0 (by omega) h2)
theorem lw_5 (G : mG) (A : At h c p L M) (S : TS E o c L M t n) (hn : 0 ≤ n ∧ n < 512) (i0 : 0 ≤ i) (i1 : i + 6 ≤ (gLen G : Int)) (il : (gLen G : Int) ≤ 3072) : GO o n i (fun R => f_Law_law_J518 G R 1 75 i h) := by
  obtain ⟨h1, c1, p1, L1, M1, f1, A1, hc1, F1, K1⟩ := CR_cs (c_stand A S.K)
  have I1 := RI_cl S.I (fr99 F1)
  obtain ⟨h2, M2, A2, F2, e76, f2⟩ := lw_plain A1 (RV_rc I1 (r_stand A1 I1))
  refine ⟨h2, E, c1, p1, L1, M2, t, fun R => ?_, A2, TS_mov S hn.1 (fr99 F1) K1 F2 e76 (S.B.le (by omega)) S.O (by omega)⟩
  show f_Law_law_J518 G R 1 75 i h = R h2 (i + 6)
  unfold f_Law_law_J518
  rw [chk_t A.nb.1, f1, bndT_ok (by decide)]
  exact (f2 _ _).trans (lw_next G R i0 (by omega) h2)
theorem lw_7 (G : mG) (A : At h c p L M) (S : TS E o c L M t n) (hn : 0 ≤ n ∧ n < 512) (i0 : 0 ≤ i) (i1 : i + 6 ≤ (gLen G : Int)) (il : (gLen G : Int) ≤ 3072) : GO o n i (fun R => f_Law_law_J599 G R 1 75 i h) := by
  obtain ⟨h1, c1, p1, L1, M1, f1, A1, hc1, F1, K1⟩ := CR_cs (c_isOpen A S.K)
  have I1 := RI_cl S.I (fr99 F1)
  obtain ⟨h2, M2, A2, F2, e76, f2⟩ := lw_plain A1 (RV_rc I1 (r_isOpen A1 I1))
  refine ⟨h2, E, c1, p1, L1, M2, t, fun R => ?_, A2, TS_mov S hn.1 (fr99 F1) K1 F2 e76 (S.B.le (by omega)) S.O (by omega)⟩
  show f_Law_law_J599 G R 1 75 i h = R h2 (i + 6)
  unfold f_Law_law_J599
  rw [chk_t A.nb.1, f1, bndT_ok (by decide)]
  exact (f2 _ _).trans (lw_next G R i0 (by omega) h2)
theorem lw_14 (G : mG) (A : At h c p L M) (S : TS E o c L M t n) (hn : 0 ≤ n ∧ n < 512) (i0 : 0 ≤ i) (i1 : i + 6 ≤ (gLen G : Int)) (il : (gLen G : Int) ≤ 3072) : GO o n i (fun R => f_Law_law_J963 G R 1 75 i h) := by
  obtain ⟨h1, c1, p1, L1, M1, f1, A1, hc1, F1, K1⟩ := CR_cs (c_reached A S.K)
  have I1 := RI_cl S.I (fr99 F1)
  obtain ⟨h2, M2, A2, F2, e76, f2⟩ := lw_plain A1 (RV_rc I1 (r_reached A1 I1))
  refine ⟨h2, E, c1, p1, L1, M2, t, fun R => ?_, A2, TS_mov S hn.1 (fr99 F1) K1 F2 e76 (S.B.le (by omega)) S.O (by omega)⟩
  show f_Law_law_J963 G R 1 75 i h = R h2 (i + 6)
  unfold f_Law_law_J963
  rw [chk_t A.nb.1, f1, bndT_ok (by decide)]
  exact (f2 _ _).trans (lw_next G R i0 (by omega) h2)
theorem lw_42 (G : mG) (A : At h c p L M) (S : TS E o c L M t n) (hn : 0 ≤ n ∧ n < 512) (i0 : 0 ≤ i) (i1 : i + 6 ≤ (gLen G : Int)) (il : (gLen G : Int) ≤ 3072) : GO o n i (fun R => f_Law_law_J2617 G R 1 75 i h) := by
  have w1 : w32 (i + 1) = i + 1 := w32_id (by omega) (by omega)
  obtain ⟨h1, c1, p1, L1, M1, f1, A1, hc1, F1, K1⟩ := CR_cs (c_count A S.K (fun b b0 b1 => by have := S.B b b0 b1; omega) (gX G (i + 1)))
  have I1 := RI_cl S.I (fr99 F1)
  have r := r_count A1 I1 (m := 60 * n) (by omega) S.B (gX G (i + 1))
  rw [(fr99 F1) 75 (cM_no (by decide)), ← S.T.1.1] at r
  obtain ⟨h2, M2, A2, F2, e76, f2⟩ := lw_plain A1 (RV_rc I1 (r))
  refine ⟨h2, E, c1, p1, L1, M2, t, fun R => ?_, A2, TS_mov S hn.1 (fr99 F1) K1 F2 e76 (S.B.le (by omega)) S.O (by omega)⟩
  show f_Law_law_J2617 G R 1 75 i h = R h2 (i + 6)
  unfold f_Law_law_J2617
  rw [w1, chk_t (by omega), chk_t A.nb.1, f1, bndT_ok (by decide), chk_t (by omega)]
  exact (f2 _ _).trans (lw_next G R i0 (by omega) h2)
theorem lw_8 (G : mG) (A : At h c p L M) (S : TS E o c L M t n) (hn : 0 ≤ n ∧ n < 512) (i0 : 0 ≤ i) (i1 : i + 6 ≤ (gLen G : Int)) (il : (gLen G : Int) ≤ 3072) : GO o n i (fun R => f_Law_law_J612 G R 1 75 i h) := by
  have w1 : w32 (i + 1) = i + 1 := w32_id (by omega) (by omega)
  have w2 : w32 (i + 2) = i + 2 := w32_id (by omega) (by omega)
  obtain ⟨up, hu, hg⟩ : ∃ up : Int, (up = 0 ∨ up = 1) ∧ ((gX G (i + 2) = 0 ∧ up = 0) ∨ (gX G (i + 2) ≠ 0 ∧ up = 1)) := by
    by_cases g : gX G (i + 2) = 0
    · exact ⟨0, Or.inl rfl, Or.inl ⟨g, rfl⟩⟩
    · exact ⟨1, Or.inr rfl, Or.inr ⟨g, rfl⟩⟩
  obtain ⟨h1, c1, p1, L1, M1, f1, A1, hc1, F1, K1⟩ := CR_cs (c_may A S.K (gX G (i + 1)) hu)
  have I1 := RI_cl S.I (fr99 F1)
  obtain ⟨h2, M2, A2, F2, e76, f2⟩ := lw_plain A1 (RV_rc I1 (r_may A1 I1 (gX G (i + 1)) up))
  refine ⟨h2, E, c1, p1, L1, M2, t, fun R => ?_, A2, TS_mov S hn.1 (fr99 F1) K1 F2 e76 (S.B.le (by omega)) S.O (by omega)⟩
  show f_Law_law_J612 G R 1 75 i h = R h2 (i + 6)
  unfold f_Law_law_J612 f_Law_law_J633 f_Law_law_J657
  rcases hg with ⟨g, rfl⟩ | ⟨g, rfl⟩
  · rw [w1, w2, chk_t (by omega), chk_t (by omega), if_pos g, chk_t A.nb.1, f1, bndT_ok (by decide), chk_t (by omega), chk_t (by omega), if_pos g]
    exact (f2 _ _).trans (lw_next G R i0 (by omega) h2)
  · rw [w1, w2, chk_t (by omega), chk_t (by omega), if_neg g, chk_t A.nb.1, f1, bndT_ok (by decide), chk_t (by omega), chk_t (by omega), if_neg g]
    exact (f2 _ _).trans (lw_next G R i0 (by omega) h2)
theorem lw_9 (G : mG) (A : At h c p L M) (S : TS E o c L M t n) (hn : 0 ≤ n ∧ n < 512) (i0 : 0 ≤ i) (i1 : i + 6 ≤ (gLen G : Int)) (il : (gLen G : Int) ≤ 3072) : GO o n i (fun R => f_Law_law_J665 G R 1 75 i h) := by
  have w1 : w32 (i + 1) = i + 1 := w32_id (by omega) (by omega)
  have w2 : w32 (i + 2) = i + 2 := w32_id (by omega) (by omega)
  obtain ⟨up, hu, hg⟩ : ∃ up : Int, (up = 0 ∨ up = 1) ∧ ((gX G (i + 2) = 0 ∧ up = 0) ∨ (gX G (i + 2) ≠ 0 ∧ up = 1)) := by
    by_cases g : gX G (i + 2) = 0
    · exact ⟨0, Or.inl rfl, Or.inl ⟨g, rfl⟩⟩
    · exact ⟨1, Or.inr rfl, Or.inr ⟨g, rfl⟩⟩
  obtain ⟨h1, c1, p1, L1, M1, f1, A1, hc1, F1, K1⟩ := c_step A S.K S.B (by omega) (gX G (i + 1)) hu
  have I1 := RI_cl S.I (fr99 F1)
  obtain ⟨h2, M2, A2, F2, e76, f2⟩ := lw_plain A1 (r_step A1 I1 S.B (by omega) (gX G (i + 1)) up)
  refine ⟨h2, E, c1, p1, L1, M2, _, fun R => ?_, A2, TS_mov S hn.1 (fr99 F1) K1 F2 e76 ((stp_md S.K.W S.B (gX G (i + 1)) up).le (by omega)) (fun j hj => (stp_OUT S.K.W (gX G (i + 1)) up j hj).trans (S.O j hj)) (by omega)⟩
  show f_Law_law_J665 G R 1 75 i h = R h2 (i + 6)
  unfold f_Law_law_J665 f_Law_law_J686 f_Law_law_J710
  rcases hg with ⟨g, rfl⟩ | ⟨g, rfl⟩
  · rw [w1, w2, chk_t (by omega), chk_t (by omega), if_pos g, chk_t A.nb.1, f1, bndT_ok (by decide), chk_t (by omega), chk_t (by omega), if_pos g]
    exact (f2 _ _).trans (lw_next G R i0 (by omega) h2)
  · rw [w1, w2, chk_t (by omega), chk_t (by omega), if_neg g, chk_t A.nb.1, f1, bndT_ok (by decide), chk_t (by omega), chk_t (by omega), if_neg g]
    exact (f2 _ _).trans (lw_next G R i0 (by omega) h2)
theorem lw_10 (G : mG) (A : At h c p L M) (S : TS E o c L M t n) (hn : 0 ≤ n ∧ n < 512) (i0 : 0 ≤ i) (i1 : i + 6 ≤ (gLen G : Int)) (il : (gLen G : Int) ≤ 3072) : GO o n i (fun R => f_Law_law_J718 G R 1 75 i h) := by
  have w1 : w32 (i + 1) = i + 1 := w32_id (by omega) (by omega)
  have w2 : w32 (i + 2) = i + 2 := w32_id (by omega) (by omega)
  obtain ⟨up, hu, hg⟩ : ∃ up : Int, (up = 0 ∨ up = 1) ∧ ((gX G (i + 2) = 0 ∧ up = 0) ∨ (gX G (i + 2) ≠ 0 ∧ up = 1)) := by
    by_cases g : gX G (i + 2) = 0
    · exact ⟨0, Or.inl rfl, Or.inl ⟨g, rfl⟩⟩
    · exact ⟨1, Or.inr rfl, Or.inr ⟨g, rfl⟩⟩
  obtain ⟨h1, c1, p1, L1, M1, f1, A1, hc1, F1, K1⟩ := c_stops A S.K (gX G (i + 1)) hu
  have I1 := RI_cl S.I (fr99 F1)
  obtain ⟨h2, M2, A2, F2, e76, f2⟩ := lw_plain A1 (RV_rc I1 (r_stops A1 I1 (gX G (i + 1)) up hu))
  refine ⟨h2, E, c1, p1, L1, M2, t, fun R => ?_, A2, TS_mov S hn.1 (fr99 F1) K1 F2 e76 (S.B.le (by omega)) S.O (by omega)⟩
  show f_Law_law_J718 G R 1 75 i h = R h2 (i + 6)
  unfold f_Law_law_J718 f_Law_law_J739 f_Law_law_J763
  rcases hg with ⟨g, rfl⟩ | ⟨g, rfl⟩
  · rw [w1, w2, chk_t (by omega), chk_t (by omega), if_pos g, chk_t A.nb.1, f1, bndT_ok (by decide), chk_t (by omega), chk_t (by omega), if_pos g]
    exact (f2 _ _).trans (lw_next G R i0 (by omega) h2)
  · rw [w1, w2, chk_t (by omega), chk_t (by omega), if_neg g, chk_t A.nb.1, f1, bndT_ok (by decide), chk_t (by omega), chk_t (by omega), if_neg g]
    exact (f2 _ _).trans (lw_next G R i0 (by omega) h2)
end
