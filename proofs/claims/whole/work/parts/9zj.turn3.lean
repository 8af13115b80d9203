/-! THE TURNS OF THE LAW: trays, the thief, rows -/
theorem tf_OUT {t : tT} {x : Int} (W : WS t) (D : RW t (pa t)) {m : Int} (B : MDB t m) : ∀ n : Nat, OUT (tf t x n).2.2 t
  | 0 => fun _ _ => rfl
  | n + 1 => fun j hj => by
    have ih := tf_OUT (x := x) W D B n j hj
    have W' := Sq_WS (tf_ok (x := x) W D B n).1.symm W
    rw [tf]
    split
    · exact ih
    · first | exact (stp_OUT W' _ _ j hj).trans ih | (split <;> first | exact ih | exact (stp_OUT W' _ _ j hj).trans ih)
section
variable {h : mH} {c : Int} {p L : Int → Int} {M : aM} {E : Int → tT} {o t : tT} {n i : Int}
theorem TY_cases (S : TS E o c L M t n) (τ : Int) : ¬ (0 ≤ τ ∧ τ < 4) ∨ ((0 ≤ τ ∧ τ < 4) ∧ M 96 τ = -1 ∧ M (33 + 2 * τ) 2 = -1) ∨ ((0 ≤ τ ∧ τ < 4) ∧ M 96 τ ≠ -1 ∧ M (33 + 2 * τ) 2 = M 97 τ ∧ (0 ≤ M 97 τ ∧ M 97 τ ≤ 40) ∧ NE (M (34 + 2 * τ)) (fun j => M 98 (40 * τ + j)) (M 97 τ).toNat ∧ TL (fun j => M 98 (40 * τ + j)) (M 97 τ)) := by
  by_cases g : 0 ≤ τ ∧ τ < 4
  · right
    obtain ⟨y1, y2⟩ := S.Y τ g.1 g.2
    rcases y2 with ⟨a, b⟩ | ⟨a, b, d, e⟩
    · exact Or.inl ⟨g, a, b⟩
    · exact Or.inr ⟨g, by omega, d, y1, fun j j0 j1 => (e j j0 (by omega)).1, fun j j0 j1 => (e j j0 (by omega)).2⟩
  · exact Or.inl g
theorem TY_h (S : TS E o c L M t n) {τ : Int} (g0 : 0 ≤ τ) (g1 : τ < 4) : -1 ≤ M (33 + 2 * τ) 2 ∧ M (33 + 2 * τ) 2 ≤ 40 := by
  rcases TY_cases S τ with g | ⟨g, a, b⟩ | ⟨g, a, b, d, _⟩
  · omega
  · omega
  · omega
theorem TY_ht (S : TS E o c L M t n) {τ : Int} (g0 : 0 ≤ τ) (g1 : τ < 4) : (-1 ≤ M (33 + 2 * τ) 2 ∧ M (33 + 2 * τ) 2 ≤ 40) ∧ TL (M (34 + 2 * τ)) (M (33 + 2 * τ) 2) := by
  refine ⟨TY_h S g0 g1, ?_⟩
  rcases TY_cases S τ with g | ⟨g, a, b⟩ | ⟨g, a, b, d, e, f⟩
  · omega
  · rw [b]; exact fun j j0 j1 => by omega
  · rw [b]; exact TL_cg (N := fun j => M 98 (40 * τ + j)) (fun j j0 j1 => (e j j0 j1).symm) f
theorem TY_r (S : TS E o c L M t n) {τ : Int} (g0 : 0 ≤ τ) (g1 : τ < 4) (g : M 96 τ ≠ -1) : (0 ≤ M 97 τ ∧ M 97 τ ≤ 40) ∧ TL (fun j => M 98 (40 * τ + j)) (M 97 τ) := by
  rcases TY_cases S τ with q | ⟨q, a, b⟩ | ⟨q, a, b, d, e, f⟩
  · omega
  · exact absurd a g
  · exact ⟨d, f⟩
theorem lw_31 (G : mG) (A : At h c p L M) (S : TS E o c L M t n) (hn : 0 ≤ n ∧ n < 512) (i0 : 0 ≤ i) (i1 : i + 6 ≤ (gLen G : Int)) (il : (gLen G : Int) ≤ 3072) : GO o n i (fun R => f_Law_law_J1909 G R 1 75 99 i h) := by
  have w1 : w32 (i + 1) = i + 1 := w32_id (by omega) (by omega)
  obtain ⟨h1, c1, p1, L1, M1, f1, A1, hc1, F1, K1, y1⟩ : LW c M E t (f_Law_known h 1 (gX G (i + 1)) 99) (if 0 ≤ gX G (i + 1) ∧ gX G (i + 1) < 4 then (if M 96 (gX G (i + 1)) = -1 then 2 else if nS t ≤ 20000 then (if M 97 (gX G (i + 1)) = 0 then 3 else 0) else 2) else 1) (itK t (st t (pa t)) (fun j => M 98 (40 * (gX G (i + 1)) + j)) (M 97 (gX G (i + 1))).toNat (st t (po t))) := by
    unfold f_Law_known
    rw [chk_t A.nb.1]
    refine LW3 (by decide) (e1 := xN) (e2 := xS) (e3 := xA) (CR_cs (c_known A S.K (fun g0 g1 => TY_h S g0 g1))) (fun _ => if_pos rfl) (fun _ => (if_neg (by decide +kernel)).trans (if_pos rfl)) (fun _ => (if_neg (by decide +kernel)).trans ((if_neg (by decide +kernel)).trans (if_pos rfl))) ?_
    rcases TY_cases S (gX G (i + 1)) with g | ⟨g, g1, g2⟩ | ⟨g, g1, g2, g3, g4, g5⟩
    · rw [if_neg g, if_neg g]; exact Or.inr (Or.inl ⟨rfl, rfl⟩)
    · rw [if_pos g, if_pos g, if_pos g1, if_pos g2]; exact Or.inr (Or.inr (Or.inl ⟨rfl, rfl⟩))
    · rw [if_pos g, if_pos g, if_neg g1, g2, if_neg (show ¬ M 97 (gX G (i + 1)) = -1 by omega), itK_cg g4]
      repeat' split
      all_goals first | exact Or.inl ⟨rfl, rfl⟩ | exact Or.inr (Or.inl ⟨rfl, rfl⟩) | exact Or.inr (Or.inr (Or.inl ⟨rfl, rfl⟩)) | exact Or.inr (Or.inr (Or.inr ⟨rfl, rfl⟩)) | (exfalso; omega)
  have I1 := RI_cl S.I F1
  have e96 : M1 96 = M 96 := F1 96 (cM_no (by decide))
  have e97 : M1 97 = M 97 := F1 97 (cM_no (by decide))
  have e98 : M1 98 = M 98 := F1 98 (cM_no (by decide))
  have r := r_known A1 I1 (τ := (gX G (i + 1))) (fun g0 g1 => by rw [e97]; exact (S.Y _ g0 g1).1)
  rw [e96, e97, e98] at r
  obtain ⟨h2, M2, A2, F2, e76, f2⟩ := lw_end A1 (by decide) (RV_rc I1 r) rfl y1
  refine ⟨h2, E, c1, p1, L1, M2, _, fun R => ?_, A2, TS_mov S hn.1 F1 K1 F2 e76 (S.B.le (by omega)) S.O hc1⟩
  show f_Law_law_J1909 G R 1 75 99 i h = R h2 (i + 6)
  unfold f_Law_law_J1909
  rw [w1, chk_t (by omega), f1, bndR_ok, chk_t (by omega)]
  exact (f2 _ _ _).trans (lw_next G R i0 (by omega) h2)
theorem lw_11 (G : mG) (A : At h c p L M) (S : TS E o c L M t n) (hn : 0 ≤ n ∧ n < 512) (i0 : 0 ≤ i) (i1 : i + 6 ≤ (gLen G : Int)) (il : (gLen G : Int) ≤ 3072) : GO o n i (fun R => f_Law_law_J771 G R 1 75 99 i h) := by
  have w1 : w32 (i + 1) = i + 1 := w32_id (by omega) (by omega)
  have w2 : w32 (i + 2) = i + 2 := w32_id (by omega) (by omega)
  obtain ⟨h1, c1, p1, L1, M1, f1, A1, hc1, F1, K1, y1⟩ : LW c M E t (f_Law_judge h 1 (gX G (i + 1)) (gX G (i + 2)) 99) (if 0 ≤ gX G (i + 1) ∧ gX G (i + 1) < 4 then (if M 96 (gX G (i + 1)) = -1 then 2 else if 0 ≤ gX G (i + 2) ∧ gX G (i + 2) ≤ 3 then 0 else 3) else 1) (juV t (fun j => M 98 (40 * (gX G (i + 1)) + j)) (M 97 (gX G (i + 1))).toNat (gX G (i + 2))) := by
    unfold f_Law_judge
    rw [chk_t A.nb.1]
    refine LW3 (by decide) (e1 := xN) (e2 := xS) (e3 := xA) (CR_cs (c_judge A S.K S.B (by omega) (gX G (i + 2)) (fun g0 g1 => TY_ht S g0 g1))) (fun _ => if_pos rfl) (fun _ => (if_neg (by decide +kernel)).trans (if_pos rfl)) (fun _ => (if_neg (by decide +kernel)).trans ((if_neg (by decide +kernel)).trans (if_pos rfl))) ?_
    rcases TY_cases S (gX G (i + 1)) with g | ⟨g, g1, g2⟩ | ⟨g, g1, g2, g3, g4, g5⟩
    · rw [if_neg g, if_neg g]; exact Or.inr (Or.inl ⟨rfl, rfl⟩)
    · rw [if_pos g, if_pos g, if_pos g1, if_pos g2]; exact Or.inr (Or.inr (Or.inl ⟨rfl, rfl⟩))
    · rw [if_pos g, if_pos g, if_neg g1, g2, if_neg (show ¬ M 97 (gX G (i + 1)) = -1 by omega), juV_cg g4]
      repeat' split
      all_goals first | exact Or.inl ⟨rfl, rfl⟩ | exact Or.inr (Or.inl ⟨rfl, rfl⟩) | exact Or.inr (Or.inr (Or.inl ⟨rfl, rfl⟩)) | exact Or.inr (Or.inr (Or.inr ⟨rfl, rfl⟩)) | (exfalso; omega)
  have I1 := RI_cl S.I F1
  have e96 : M1 96 = M 96 := F1 96 (cM_no (by decide))
  have e97 : M1 97 = M 97 := F1 97 (cM_no (by decide))
  have e98 : M1 98 = M 98 := F1 98 (cM_no (by decide))
  have r := r_judge A1 I1 S.B (by omega) (τ := (gX G (i + 1))) (gX G (i + 2)) (fun g0 g1 g => by rw [e97, e98]; rw [e96] at g; exact TY_r S g0 g1 g)
  rw [e96, e97, e98] at r
  obtain ⟨h2, M2, A2, F2, e76, f2⟩ := lw_end A1 (by decide) r rfl y1
  refine ⟨h2, E, c1, p1, L1, M2, _, fun R => ?_, A2, TS_mov S hn.1 F1 K1 F2 e76 (S.B.le (by omega)) S.O hc1⟩
  show f_Law_law_J771 G R 1 75 99 i h = R h2 (i + 6)
  unfold f_Law_law_J771
  rw [w1, w2, chk_t (by omega), chk_t (by omega), f1, bndR_ok, chk_t (by omega), chk_t (by omega)]
  exact (f2 _ _ _).trans (lw_next G R i0 (by omega) h2)
theorem lw_12 (G : mG) (A : At h c p L M) (S : TS E o c L M t n) (hn : 0 ≤ n ∧ n < 512) (i0 : 0 ≤ i) (i1 : i + 6 ≤ (gLen G : Int)) (il : (gLen G : Int) ≤ 3072) : GO o n i (fun R => f_Law_law_J839 G R 1 75 99 i h) := by
  have w1 : w32 (i + 1) = i + 1 := w32_id (by omega) (by omega)
  have cs := c_perform A S.K S.B (by omega) (τ := (gX G (i + 1))) (fun g0 g1 => TY_ht S g0 g1)
  have eu : (if (0 ≤ gX G (i + 1) ∧ gX G (i + 1) < 4) ∧ M (33 + 2 * gX G (i + 1)) 2 ≠ -1 then (vP t (M (34 + 2 * gX G (i + 1))) (M (33 + 2 * gX G (i + 1)) 2).toNat).1 else t) = (if (0 ≤ gX G (i + 1) ∧ gX G (i + 1) < 4) ∧ M 96 (gX G (i + 1)) ≠ -1 then (vP t (fun j => M 98 (40 * (gX G (i + 1)) + j)) (M 97 (gX G (i + 1))).toNat).1 else t) := by
    rcases TY_cases S (gX G (i + 1)) with g | ⟨g, g1, g2⟩ | ⟨g, g1, g2, g3, g4, g5⟩
    · rw [if_neg (fun q => g q.1), if_neg (fun q => g q.1)]
    · rw [if_neg (fun q => q.2 g2), if_neg (fun q => q.2 g1)]
    · rw [g2, if_pos ⟨g, by omega⟩, if_pos ⟨g, g1⟩, vP_cg g4]
  rw [eu] at cs
  obtain ⟨h1, c1, p1, L1, M1, f1, A1, hc1, F1, K1, y1⟩ : LW c M E (if (0 ≤ gX G (i + 1) ∧ gX G (i + 1) < 4) ∧ M 96 (gX G (i + 1)) ≠ -1 then (vP t (fun j => M 98 (40 * (gX G (i + 1)) + j)) (M 97 (gX G (i + 1))).toNat).1 else t) (f_Law_perform h 1 (gX G (i + 1)) 99) (if 0 ≤ gX G (i + 1) ∧ gX G (i + 1) < 4 then (if M 96 (gX G (i + 1)) = -1 then 2 else 0) else 1) ((vP t (fun j => M 98 (40 * (gX G (i + 1)) + j)) (M 97 (gX G (i + 1))).toNat).2) := by
    unfold f_Law_perform
    rw [chk_t A.nb.1]
    refine LW2 (by decide) (e1 := xN) (e2 := xS) (cs) (fun _ => if_pos rfl) (fun _ => (if_neg (by decide +kernel)).trans (if_pos rfl)) ?_
    rcases TY_cases S (gX G (i + 1)) with g | ⟨g, g1, g2⟩ | ⟨g, g1, g2, g3, g4, g5⟩
    · rw [if_neg g, if_neg g]; exact Or.inr (Or.inl ⟨rfl, rfl⟩)
    · rw [if_pos g, if_pos g, if_pos g1, if_pos g2]; exact Or.inr (Or.inr ⟨rfl, rfl⟩)
    · rw [if_pos g, if_pos g, if_neg g1, g2, if_neg (show ¬ M 97 (gX G (i + 1)) = -1 by omega), vP_cg g4]; exact Or.inl ⟨rfl, rfl⟩
  have I1 := RI_cl S.I F1
  have e96 : M1 96 = M 96 := F1 96 (cM_no (by decide))
  have e97 : M1 97 = M 97 := F1 97 (cM_no (by decide))
  have e98 : M1 98 = M 98 := F1 98 (cM_no (by decide))
  have r := r_perform A1 I1 S.B (by omega) (τ := (gX G (i + 1))) (fun g0 g1 g => by rw [e97, e98]; rw [e96] at g; exact TY_r S g0 g1 g)
  rw [e96, e97, e98] at r
  obtain ⟨h2, M2, A2, F2, e76, f2⟩ := lw_end A1 (by decide) r rfl y1
  have hu : MDB (if (0 ≤ gX G (i + 1) ∧ gX G (i + 1) < 4) ∧ M 96 (gX G (i + 1)) ≠ -1 then (vP t (fun j => M 98 (40 * (gX G (i + 1)) + j)) (M 97 (gX G (i + 1))).toNat).1 else t) (60 * (n + 1)) ∧ OUT (if (0 ≤ gX G (i + 1) ∧ gX G (i + 1) < 4) ∧ M 96 (gX G (i + 1)) ≠ -1 then (vP t (fun j => M 98 (40 * (gX G (i + 1)) + j)) (M 97 (gX G (i + 1))).toNat).1 else t) o := by
    split
    · rename_i g
      have m97 := (S.Y _ g.1.1 g.1.2).1
      exact ⟨(vP_ok S.K.W S.K.D S.B (M 97 (gX G (i + 1))).toNat).2.2.le (by omega), fun j hj => (vP_OUT S.K.W S.K.D S.B _ j hj).trans (S.O j hj)⟩
    · exact ⟨S.B.le (by omega), S.O⟩
  refine ⟨h2, E, c1, p1, L1, M2, _, fun R => ?_, A2, TS_mov S hn.1 F1 K1 F2 e76 hu.1 hu.2 hc1⟩
  show f_Law_law_J839 G R 1 75 99 i h = R h2 (i + 6)
  unfold f_Law_law_J839
  rw [w1, chk_t (by omega), f1, bndR_ok, chk_t (by omega)]
  exact (f2 _ _ _).trans (lw_next G R i0 (by omega) h2)
theorem lw_13 (G : mG) (A : At h c p L M) (S : TS E o c L M t n) (hn : 0 ≤ n ∧ n < 512) (i0 : 0 ≤ i) (i1 : i + 6 ≤ (gLen G : Int)) (il : (gLen G : Int) ≤ 3072) : GO o n i (fun R => f_Law_law_J895 G R 1 75 99 i h) := by
  have w1 : w32 (i + 1) = i + 1 := w32_id (by omega) (by omega)
  have w2 : w32 (i + 2) = i + 2 := w32_id (by omega) (by omega)
  obtain ⟨h1, c1, p1, L1, M1, f1, A1, hc1, F1, K1, y1⟩ : LW c M E (if (1 ≤ gX G (i + 2) ∧ gX G (i + 2) ≤ 60) ∧ 0 < nb t then (tf t (gX G (i + 1)) (gX G (i + 2)).toNat).2.2 else t) (f_Law_thief h 1 (gX G (i + 1)) (gX G (i + 2)) 99) (if 1 ≤ gX G (i + 2) ∧ gX G (i + 2) ≤ 60 then (if 0 < nb t then 0 else 2) else 1) ((tf t (gX G (i + 1)) (gX G (i + 2)).toNat).2.1) := by
    unfold f_Law_thief
    rw [chk_t A.nb.1]
    refine LW2 (by decide) (e1 := xA) (e2 := xS) (c_thief A S.K S.B (by omega) (gX G (i + 1)) (gX G (i + 2))) (fun _ => if_pos rfl) (fun _ => (if_neg (by decide +kernel)).trans (if_pos rfl)) ?_
    repeat' split
    all_goals first | exact Or.inl ⟨rfl, rfl⟩ | exact Or.inr (Or.inl ⟨rfl, rfl⟩) | exact Or.inr (Or.inr ⟨rfl, rfl⟩) | (exfalso; omega)
  have I1 := RI_cl S.I F1
  obtain ⟨h2, M2, A2, F2, e76, f2⟩ := lw_end A1 (by decide) (r_thief A1 I1 S.B (by omega) (gX G (i + 1)) (gX G (i + 2))) rfl y1
  have hu : MDB (if (1 ≤ gX G (i + 2) ∧ gX G (i + 2) ≤ 60) ∧ 0 < nb t then (tf t (gX G (i + 1)) (gX G (i + 2)).toNat).2.2 else t) (60 * (n + 1)) ∧ OUT (if (1 ≤ gX G (i + 2) ∧ gX G (i + 2) ≤ 60) ∧ 0 < nb t then (tf t (gX G (i + 1)) (gX G (i + 2)).toNat).2.2 else t) o := by
    split
    · rename_i g
      exact ⟨(tf_ok (x := (gX G (i + 1))) S.K.W S.K.D S.B (gX G (i + 2)).toNat).2.2.1.le (by omega), fun j hj => (tf_OUT S.K.W S.K.D S.B _ j hj).trans (S.O j hj)⟩
    · exact ⟨S.B.le (by omega), S.O⟩
  refine ⟨h2, E, c1, p1, L1, M2, _, fun R => ?_, A2, TS_mov S hn.1 F1 K1 F2 e76 hu.1 hu.2 hc1⟩
  show f_Law_law_J895 G R 1 75 99 i h = R h2 (i + 6)
  unfold f_Law_law_J895
  rw [w1, w2, chk_t (by omega), chk_t (by omega), f1, bndR_ok, chk_t (by omega), chk_t (by omega)]
  exact (f2 _ _ _).trans (lw_next G R i0 (by omega) h2)
theorem lw_33 (G : mG) (A : At h c p L M) (S : TS E o c L M t n) (hn : 0 ≤ n ∧ n < 512) (i0 : 0 ≤ i) (i1 : i + 6 ≤ (gLen G : Int)) (il : (gLen G : Int) ≤ 3072) : GO o n i (fun R => f_Law_law_J2031 G R 1 75 99 i h) := by
  have w1 : w32 (i + 1) = i + 1 := w32_id (by omega) (by omega)
  have w2 : w32 (i + 2) = i + 2 := w32_id (by omega) (by omega)
  have w3 : w32 (i + 3) = i + 3 := w32_id (by omega) (by omega)
  obtain ⟨h1, c1, p1, L1, M1, f1, A1, hc1, F1, K1, y1⟩ : LW c M E t (f_Law_fits h 1 (gX G (i + 1)) (gX G (i + 2)) (gX G (i + 3)) 99) (if (0 ≤ gX G (i + 1) / 2 ∧ gX G (i + 1) / 2 < nb t) ∧ 0 ≤ gX G (i + 2) ∧ gX G (i + 2) < 4 then (if M 96 (gX G (i + 2)) ≠ -1 ∧ nS t ≤ 20000 then (if abN t (fun j => M 98 (40 * (gX G (i + 2)) + j)) (M 97 (gX G (i + 2))).toNat = true then 0 else 3) else 2) else 1) (fiV (fFS t (fun j => M 98 (40 * (gX G (i + 2)) + j)) (M 97 (gX G (i + 2))).toNat (gX G (i + 1) / 2)) (gX G (i + 3))) := by
    unfold f_Law_fits
    rw [chk_t A.nb.1]
    refine LW3 (by decide) (e1 := xN) (e2 := xS) (e3 := xA) (CR_cs (c_fits A S.K (gX G (i + 3)) (gX_rng G _) (fun g0 g1 => TY_h S g0 g1))) (fun _ => if_pos rfl) (fun _ => (if_neg (by decide +kernel)).trans (if_pos rfl)) (fun _ => (if_neg (by decide +kernel)).trans ((if_neg (by decide +kernel)).trans (if_pos rfl))) ?_
    rcases TY_cases S (gX G (i + 2)) with g | ⟨g, g1, g2⟩ | ⟨g, g1, g2, g3, g4, g5⟩
    · rw [if_neg (fun q => g q.2), if_neg (show ¬ ((0 ≤ gX G (i + 1) / 2 ∧ gX G (i + 1) / 2 < nb t) ∧ 0 ≤ gX G (i + 2) ∧ gX G (i + 2) < 4) from fun q => g q.2)]; exact Or.inr (Or.inl ⟨rfl, rfl⟩)
    · rw [if_neg (show ¬ (M (33 + 2 * gX G (i + 2)) 2 ≠ -1 ∧ nS t ≤ 20000) from fun q => q.1 g2), if_neg (show ¬ (M 96 (gX G (i + 2)) ≠ -1 ∧ nS t ≤ 20000) from fun q => q.1 g1)]
      repeat' split
      all_goals first | exact Or.inl ⟨rfl, rfl⟩ | exact Or.inr (Or.inl ⟨rfl, rfl⟩) | exact Or.inr (Or.inr (Or.inl ⟨rfl, rfl⟩)) | exact Or.inr (Or.inr (Or.inr ⟨rfl, rfl⟩)) | (exfalso; omega)
    · rw [g2, abN_cg g4, fFS_cg g4]
      repeat' split
      all_goals first | exact Or.inl ⟨rfl, rfl⟩ | exact Or.inr (Or.inl ⟨rfl, rfl⟩) | exact Or.inr (Or.inr (Or.inl ⟨rfl, rfl⟩)) | exact Or.inr (Or.inr (Or.inr ⟨rfl, rfl⟩)) | (exfalso; omega)
  have I1 := RI_cl S.I F1
  have e96 : M1 96 = M 96 := F1 96 (cM_no (by decide))
  have e97 : M1 97 = M 97 := F1 97 (cM_no (by decide))
  have e98 : M1 98 = M 98 := F1 98 (cM_no (by decide))
  have r := r_fits A1 I1 (w := (gX G (i + 1))) (τ := (gX G (i + 2))) (gX G (i + 3)) (gX_rng G _) (fun g0 g1 g => by rw [e97, e98]; rw [e96] at g; exact TY_r S g0 g1 g)
  unfold lfK at r
  rw [e96, e97, e98] at r
  obtain ⟨h2, M2, A2, F2, e76, f2⟩ := lw_end A1 (by decide) (RV_rc I1 r) rfl y1
  refine ⟨h2, E, c1, p1, L1, M2, _, fun R => ?_, A2, TS_mov S hn.1 F1 K1 F2 e76 (S.B.le (by omega)) S.O hc1⟩
  show f_Law_law_J2031 G R 1 75 99 i h = R h2 (i + 6)
  unfold f_Law_law_J2031
  rw [w1, w2, w3, chk_t (by omega), chk_t (by omega), chk_t (by omega), f1, bndR_ok, chk_t (by omega), chk_t (by omega), chk_t (by omega)]
  exact (f2 _ _ _).trans (lw_next G R i0 (by omega) h2)
theorem lw_34 (G : mG) (A : At h c p L M) (S : TS E o c L M t n) (hn : 0 ≤ n ∧ n < 512) (i0 : 0 ≤ i) (i1 : i + 6 ≤ (gLen G : Int)) (il : (gLen G : Int) ≤ 3072) : GO o n i (fun R => f_Law_law_J2111 G R 1 75 99 i h) := by
  have w1 : w32 (i + 1) = i + 1 := w32_id (by omega) (by omega)
  have w2 : w32 (i + 2) = i + 2 := w32_id (by omega) (by omega)
  have w3 : w32 (i + 3) = i + 3 := w32_id (by omega) (by omega)
  obtain ⟨h1, c1, p1, L1, M1, f1, A1, hc1, F1, K1, y1⟩ : LW c M E t (f_Law_tries h 1 (gX G (i + 1)) (gX G (i + 2)) (gX G (i + 3)) 99) (if ((if (0 ≤ gX G (i + 1) / 2 ∧ gX G (i + 1) / 2 < nb t) ∧ 0 ≤ gX G (i + 2) ∧ gX G (i + 2) < 4 then (if M 96 (gX G (i + 2)) ≠ -1 ∧ nS t ≤ 20000 then (if abN t (fun j => M 98 (40 * (gX G (i + 2)) + j)) (M 97 (gX G (i + 2))).toNat = true then 0 else 3) else 2) else 1) : Int) = 0 then (if 0 ≤ gX G (i + 3) ∧ gX G (i + 3) ≤ 1 then 0 else 3) else (if (0 ≤ gX G (i + 1) / 2 ∧ gX G (i + 1) / 2 < nb t) ∧ 0 ≤ gX G (i + 2) ∧ gX G (i + 2) < 4 then (if M 96 (gX G (i + 2)) ≠ -1 ∧ nS t ≤ 20000 then (if abN t (fun j => M 98 (40 * (gX G (i + 2)) + j)) (M 97 (gX G (i + 2))).toNat = true then 0 else 3) else 2) else 1)) (trV t (fFS t (fun j => M 98 (40 * (gX G (i + 2)) + j)) (M 97 (gX G (i + 2))).toNat (gX G (i + 1) / 2)) (gX G (i + 3))) := by
    unfold f_Law_tries
    rw [chk_t A.nb.1]
    refine LW3 (by decide) (e1 := xN) (e2 := xS) (e3 := xA) (CR_cs (c_tries A S.K (gX G (i + 3)) (gX_rng G _) (fun g0 g1 => TY_h S g0 g1))) (fun _ => if_pos rfl) (fun _ => (if_neg (by decide +kernel)).trans (if_pos rfl)) (fun _ => (if_neg (by decide +kernel)).trans ((if_neg (by decide +kernel)).trans (if_pos rfl))) ?_
    rcases TY_cases S (gX G (i + 2)) with g | ⟨g, g1, g2⟩ | ⟨g, g1, g2, g3, g4, g5⟩
    · rw [if_neg (show ¬ ((0 ≤ gX G (i + 1) / 2 ∧ gX G (i + 1) / 2 < nb t) ∧ 0 ≤ gX G (i + 2) ∧ gX G (i + 2) < 4) from fun q => g q.2), if_neg (show ¬ ((0 ≤ gX G (i + 1) / 2 ∧ gX G (i + 1) / 2 < nb t) ∧ 0 ≤ gX G (i + 2) ∧ gX G (i + 2) < 4) from fun q => g q.2), if_neg (by decide)]; exact Or.inr (Or.inl ⟨rfl, rfl⟩)
    · rw [if_neg (show ¬ (M (33 + 2 * gX G (i + 2)) 2 ≠ -1 ∧ nS t ≤ 20000) from fun q => q.1 g2), if_neg (show ¬ (M 96 (gX G (i + 2)) ≠ -1 ∧ nS t ≤ 20000) from fun q => q.1 g1)]
      repeat' split
      all_goals first | exact Or.inl ⟨rfl, rfl⟩ | exact Or.inr (Or.inl ⟨rfl, rfl⟩) | exact Or.inr (Or.inr (Or.inl ⟨rfl, rfl⟩)) | exact Or.inr (Or.inr (Or.inr ⟨rfl, rfl⟩)) | (exfalso; omega)
    · rw [g2, abN_cg g4, fFS_cg g4]
      repeat' split
      all_goals first | exact Or.inl ⟨rfl, rfl⟩ | exact Or.inr (Or.inl ⟨rfl, rfl⟩) | exact Or.inr (Or.inr (Or.inl ⟨rfl, rfl⟩)) | exact Or.inr (Or.inr (Or.inr ⟨rfl, rfl⟩)) | (exfalso; omega)
  have I1 := RI_cl S.I F1
  have e96 : M1 96 = M 96 := F1 96 (cM_no (by decide))
  have e97 : M1 97 = M 97 := F1 97 (cM_no (by decide))
  have e98 : M1 98 = M 98 := F1 98 (cM_no (by decide))
  have r := r_tries A1 I1 (w := (gX G (i + 1))) (τ := (gX G (i + 2))) (gX G (i + 3)) (gX_rng G _) (fun g0 g1 g => by rw [e97, e98]; rw [e96] at g; exact TY_r S g0 g1 g)
  unfold lfK at r
  rw [e96, e97, e98] at r
  obtain ⟨h2, M2, A2, F2, e76, f2⟩ := lw_end A1 (by decide) (RV_rc I1 r) rfl y1
  refine ⟨h2, E, c1, p1, L1, M2, _, fun R => ?_, A2, TS_mov S hn.1 F1 K1 F2 e76 (S.B.le (by omega)) S.O hc1⟩
  show f_Law_law_J2111 G R 1 75 99 i h = R h2 (i + 6)
  unfold f_Law_law_J2111
  rw [w1, w2, w3, chk_t (by omega), chk_t (by omega), chk_t (by omega), f1, bndR_ok, chk_t (by omega), chk_t (by omega), chk_t (by omega)]
  exact (f2 _ _ _).trans (lw_next G R i0 (by omega) h2)
theorem lw_35 (G : mG) (A : At h c p L M) (S : TS E o c L M t n) (hn : 0 ≤ n ∧ n < 512) (i0 : 0 ≤ i) (i1 : i + 6 ≤ (gLen G : Int)) (il : (gLen G : Int) ≤ 3072) : GO o n i (fun R => f_Law_law_J2191 G R 1 75 99 i h) := by
  have w1 : w32 (i + 1) = i + 1 := w32_id (by omega) (by omega)
  have w2 : w32 (i + 2) = i + 2 := w32_id (by omega) (by omega)
  obtain ⟨up, hg⟩ : ∃ up : Int, (gX G (i + 2) = 0 ∧ up = 0) ∨ (gX G (i + 2) ≠ 0 ∧ up = 1) := by
    by_cases g : gX G (i + 2) = 0
    · exact ⟨0, Or.inl ⟨g, rfl⟩⟩
    · exact ⟨1, Or.inr ⟨g, rfl⟩⟩
  obtain ⟨h1, c1, p1, L1, M1, f1, A1, hc1, F1, K1, y1⟩ : LW c M E t (f_Law_rows h 1 (gX G (i + 1)) up 99) (if 0 ≤ gX G (i + 1) ∧ gX G (i + 1) ≤ 20 then (if nS t ≤ 20000 then 0 else 2) else 1) (if up = 0 then rwV t (st t (pa t)) (gX G (i + 1)) (-1) else w64 (rwV t (st t (pa t)) (gX G (i + 1)) (-1) - rwV t (st t (pa t)) (gX G (i + 1)) (st t (po t)))) := by
    unfold f_Law_rows
    rw [chk_t A.nb.1]
    refine LW2 (by decide) (e1 := xA) (e2 := xS) (CR_cs (c_rows A S.K (gX G (i + 1)) up)) (fun _ => if_pos rfl) (fun _ => (if_neg (by decide +kernel)).trans (if_pos rfl)) ?_
    repeat' split
    all_goals first | exact Or.inl ⟨rfl, rfl⟩ | exact Or.inr (Or.inl ⟨rfl, rfl⟩) | exact Or.inr (Or.inr ⟨rfl, rfl⟩) | (exfalso; omega)
  have I1 := RI_cl S.I F1
  obtain ⟨h2, M2, A2, F2, e76, f2⟩ := lw_end A1 (by decide) (RV_rc I1 (r_rows A1 I1 (gX G (i + 1)) up)) rfl y1
  refine ⟨h2, E, c1, p1, L1, M2, _, fun R => ?_, A2, TS_mov S hn.1 F1 K1 F2 e76 (S.B.le (by omega)) S.O hc1⟩
  show f_Law_law_J2191 G R 1 75 99 i h = R h2 (i + 6)
  unfold f_Law_law_J2191 f_Law_law_J2212 f_Law_law_J2239
  rcases hg with ⟨g, rfl⟩ | ⟨g, rfl⟩
  · rw [w1, w2, chk_t (by omega), chk_t (by omega), if_pos g, f1, bndR_ok, chk_t (by omega), chk_t (by omega), if_pos g]
    exact (f2 _ _ _).trans (lw_next G R i0 (by omega) h2)
  · rw [w1, w2, chk_t (by omega), chk_t (by omega), if_neg g, f1, bndR_ok, chk_t (by omega), chk_t (by omega), if_neg g]
    exact (f2 _ _ _).trans (lw_next G R i0 (by omega) h2)
end
