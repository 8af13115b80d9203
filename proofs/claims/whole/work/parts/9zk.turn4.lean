/-! THE TURNS OF THE LAW: what is told anew, trays, images -/
section
variable {h : mH} {c : Int} {p L : Int → Int} {M : aM} {E : Int → tT} {o t : tT} {n i : Int}
theorem lw_end0 (A : At h c p L M) {tg : Nat} (htg : tg ≠ 4) {h2 : mH} {M2 : aM} (A2 : At h2 c p L M2) {y kk k : Int} (e5 : M2 75 5 = kk) (hk : kk = k) (hy : k = 0 → M2 99 0 = y) (Z B1 B2 : mH → Option mR) : chk (hpT h 75 = 12) (bndT tg (some ((tg, y), h2)) (fun x4 h3 => chk (hpT h3 75 = 12) (bndT 0 (f_Md_thrown h3 75) (fun x6 h5 => (if x6 = k then (if k = (0 : Int) then chk (hpT h5 99 = 22) (chk ((0 : Int) ≤ 0 ∧ 0 < hpL h5 99) (if qlcmp (hpV h5 99 0) x4 = (0 : Int) then Z h5 else B1 h5)) else Z h5) else B2 h5))))) = Z h2 := by
  have C := A2.ou
  rw [chk_t (MH.of A).T, bndT_ok htg, chk_t (MH.of A2).T, s_thrown A2, bndT_ok (by decide), if_pos (e5.trans hk)]
  by_cases g : k = 0
  · rw [if_pos g, C.1, chk_t rfl, C.2.1, chk_t (by decide), C.2.2 0, hy g, if_pos (qlcmp_eq.mpr rfl)]
  · rw [if_neg g]
theorem lw_endV (A : At h c p L M) {h2 : mH} {M2 : aM} (A2 : At h2 c p L M2) {kk k : Int} (e5 : M2 75 5 = kk) (hk : kk = k) (Z B2 : mH → Option mR) : chk (hpT h 75 = 12) (bndT 3 (some ((3, 0), h2)) (fun _ h3 => chk (hpT h3 75 = 12) (bndT 0 (f_Md_thrown h3 75) (fun x6 h5 => (if x6 = k then Z h5 else B2 h5))))) = Z h2 := by
  rw [chk_t (MH.of A).T, bndT_ok (by decide), chk_t (MH.of A2).T, s_thrown A2, bndT_ok (by decide), if_pos (e5.trans hk)]
theorem lw_0 (G : mG) (A : At h c p L M) (S : TS E o c L M t n) (hn : 0 ≤ n ∧ n < 512) (i0 : 0 ≤ i) (i1 : i + 6 ≤ (gLen G : Int)) (il : (gLen G : Int) ≤ 3072) : GO o n i (fun R => f_Law_law_J228 G R 1 75 i h) := by
  have w1 : w32 (i + 1) = i + 1 := w32_id (by omega) (by omega)
  have w2 : w32 (i + 2) = i + 2 := w32_id (by omega) (by omega)
  have w3 : w32 (i + 3) = i + 3 := w32_id (by omega) (by omega)
  have w4 : w32 (i + 4) = i + 4 := w32_id (by omega) (by omega)
  have w5 : w32 (i + 5) = i + 5 := w32_id (by omega) (by omega)
  have T := S.T
  have hr := S.r
  have key : ∃ h1 h2 M2 y, f_Nb_feed h 1 (gX G (i + 1)) (gX G (i + 2)) (gX G (i + 3)) (gX G (i + 4)) (gX G (i + 5)) = some ((0, y), h1) ∧ hpT h1 75 = 12 ∧ f_Md_feed h1 75 (gX G (i + 1)) (gX G (i + 2)) (gX G (i + 3)) (gX G (i + 4)) (gX G (i + 5)) = some ((0, y), h2) ∧ At h2 c p L M2 ∧ TS E o c L M2 t (n + 1) := by
    rcases c_feed A S.K T.1.2 (gX G (i + 1)) (gX G (i + 2)) (gX G (i + 3)) (gX G (i + 4)) (gX G (i + 5)) with ⟨g, f1⟩ | ⟨g, h1, M1, f1, A1, F1, e1, o1, v1, K1⟩
    · obtain ⟨h2, M2, y, f2, A2, F2, -, q1, -⟩ := r_feed A (by rw [← T.1.1]; exact T.1.2) (gX G (i + 1)) (gX G (i + 2)) (gX G (i + 3)) (gX G (i + 4)) (gX G (i + 5))
      obtain ⟨rfl, q7, q81⟩ := q1 (by rw [← T.1.1]; exact g)
      have hh : ∀ v, v ≠ 75 → M2 v = M v := fun v hv => by
        by_cases e : v = 81
        · rw [e]; exact q81
        · exact F2.1 v (by simpa using e) hv
      refine ⟨h, h2, M2, _, f1, (MH.of A).T, f2, A2, TS_keep S hn.1 (fun v hv => hh v (by omega)) (fun j hj => ?_) (S.K.keep (fun v hv => hh v (rL_k hv).2) (fun _ _ => rfl)) ⟨by rw [hh 76 (by decide)]; exact S.I.1, S.I.2.1, S.I.2.2.1, by rw [F2.2 19 (by decide)]; exact S.I.2.2.2⟩ (S.B.le (by omega)) S.O (by omega)⟩
      rcases hj with rfl | rfl | rfl
      · exact q7
      · exact F2.2 15 (by decide)
      · exact F2.2 16 (by decide)
    · have h75 : M1 75 = M 75 := F1.1 75 (by decide) (by decide)
      have h81 : M1 81 = M 81 := F1.1 81 (by decide) (by decide)
      obtain ⟨h2, M2, y, f2, A2, F2, -, -, q2⟩ := r_feed A1 (by rw [h75, ← T.1.1]; exact T.1.2) (gX G (i + 1)) (gX G (i + 2)) (gX G (i + 3)) (gX G (i + 4)) (gX G (i + 5))
      rw [h75, ← T.1.1, h81] at q2
      obtain ⟨rfl, q7, qo, qv⟩ := q2 g
      have hh : ∀ v, v ≠ 1 → v ≠ 2 → v ≠ 75 → v ≠ 81 → M2 v = M v := fun v v1 v2 v3 v4 => by
        rw [F2.1 v (by simpa using v4) v3]; exact F1.1 v (by simpa using v2) v1
      have h1n : ∀ j, j ≠ 1 → M2 1 j = M 1 j := fun j hj => by
        rw [F2.1 1 (by decide) (by decide)]; exact F1.2 j (by simpa using hj)
      have k75 : ∀ j, j ≠ 5 → j ≠ 7 → M2 75 j = M 75 j := fun j j5 j7 => by
        rw [F2.2 j (by simp; omega), h75]
      have e11 : M2 1 1 = M 1 1 + 20 := by rw [F2.1 1 (by decide) (by decide)]; exact e1
      have e2 : M2 2 = M1 2 := F2.1 2 (by decide) (by decide)
      have tt : TT M2 := by
        refine ⟨⟨by rw [e11, q7], by rw [e11]; have := T.1; omega, by rw [e11]; omega⟩, fun j j0 j1 => ?_⟩
        rw [e11] at j1
        rw [e2]
        by_cases e : j < M 1 1
        · rw [o1 j e, qo j e]; exact T.2 j j0 e
        · obtain ⟨d, d0, d1, rfl⟩ : ∃ d : Int, 0 ≤ d ∧ d < 20 ∧ j = M 1 1 + d := ⟨j - M 1 1, by omega, by omega, by omega⟩
          rw [v1 d d0 d1, qv d d0 d1]
          exact ⟨fbV_rbV (gX_rng G _) (gX_rng G _) (gX_rng G _) (gX_rng G _) (gX_rng G _) d, rbV_rng _ _⟩
      refine ⟨h1, h2, M2, _, f1, (MH.of A1).T, f2, A2, K1.keep (fun v hv => F2.1 v (by have := rL_k hv; unfold kO at hv; simp; omega) (rL_k hv).2) (fun _ _ => rfl), ⟨by rw [hh 76 (by decide) (by decide) (by decide) (by decide)]; exact S.I.1, S.I.2.1, S.I.2.2.1, by rw [k75 19 (by decide) (by decide)]; exact S.I.2.2.2⟩, S.B.le (by omega), S.O, tt, ?_, fun τ g0 g1 => ?_, fun d g0 g1 => ?_, ?_, by omega⟩
      · rw [h1n 2 (by decide), h1n 3 (by decide), k75 15 (by decide) (by decide), k75 16 (by decide) (by decide)]; exact S.F
      · exact TY_keep (S.Y τ g0 g1) (by rw [hh 96 (by decide) (by decide) (by decide) (by decide)]) (by rw [hh 97 (by decide) (by decide) (by decide) (by decide)]) (hh _ (by omega) (by omega) (by omega) (by omega)) (hh _ (by omega) (by omega) (by omega) (by omega)) (fun j _ _ => by rw [hh 98 (by decide) (by decide) (by decide) (by decide)])
      · exact TG_keep (S.G d g0 g1) (fun _ _ => rfl) (by rw [hh 31 (by decide) (by decide) (by decide) (by decide)]) (by rw [hh 80 (by decide) (by decide) (by decide) (by decide)]) (by rw [h1n 4 (by decide)]; exact Int.le_refl _) (fun j j0 j1 => hh _ (by omega) (by omega) (by omega) (by omega)) (fun j _ _ => by rw [hh 79 (by decide) (by decide) (by decide) (by decide)]) (by omega)
      · have := S.e
        rw [h1n 4 (by decide)]; omega
  obtain ⟨h1, h2, M2, y, f1, t1, f2, A2, S2⟩ := key
  refine ⟨h2, E, c, p, L, M2, t, fun R => ?_, A2, S2⟩
  show f_Law_law_J228 G R 1 75 i h = R h2 (i + 6)
  unfold f_Law_law_J228
  rw [w1, w2, w3, w4, w5, chk_t (by omega), chk_t (by omega), chk_t (by omega), chk_t (by omega), chk_t (by omega), chk_t A.nb.1, f1, bndT_ok (by decide), chk_t (by omega), chk_t (by omega), chk_t (by omega), chk_t (by omega), chk_t (by omega), chk_t t1, f2, bndT_ok (by decide), if_pos rfl]
  exact lw_next G R i0 (by omega) h2
theorem FB_k {M1 M2 : aM} (F : FB M1 M2) {v : Int} (hv : v ≠ 75) (h76 : v ≠ 76) (h77 : v ≠ 77) : M2 v = M1 v := F.1 v (by simp; omega) hv
theorem lw_1 (G : mG) (A : At h c p L M) (S : TS E o c L M t n) (hn : 0 ≤ n ∧ n < 512) (i0 : 0 ≤ i) (i1 : i + 6 ≤ (gLen G : Int)) (il : (gLen G : Int) ≤ 3072) : GO o n i (fun R => f_Law_law_J301 G R 1 75 99 i h) := by
  have w1 : w32 (i + 1) = i + 1 := w32_id (by omega) (by omega)
  have T := S.T
  have hr := S.r
  have he := S.e
  have fin : ∀ (h1 : mH) (c1 : Int) (M1 : aM) (k : Int) (h2 : mH) (M2 : aM) (y : Int) (E' : Int → tT) (t' : tT), f_Law_box h 1 (gX G (i + 1)) 99 = some ((0, k), h1) → At h1 c1 p L M1 → f_Md_box h1 75 (gX G (i + 1)) = some ((0, y), h2) → At h2 c1 p L M2 → M2 75 5 = k → (k = 0 → M2 99 0 = y) → TS E' o c1 L M2 t' (n + 1) → GO o n i (fun R => f_Law_law_J301 G R 1 75 99 i h) := fun h1 c1 M1 k h2 M2 y E' t' f1 A1 f2 A2 e5 hy S2 => by
    refine ⟨h2, E', c1, p, L, M2, t', fun R => ?_, A2, S2⟩
    show f_Law_law_J301 G R 1 75 99 i h = R h2 (i + 6)
    unfold f_Law_law_J301
    rw [w1, chk_t (by omega), f1, bndR_ok, chk_t (by omega), f2]
    exact (lw_end0 A1 (by decide) A2 e5 rfl hy _ _ _).trans (lw_next G R i0 (by omega) h2)
  rcases c_box A S.K T.1.2 (f := M 81) T.2 (by omega) (gX G (i + 1)) with ⟨g, f1⟩ | ⟨g, h1, M1, y1, f1, A1, F1, R1⟩
  · have A1 := A.exc
    obtain ⟨h2, M2, y, f2, A2, F2, q1, -⟩ := r_box A1 (by rw [← T.1.1]; exact T.1.2) (by rw [← T.1.1]; exact fun j j0 j1 => (T.2 j j0 j1).2) (gX G (i + 1))
    rw [← T.1.1] at q1
    obtain ⟨e5, e7, e15, e16, e76⟩ := q1 g
    refine fin _ _ _ 1 h2 M2 y E t ?_ A1 f2 A2 e5 (fun q => absurd q (by decide)) ?_
    · unfold f_Law_box
      rw [chk_t A.nb.1, f1, bndC_ex, if_pos (show xA = exNo "java/lang/IllegalArgumentException" from rfl)]
    · refine TS_keep S hn.1 (fun v hv => FB_k F2 (by omega) (by omega) (by omega)) (fun j hj => ?_) (S.K.keep (fun v hv => FB_k F2 (rL_k hv).2 (by unfold kO at hv; omega) (by unfold kO at hv; omega)) (fun _ _ => rfl)) ⟨by rw [e76]; exact S.I.1, S.I.2.1, S.I.2.2.1, by rw [F2.2 19 (by decide)]; exact S.I.2.2.2⟩ (S.B.le (by omega)) S.O (by omega)
      rcases hj with rfl | rfl | rfl
      · rw [e7]; exact T.1.1
      · exact e15
      · exact e16
  · have X : TX (M 81) (gX G (i + 1)) := ⟨by have := T.1; omega, fun j j0 j1 => (T.2 j j0 (by omega)).2⟩
    have A1' := A1.s99 y1
    have k1 : ∀ v, v ≠ 1 → v ≠ 3 → (v < 5 ∨ 30 < v) → M1 v = M v := fun v v1 v3 v5 => F1.1 v (by simp [cB]; omega) v1
    have k75 : mup M1 99 0 y1 75 = M 75 := by rw [mup_fn (by decide)]; exact k1 75 (by decide) (by decide) (by decide)
    have k81 : mup M1 99 0 y1 81 = M 81 := by rw [mup_fn (by decide)]; exact k1 81 (by decide) (by decide) (by decide)
    have k76 : mup M1 99 0 y1 76 = M 76 := by rw [mup_fn (by decide)]; exact k1 76 (by decide) (by decide) (by decide)
    obtain ⟨h2, M2, y, f2, A2, F2, -, q2⟩ := r_box A1' (by rw [k75, ← T.1.1]; exact T.1.2) (by rw [k75, k81, ← T.1.1]; exact fun j j0 j1 => (T.2 j j0 j1).2) (gX G (i + 1))
    rw [k75, ← T.1.1, k81] at q2
    obtain ⟨r5, r7, rE, rI⟩ := q2 g
    rw [k76] at rE rI
    obtain ⟨s1, sE, sI⟩ := R1
    have l1 : f_Law_box h 1 (gX G (i + 1)) 99 = some ((0, 0), hput h1 99 0 y1) := by
      have C := A1.ou
      unfold f_Law_box
      rw [chk_t A.nb.1, f1, bndC_ok (by decide), C.1, chk_t rfl, C.2.1, chk_t (by decide), wth]
    have e99 : M2 99 0 = y1 := by rw [FB_k F2 (by decide) (by decide) (by decide), mup_eq]
    -- what neither side touches
    have hh : ∀ v, v ≠ 1 → v ≠ 3 → (v < 5 ∨ 30 < v) → v ≠ 75 → v ≠ 76 → v ≠ 77 → v ≠ 99 → M2 v = M v := fun v v1 v3 v5 v75 v76 v77 v99 => by
      rw [FB_k F2 v75 v76 v77, mup_fn v99]; exact k1 v v1 v3 v5
    have h1e : ∀ j, M2 1 j = M1 1 j := fun j => by rw [FB_k F2 (by decide) (by decide) (by decide), mup_fn (by decide)]
    have kk : ∀ v, ¬ kO v → M2 v = M1 v := fun v hv => by
      have := rL_k hv
      unfold kO at hv
      rw [FB_k F2 (by omega) (by omega) (by omega), mup_fn (by omega)]
    have tt : TT M2 := ⟨by rw [h1e, s1, r7]; omega, fun j j0 j1 => by rw [h1e, s1] at j1; omega⟩
    have yy : ∀ τ, 0 ≤ τ → τ < 4 → TY M2 τ := fun τ g0 g1 => TY_keep (S.Y τ g0 g1) (by rw [hh 96 (by decide) (by decide) (by decide) (by decide) (by decide) (by decide) (by decide)]) (by rw [hh 97 (by decide) (by decide) (by decide) (by decide) (by decide) (by decide) (by decide)]) (hh _ (by omega) (by omega) (by omega) (by omega) (by omega) (by omega) (by omega)) (hh _ (by omega) (by omega) (by omega) (by omega) (by omega) (by omega) (by omega)) (fun j _ _ => by rw [hh 98 (by decide) (by decide) (by decide) (by decide) (by decide) (by decide) (by decide)])
    have gg : ∀ (E' : Int → tT), (∀ k, k ≤ M 1 4 → E' k = E k) → M 1 4 ≤ M2 1 4 → ∀ d, 0 ≤ d → d < 3 → TG E' o M2 (60 * (n + 1)) d := fun E' hE h14 d g0 g1 => TG_keep (S.G d g0 g1) hE (by rw [hh 31 (by decide) (by decide) (by decide) (by decide) (by decide) (by decide) (by decide)]) (by rw [hh 80 (by decide) (by decide) (by decide) (by decide) (by decide) (by decide) (by decide)]) h14 (fun j j0 j1 => hh _ (by omega) (by omega) (by omega) (by omega) (by omega) (by omega) (by omega)) (fun j _ _ => by rw [hh 79 (by decide) (by decide) (by decide) (by decide) (by decide) (by decide) (by decide)]) (by omega)
    have i19 : M2 75 19 = 0 := by rw [F2.2 19 (by decide), k75]; exact S.I.2.2.2
    rcases tP_cases (sBox (M 81) (gX G (i + 1))) with ⟨e, hs⟩ | ⟨a, hs⟩
    · obtain ⟨z1, z2, z3, z4, z5⟩ := sE e hs
      obtain ⟨v1, v2, v3, v4, v5⟩ := rE e hs
      refine fin _ c _ 0 h2 M2 y E t l1 A1' f2 A2 r5 (fun _ => by rw [e99, z1, v1]) ⟨z5.keep kk (fun _ _ => rfl), ⟨by rw [v5]; exact S.I.1, S.I.2.1, S.I.2.2.1, i19⟩, S.B.le (by omega), S.O, tt, ?_, yy, gg E (fun _ _ => rfl) (by rw [h1e, z4]; exact Int.le_refl _), by rw [h1e, z4]; omega, by omega⟩
      rw [h1e, h1e, z2, z3, v2, v4]; exact ⟨rfl, rfl⟩
    · obtain ⟨z1, z2, z3, z4, z5⟩ := sI a hs
      obtain ⟨v1, v2, v3, v4⟩ := rI a hs
      have P : PW a.1 := (sText_ok X (PWq_0 X) (show sText (M 81) (gX G (i + 1)) 901 (X0, 0) = .inr a from hs)).1
      have ag : AG (M2 76) a.1 := fun j j0 j1 => by rw [v4 j, if_pos ⟨j0, j1⟩]
      have K2 := z5 (M2 76) ag
      refine fin _ c _ 0 h2 M2 y _ (M2 76) l1 A1' f2 A2 r5 (fun _ => by rw [e99, z1, v1]) ⟨K2.keep kk (fun _ _ => rfl), ⟨rfl, K2.W, K2.D, i19⟩, (AG_md ag P.1 P.md).le (by omega), fun j hj => ?_, tt, ?_, yy, gg _ (fun k hk => if_neg (by omega)) (by rw [h1e, z4]; omega), by rw [h1e, z4]; omega, by omega⟩
      · rw [v4 j, if_neg hj, S.I.1]; exact S.O j hj
      · rw [h1e, h1e, z2, z3, v2, v3]; exact ⟨rfl, rfl⟩
end
