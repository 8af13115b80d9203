/-! THE TURNS OF THE LAW: trays, images -/
theorem cutV_rng {s v : Int} (h1 : -9223372036854775808 ≤ v) (h2 : v < 9223372036854775808) : -9223372036854775808 ≤ cutV s v ∧ cutV s v < 9223372036854775808 := by
  unfold cutV
  split
  · unfold w8; omega
  · split
    · unfold w16; omega
    · split
      · unfold w32; omega
      · exact ⟨h1, h2⟩
theorem qlor_rng (a b : Int) : -9223372036854775808 ≤ qlor a b ∧ qlor a b < 9223372036854775808 := i64_rng _
section
variable {h : mH} {c : Int} {p L : Int → Int} {M : aM} {E : Int → tT} {o t : tT} {n i : Int}
/-- all but the trays stands as it was -/
theorem TS_keepY {c' : Int} {L' : Int → Int} {M' : aM} (S : TS E o c L M t n) (hn : 0 ≤ n) (hh : ∀ v, (v = 1 ∨ v = 2 ∨ v = 31 ∨ v = 76 ∨ (79 ≤ v ∧ v ≤ 81) ∨ (100 ≤ v ∧ v ≤ 138)) → M' v = M v) (h75 : ∀ j, (j = 7 ∨ j = 15 ∨ j = 16 ∨ j = 19) → M' 75 j = M 75 j) (K : KS E M' L' t) (hY : ∀ τ, 0 ≤ τ → τ < 4 → TY M' τ) (hc : c' ≤ c + 447) : TS E o c' L' M' t (n + 1) := by
  refine ⟨K, ⟨by rw [hh 76 (by decide)]; exact S.I.1, S.I.2.1, S.I.2.2.1, by rw [h75 19 (by decide)]; exact S.I.2.2.2⟩, S.B.le (by omega), S.O, TT_keep S.T (by rw [hh 1 (by decide)]) (h75 7 (by decide)) (hh 2 (by decide)) (hh 81 (by decide)), ?_, hY, fun d g0 g1 => ?_, ?_, ?_⟩
  · rw [hh 1 (by decide), h75 15 (by decide), h75 16 (by decide)]; exact S.F
  · exact TG_keep (S.G d g0 g1) (fun _ _ => rfl) (by rw [hh 31 (by decide)]) (by rw [hh 80 (by decide)]) (by rw [hh 1 (by decide)]; exact Int.le_refl _) (fun j j0 j1 => hh _ (by omega)) (fun j _ _ => by rw [hh 79 (by decide)]) (by omega)
  · have := S.e
    rw [hh 1 (by decide)]; omega
  · have := S.r
    omega
theorem lw_37 (G : mG) (A : At h c p L M) (S : TS E o c L M t n) (hn : 0 ≤ n ∧ n < 512) (i0 : 0 ≤ i) (i1 : i + 6 ≤ (gLen G : Int)) (il : (gLen G : Int) ≤ 3072) : GO o n i (fun R => f_Law_law_J2318 G R 1 75 i h) := by
  have w1 : w32 (i + 1) = i + 1 := w32_id (by omega) (by omega)
  have w2 : w32 (i + 2) = i + 2 := w32_id (by omega) (by omega)
  have w3 : w32 (i + 3) = i + 3 := w32_id (by omega) (by omega)
  have fin : ∀ (h1 : mH) (c1 : Int) (M1 : aM) (k : Int) (h2 : mH) (M2 : aM), f_Law_tray h 1 (gX G (i + 1)) (gX G (i + 2)) (gX G (i + 3)) = some ((0, k), h1) → At h1 c1 p L M1 → f_Md_tray h1 75 (gX G (i + 1)) (gX G (i + 2)) (gX G (i + 3)) = some ((3, 0), h2) → At h2 c1 p L M2 → M2 75 5 = k → TS E o c1 L M2 t (n + 1) → GO o n i (fun R => f_Law_law_J2318 G R 1 75 i h) := fun h1 c1 M1 k h2 M2 f1 A1 f2 A2 e5 S2 => by
    refine ⟨h2, E, c1, p, L, M2, t, fun R => ?_, A2, S2⟩
    show f_Law_law_J2318 G R 1 75 i h = R h2 (i + 6)
    unfold f_Law_law_J2318
    rw [w1, w2, w3, chk_t (by omega), chk_t (by omega), chk_t (by omega), f1, bndR_ok, chk_t (by omega), chk_t (by omega), chk_t (by omega), f2]
    exact (lw_endV A1 A2 e5 rfl _ _).trans (lw_next G R i0 (by omega) h2)
  generalize gX G (i + 1) = τ at *
  generalize gX G (i + 2) = s at *
  generalize gX G (i + 3) = m at *
  -- what is refused changes nothing
  have no : ∀ k : Int, f_Law_tray h 1 τ s m = some ((0, k), halc h 0 0 6) → ¬ ((0 ≤ τ ∧ τ < 4) ∧ (0 ≤ s ∧ s ≤ 3) ∧ 0 ≤ m ∧ m ≤ 40) → (if 0 ≤ τ ∧ τ < 4 then (if (0 ≤ s ∧ s ≤ 3) ∧ 0 ≤ m ∧ m ≤ 40 then 0 else 2) else 1) = k → GO o n i (fun R => f_Law_law_J2318 G R 1 75 i h) := fun k l1 g hk => by
    have A1 := A.exc
    obtain ⟨h2, M2, f2, A2, F2, e5, e96, e97, e98⟩ := r_tray A1 τ s m
    have z96 : M2 96 = M 96 := funext fun j => by rw [e96 j, if_neg (fun q => g q.1)]
    have z97 : M2 97 = M 97 := funext fun j => by rw [e97 j, if_neg (fun q => g q.1)]
    have z98 : M2 98 = M 98 := funext fun j => by rw [e98 j, if_neg (fun q => g q.1)]
    have hh : ∀ v, v ≠ 75 → M2 v = M v := fun v hv => by
      by_cases q1 : v = 96
      · rw [q1]; exact z96
      · by_cases q2 : v = 97
        · rw [q2]; exact z97
        · by_cases q3 : v = 98
          · rw [q3]; exact z98
          · exact F2.1 v (by simp; omega) hv
    refine fin _ _ _ k h2 M2 l1 A1 f2 A2 (e5.trans hk) (TS_keepY S hn.1 (fun v hv => hh v (by omega)) (fun j hj => F2.2 j (by simp; omega)) (S.K.keep (fun v hv => hh v (rL_k hv).2) (fun _ _ => rfl)) (fun τ' g0 g1 => TY_keep (S.Y τ' g0 g1) (by rw [z96]) (by rw [z97]) (hh _ (by omega)) (hh _ (by omega)) (fun _ _ _ => by rw [z98])) (by omega))
  rcases c_tray A S.K τ s m with ⟨g, f1⟩ | ⟨g, g2, f1⟩ | ⟨g, g2, h1, M1, f1, A1, F1, e1, e2, z1, K1⟩
  · refine no 1 ?_ (fun q => g q.1) (if_neg g)
    unfold f_Law_tray
    rw [chk_t A.nb.1, f1, bndC_ex, if_pos (show xN = exNo "java/util/NoSuchElementException" from rfl)]
  · refine no 2 ?_ (fun q => g2 (by omega)) (by rw [if_pos g, if_neg (by omega)])
    unfold f_Law_tray
    rw [chk_t A.nb.1, f1, bndC_ex, if_neg (show ¬ xA = exNo "java/util/NoSuchElementException" by decide +kernel), if_pos (show xA = exNo "java/lang/IllegalArgumentException" from rfl)]
  · have l1 : f_Law_tray h 1 τ s m = some ((0, 0), h1) := by
      unfold f_Law_tray
      rw [chk_t A.nb.1, f1, bndC_ok (by decide)]
    obtain ⟨h2, M2, f2, A2, F2, e5, e96, e97, e98⟩ := r_tray A1 τ s m
    have gg : (0 ≤ τ ∧ τ < 4) ∧ (0 ≤ s ∧ s ≤ 3) ∧ 0 ≤ m ∧ m ≤ 40 := by omega
    have hh : ∀ v, v ≠ 33 + 2 * τ → v ≠ 34 + 2 * τ → v ≠ 75 → v ≠ 96 → v ≠ 97 → v ≠ 98 → M2 v = M v := fun v v1 v2 v3 v4 v5 v6 => by
      rw [F2.1 v (by simp; omega) v3]; exact F1 v v1 v2
    have h75 : ∀ j, j ≠ 5 → M2 75 j = M 75 j := fun j hj => by rw [F2.2 j (by simpa using hj), F1 75 (by omega) (by omega)]
    refine fin h1 c M1 0 h2 M2 l1 A1 f2 A2 (by rw [e5, if_pos gg.1, if_pos gg.2]) (TS_keepY S hn.1 (fun v hv => hh v (by omega) (by omega) (by omega) (by omega) (by omega) (by omega)) (fun j hj => h75 j (by omega)) (K1.keep (fun v hv => F2.1 v (by unfold kO at hv; simp; omega) (rL_k hv).2) (fun _ _ => rfl)) (fun τ' g0 g1 => ?_) (by omega))
    by_cases e : τ' = τ
    · subst e
      refine ⟨by rw [e97, if_pos ⟨gg, rfl⟩]; omega, Or.inr ⟨by rw [e96, if_pos ⟨gg, rfl⟩]; omega, ?_, ?_, fun j j0 j1 => ?_⟩⟩
      · rw [e96, if_pos ⟨gg, rfl⟩, F2.1 _ (by simp; omega) (by omega)]; exact e1
      · rw [e97, if_pos ⟨gg, rfl⟩, F2.1 _ (by simp; omega) (by omega)]; exact e2
      · rw [e98, if_pos ⟨gg, by omega, by omega⟩, F2.1 _ (by simp; omega) (by omega), z1 j j0 j1]; decide
    · refine TY_keep (S.Y τ' g0 g1) ?_ ?_ (hh _ (by omega) (by omega) (by omega) (by omega) (by omega) (by omega)) (hh _ (by omega) (by omega) (by omega) (by omega) (by omega) (by omega)) (fun j j0 j1 => ?_)
      · rw [e96, if_neg (fun q => e q.2), F1 96 (by omega) (by omega)]
      · rw [e97, if_neg (fun q => e q.2), F1 97 (by omega) (by omega)]
      · rw [e98, if_neg (by omega), F1 98 (by omega) (by omega)]
theorem lw_38 (G : mG) (A : At h c p L M) (S : TS E o c L M t n) (hn : 0 ≤ n ∧ n < 512) (i0 : 0 ≤ i) (i1 : i + 6 ≤ (gLen G : Int)) (il : (gLen G : Int) ≤ 3072) : GO o n i (fun R => f_Law_law_J2378 G R 1 75 99 i h) := by
  have w1 : w32 (i + 1) = i + 1 := w32_id (by omega) (by omega)
  have w2 : w32 (i + 2) = i + 2 := w32_id (by omega) (by omega)
  have w3 : w32 (i + 3) = i + 3 := w32_id (by omega) (by omega)
  have w4 : w32 (i + 4) = i + 4 := w32_id (by omega) (by omega)
  have fin : ∀ (h1 : mH) (c1 : Int) (M1 : aM) (k : Int) (h2 : mH) (M2 : aM) (y : Int), f_Law_write h 1 (gX G (i + 1)) (gX G (i + 2)) (qlor (qlshl (gX G (i + 3)) 32) (qland (gX G (i + 4)) 4294967295)) 99 = some ((0, k), h1) → At h1 c1 p L M1 → f_Md_write h1 75 (gX G (i + 1)) (gX G (i + 2)) (qlor (qlshl (gX G (i + 3)) 32) (qland (gX G (i + 4)) 4294967295)) = some ((1, y), h2) → At h2 c1 p L M2 → M2 75 5 = k → (k = 0 → M2 99 0 = y) → TS E o c1 L M2 t (n + 1) → GO o n i (fun R => f_Law_law_J2378 G R 1 75 99 i h) := fun h1 c1 M1 k h2 M2 y f1 A1 f2 A2 e5 hy S2 => by
    refine ⟨h2, E, c1, p, L, M2, t, fun R => ?_, A2, S2⟩
    show f_Law_law_J2378 G R 1 75 99 i h = R h2 (i + 6)
    unfold f_Law_law_J2378
    rw [w1, w2, w3, w4, chk_t (by omega), chk_t (by omega), chk_t (by omega), chk_t (by omega), f1, bndR_ok, chk_t (by omega), chk_t (by omega), chk_t (by omega), chk_t (by omega), f2]
    exact (lw_end0 A1 (by decide) A2 e5 rfl hy _ _ _).trans (lw_next G R i0 (by omega) h2)
  have hv := qlor_rng (qlshl (gX G (i + 3)) 32) (qland (gX G (i + 4)) 4294967295)
  generalize qlor (qlshl (gX G (i + 3)) 32) (qland (gX G (i + 4)) 4294967295) = v at fin hv
  generalize gX G (i + 1) = τ at *
  generalize gX G (i + 2) = m at *
  have hs : ∀ {M1 : aM}, M1 96 = M 96 → M1 97 = M 97 → 0 ≤ τ → τ < 4 → M1 96 τ ≠ -1 → (0 ≤ M1 96 τ ∧ M1 96 τ ≤ 3) ∧ 0 ≤ M1 97 τ ∧ M1 97 τ ≤ 40 := fun {M1} e96 e97 g0 g1 g => by
    rw [e96] at g ⊢
    rw [e97]
    obtain ⟨y1, y2⟩ := S.Y τ g0 g1
    rcases y2 with ⟨a, b⟩ | ⟨a, b, d, e⟩
    · exact absurd a g
    · exact ⟨a, y1⟩
  have no : ∀ k : Int, k ≠ 0 → f_Law_write h 1 τ m v 99 = some ((0, k), halc h 0 0 6) → ¬ ((0 ≤ τ ∧ τ < 4) ∧ M 96 τ ≠ -1 ∧ 0 ≤ m ∧ m < M 97 τ) → (if 0 ≤ τ ∧ τ < 4 then (if M 96 τ = -1 then 2 else if 0 ≤ m ∧ m < M 97 τ then 0 else 3) else 1) = k → GO o n i (fun R => f_Law_law_J2378 G R 1 75 99 i h) := fun k k0 l1 g hk => by
    have A1 := A.exc
    obtain ⟨h2, M2, y, f2, A2, F2, e5, e98, -⟩ := r_write A1 τ m hv.1 hv.2 (hs rfl rfl)
    have z98 : M2 98 = M 98 := funext fun j => by rw [e98 j, if_neg (fun q => g q.1)]
    have hh : ∀ w, w ≠ 75 → M2 w = M w := fun w hw => by
      by_cases q3 : w = 98
      · rw [q3]; exact z98
      · exact F2.1 w (by simpa using q3) hw
    exact fin _ _ _ k h2 M2 y l1 A1 f2 A2 (e5.trans hk) (fun q => absurd q k0) (TS_keepY S hn.1 (fun w hw => hh w (by omega)) (fun j hj => F2.2 j (by simp; omega)) (S.K.keep (fun w hw => hh w (rL_k hw).2) (fun _ _ => rfl)) (fun τ' g0 g1 => TY_keep (S.Y τ' g0 g1) (by rw [hh 96 (by decide)]) (by rw [hh 97 (by decide)]) (hh _ (by omega)) (hh _ (by omega)) (fun _ _ _ => by rw [z98])) (by omega))
  have cas := TY_cases S τ
  rcases c_write A S.K τ m v (fun g0 g1 => (TY_h S g0 g1).2) with ⟨g, f1⟩ | ⟨g, g2, f1⟩ | ⟨g, g2, g3, f1⟩ | ⟨g, g2, g3, h1, f1, A1, K1⟩
  · refine no 1 (by decide) ?_ (fun q => g q.1) (if_neg g)
    unfold f_Law_write
    rw [chk_t A.nb.1, f1, bndC_ex, if_pos (show xN = exNo "java/util/NoSuchElementException" from rfl)]
  · have e : M 96 τ = -1 := by
      rcases cas with q | ⟨q, a, b⟩ | ⟨q, a, b, d, _⟩
      · exact absurd g q
      · exact a
      · omega
    refine no 2 (by decide) ?_ (fun q => q.2.1 e) (by rw [if_pos g, if_pos e])
    unfold f_Law_write
    rw [chk_t A.nb.1, f1, bndC_ex, if_neg (show ¬ xS = exNo "java/util/NoSuchElementException" by decide +kernel), if_pos (show xS = exNo "java/lang/IllegalStateException" from rfl)]
  · have e : M 96 τ ≠ -1 ∧ M (33 + 2 * τ) 2 = M 97 τ := by
      rcases cas with q | ⟨q, a, b⟩ | ⟨q, a, b, d, _⟩
      · exact absurd g q
      · exact absurd b g2
      · exact ⟨a, b⟩
    rw [e.2] at g3
    refine no 3 (by decide) ?_ (fun q => g3 q.2.2) (by rw [if_pos g, if_neg e.1, if_neg g3])
    unfold f_Law_write
    rw [chk_t A.nb.1, f1, bndC_ex, if_neg (show ¬ xI = exNo "java/util/NoSuchElementException" by decide +kernel), if_neg (show ¬ xI = exNo "java/lang/IllegalStateException" by decide +kernel), if_pos (show xI = exNo "java/lang/IndexOutOfBoundsException" from rfl)]
  · obtain ⟨y1, y2⟩ := S.Y τ g.1 g.2
    rcases y2 with ⟨a, b⟩ | ⟨s1, s2, s3, s4⟩
    · exact absurd b g2
    rw [s3] at g3
    rw [s2] at f1 A1 K1
    have gg : (0 ≤ τ ∧ τ < 4) ∧ M 96 τ ≠ -1 ∧ 0 ≤ m ∧ m < M 97 τ := ⟨g, by omega, g3⟩
    have A1' := A1.s99 (cutV (M 96 τ) v)
    have l1 : f_Law_write h 1 τ m v 99 = some ((0, 0), hput h1 99 0 (cutV (M 96 τ) v)) := by
      have C := A1.ou
      unfold f_Law_write
      rw [chk_t A.nb.1, f1, bndC_ok (by decide), C.1, chk_t rfl, C.2.1, chk_t (by decide), wth]
    have k9 : ∀ w, w ≠ 34 + 2 * τ → w ≠ 99 → mup (mup M (34 + 2 * τ) m (cutV (M 96 τ) v)) 99 0 (cutV (M 96 τ) v) w = M w := fun w w1 w2 => by rw [mup_fn w2, mup_fn w1]
    have k34 : ∀ j, mup (mup M (34 + 2 * τ) m (cutV (M 96 τ) v)) 99 0 (cutV (M 96 τ) v) (34 + 2 * τ) j = if j = m then cutV (M 96 τ) v else M (34 + 2 * τ) j := fun j => by
      rw [mup_fn (by omega)]
      by_cases q : j = m
      · rw [q, mup_eq, if_pos rfl]
      · rw [mup_ne (Or.inr q), if_neg q]
    have k99 : mup (mup M (34 + 2 * τ) m (cutV (M 96 τ) v)) 99 0 (cutV (M 96 τ) v) 99 0 = cutV (M 96 τ) v := mup_eq _ _ _ _
    generalize mup (mup M (34 + 2 * τ) m (cutV (M 96 τ) v)) 99 0 (cutV (M 96 τ) v) = N at A1' k9 k34 k99
    have n96 : N 96 = M 96 := k9 96 (by omega) (by decide)
    have n97 : N 97 = M 97 := k9 97 (by omega) (by decide)
    have n98 : N 98 = M 98 := k9 98 (by omega) (by decide)
    obtain ⟨h2, M2, y, f2, A2, F2, e5, e98, ey⟩ := r_write A1' τ m hv.1 hv.2 (hs n96 n97)
    rw [n96, n97] at e5 ey
    have e98 : ∀ j, M2 98 j = if j = 40 * τ + m then cutV (M 96 τ) v else M 98 j := fun j => by
      rw [e98 j, n96, n97, n98]
      by_cases q : j = 40 * τ + m
      · rw [if_pos ⟨gg, q⟩, if_pos q]
      · rw [if_neg (fun r => q r.2), if_neg q]
    have hh : ∀ w, w ≠ 34 + 2 * τ → w ≠ 75 → w ≠ 98 → w ≠ 99 → M2 w = M w := fun w w1 w2 w3 w4 => by
      rw [F2.1 w (by simpa using w3) w2]; exact k9 w w1 w4
    have h75 : ∀ j, j ≠ 5 → M2 75 j = M 75 j := fun j hj => by rw [F2.2 j (by simpa using hj), k9 75 (by omega) (by decide)]
    have m34 : M2 (34 + 2 * τ) = N (34 + 2 * τ) := F2.1 _ (by simp; omega) (by omega)
    have cr := cutV_rng (s := M 96 τ) hv.1 hv.2
    refine fin _ c _ 0 h2 M2 y l1 A1' f2 A2 (by rw [e5, if_pos g, if_neg gg.2.1, if_pos gg.2.2]) (fun _ => by rw [F2.1 99 (by decide) (by decide), k99, ey gg]) (TS_keepY S hn.1 (fun w hw => hh w (by omega) (by omega) (by omega) (by omega)) (fun j hj => h75 j (by omega)) (S.K.keep (fun w hw => hh w (by unfold kO at hw; omega) (rL_k hw).2 (by unfold kO at hw; omega) (by unfold kO at hw; omega)) (fun _ _ => rfl)) (fun τ' g0 g1 => ?_) (by omega))
    by_cases e : τ' = τ
    · subst e
      refine ⟨by rw [hh 97 (by omega) (by decide) (by decide) (by decide)]; exact y1, Or.inr ⟨by rw [hh 96 (by omega) (by decide) (by decide) (by decide)]; exact s1, ?_, ?_, fun j j0 j1 => ?_⟩⟩
      · rw [hh 96 (by omega) (by decide) (by decide) (by decide), hh (33 + 2 * τ') (by omega) (by omega) (by omega) (by omega)]; exact s2
      · rw [hh 97 (by omega) (by decide) (by decide) (by decide), hh (33 + 2 * τ') (by omega) (by omega) (by omega) (by omega)]; exact s3
      · rw [m34, k34, e98]
        by_cases q : j = m
        · rw [if_pos q, if_pos (by omega)]; exact ⟨rfl, cr⟩
        · rw [if_neg q, if_neg (by omega)]; exact s4 j j0 j1
    · exact TY_keep (S.Y τ' g0 g1) (by rw [hh 96 (by omega) (by decide) (by decide) (by decide)]) (by rw [hh 97 (by omega) (by decide) (by decide) (by decide)]) (hh _ (by omega) (by omega) (by omega) (by omega)) (hh _ (by omega) (by omega) (by omega) (by omega)) (fun j j0 j1 => by rw [e98, if_neg (by omega)])
theorem lw_39 (G : mG) (A : At h c p L M) (S : TS E o c L M t n) (hn : 0 ≤ n ∧ n < 512) (i0 : 0 ≤ i) (i1 : i + 6 ≤ (gLen G : Int)) (il : (gLen G : Int) ≤ 3072) : GO o n i (fun R => f_Law_law_J2489 G R 1 75 99 i h) := by
  have w1 : w32 (i + 1) = i + 1 := w32_id (by omega) (by omega)
  have fin : ∀ (h1 : mH) (c1 : Int) (p1 L1 : Int → Int) (M1 : aM) (k : Int) (h2 : mH) (M2 : aM) (y : Int), f_Law_pour h 1 (gX G (i + 1)) 99 = some ((0, k), h1) → At h1 c1 p1 L1 M1 → f_Md_pour h1 75 (gX G (i + 1)) = some ((0, y), h2) → At h2 c1 p1 L1 M2 → M2 75 5 = k → (k = 0 → M2 99 0 = y) → TS E o c1 L1 M2 t (n + 1) → GO o n i (fun R => f_Law_law_J2489 G R 1 75 99 i h) := fun h1 c1 p1 L1 M1 k h2 M2 y f1 A1 f2 A2 e5 hy S2 => by
    refine ⟨h2, E, c1, p1, L1, M2, t, fun R => ?_, A2, S2⟩
    show f_Law_law_J2489 G R 1 75 99 i h = R h2 (i + 6)
    unfold f_Law_law_J2489
    rw [w1, chk_t (by omega), f1, bndR_ok, chk_t (by omega), f2]
    exact (lw_end0 A1 (by decide) A2 e5 rfl hy _ _ _).trans (lw_next G R i0 (by omega) h2)
  generalize gX G (i + 1) = τ at *
  have hs : ∀ {M1 : aM}, M1 96 = M 96 → M1 97 = M 97 → 0 ≤ τ → τ < 4 → M1 96 τ ≠ -1 → (0 ≤ M1 96 τ ∧ M1 96 τ ≤ 3) ∧ 0 ≤ M1 97 τ ∧ M1 97 τ ≤ 40 := fun {M1} e96 e97 g0 g1 g => by
    rw [e96] at g ⊢
    rw [e97]
    obtain ⟨y1, y2⟩ := S.Y τ g0 g1
    rcases y2 with ⟨a, b⟩ | ⟨a, b, d, e⟩
    · exact absurd a g
    · exact ⟨a, y1⟩
  have no : ∀ k : Int, k ≠ 0 → LW c M E t (f_Law_pour h 1 τ 99) k 0 → ¬ ((0 ≤ τ ∧ τ < 4) ∧ M 96 τ ≠ -1 ∧ nS t ≤ 20000) → (if 0 ≤ τ ∧ τ < 4 then (if M 96 τ = -1 then 2 else if nS t ≤ 20000 then 0 else 2) else 1) = k → GO o n i (fun R => f_Law_law_J2489 G R 1 75 99 i h) := fun k k0 l1 g hk => by
    obtain ⟨h1, c1, p1, L1, M1, l1, A1, hc, F1, K1, -⟩ := l1
    have n96 : M1 96 = M 96 := F1 96 (cM_no (by decide))
    have n97 : M1 97 = M 97 := F1 97 (cM_no (by decide))
    have n98 : M1 98 = M 98 := F1 98 (cM_no (by decide))
    obtain ⟨h2, M2, y, f2, A2, F2, e5, -, e98⟩ := r_pour A1 (RI_cl S.I F1) (hs n96 n97)
    rw [n96] at e5
    have z98 : M2 98 = M 98 := funext fun j => by rw [e98 j, n96, if_neg (fun q => g q.1), n98]
    have hh : ∀ w, (w = 1 ∨ w = 2 ∨ w = 31 ∨ w = 76 ∨ (33 ≤ w ∧ w ≤ 40) ∨ (79 ≤ w ∧ w ≤ 81) ∨ (96 ≤ w ∧ w ≤ 97) ∨ (100 ≤ w ∧ w ≤ 138)) → M2 w = M w := fun w hw => by
      rw [F2.1 w (by simp [rL]; omega) (by omega), F1 w (cM_no (by omega))]
    exact fin _ _ _ _ _ k h2 M2 y l1 A1 f2 A2 (e5.trans hk) (fun q => absurd q k0) (TS_keepY S hn.1 (fun w hw => hh w (by omega)) (fun j hj => by rw [F2.2 j (by simp [rS]; omega), F1 75 (cM_no (by decide))]) (K1.keep (fun w hw => F2.1 w (by unfold kO at hw; simp [rL]; omega) (rL_k hw).2) (fun _ _ => rfl)) (fun τ' g0 g1 => TY_keep (S.Y τ' g0 g1) (by rw [hh 96 (by decide)]) (by rw [hh 97 (by decide)]) (hh _ (by omega)) (hh _ (by omega)) (fun _ _ _ => by rw [z98])) (by omega))
  have cas := TY_cases S τ
  rcases c_pour A S.K τ (fun g0 g1 => TY_h S g0 g1) with ⟨g, r1⟩ | ⟨g, g2, r1⟩ | ⟨g, g2, g3, h1, c1, p1, L1, M1, f1, A1, hc, F1, z1, K1⟩
  · refine no 1 (by decide) ?_ (fun q => g q.1) (if_neg g)
    unfold f_Law_pour
    rw [chk_t A.nb.1]
    exact LW_ex (CR_cs r1) (by decide) (fun _ => if_pos rfl)
  · have e : M 96 τ = -1 ∨ 20000 < nS t := by
      rcases g2 with g2 | g2
      · rcases cas with q | ⟨q, a, b⟩ | ⟨q, a, b, d, _⟩
        · exact absurd g q
        · exact Or.inl a
        · omega
      · exact Or.inr g2
    refine no 2 (by decide) ?_ (fun q => by omega) (by
      rw [if_pos g]
      split
      · rfl
      · rw [if_neg (by omega)])
    unfold f_Law_pour
    rw [chk_t A.nb.1]
    exact LW_ex (CR_cs r1) (by decide) (fun _ => (if_neg (by decide +kernel)).trans (if_pos rfl))
  · obtain ⟨y1, y2⟩ := S.Y τ g.1 g.2
    rcases y2 with ⟨a, b⟩ | ⟨s1, s2, s3, s4⟩
    · exact absurd b g2
    rw [s3] at f1 z1
    have hp := poN_rng t y1.1
    have gg : (0 ≤ τ ∧ τ < 4) ∧ M 96 τ ≠ -1 ∧ nS t ≤ 20000 := ⟨g, by omega, g3⟩
    have A1' := A1.s99 (poN t (M 97 τ))
    have l1 : f_Law_pour h 1 τ 99 = some ((0, 0), hput h1 99 0 (poN t (M 97 τ))) := by
      have C := A1.ou
      unfold f_Law_pour
      rw [chk_t A.nb.1, f1, bndC_ok (by decide), C.1, chk_t rfl, C.2.1, chk_t (by decide), wth]
    have hw : ∀ j : Nat, (j : Int) < poN t (M 97 τ) → -9223372036854775808 ≤ wln t (SB t (st t (po t))) (st t (pa t)) j ∧ wln t (SB t (st t (po t))) (st t (pa t)) j < 9223372036854775808 := fun j hj => by
      have hz := S.K.now
      have ho := S.K.opn
      have ws := wlk_spec S.K.W ho.1 ho.2 hz.1 hz.2 (i := j) (by have := hp.2.2 (by omega); omega)
      have ls := lnx_spec S.K.W ho.1 ho.2 ws.1.1 ws.1.2 (by have := hp.2.2 (by omega); omega)
      have hwl : 0 ≤ wln t (SB t (st t (po t))) (st t (pa t)) j ∧ wln t (SB t (st t (po t))) (st t (pa t)) j < 2 * nb t := ls.1
      have := S.K.W.1
      omega
    have kn : (34 + 2 * τ) ∉ cA := by simp [cA]; omega
    have k9 : ∀ w, w ≠ 34 + 2 * τ → w ≠ 99 → w ∉ cA → mup M1 99 0 (poN t (M 97 τ)) w = M w := fun w w1 w2 w3 => by
      rw [mup_fn w2]; exact F1 w (by simp only [List.mem_cons, not_or]; exact ⟨w1, w3⟩)
    have k34 : ∀ j : Nat, mup M1 99 0 (poN t (M 97 τ)) (34 + 2 * τ) j = if (j : Int) < poN t (M 97 τ) then wln t (SB t (st t (po t))) (st t (pa t)) j else M (34 + 2 * τ) j := fun j => by
      rw [mup_fn (by omega)]; exact z1 j
    have k99 : mup M1 99 0 (poN t (M 97 τ)) 99 0 = poN t (M 97 τ) := mup_eq _ _ _ _
    have K1' : KS E (mup M1 99 0 (poN t (M 97 τ))) L1 t := K1.keep (fun w hw => mup_fn (by unfold kO at hw; omega)) (fun _ _ => rfl)
    generalize mup M1 99 0 (poN t (M 97 τ)) = N at A1' k9 k34 k99 K1'
    have n9 : ∀ w, (w = 1 ∨ w = 2 ∨ w = 31 ∨ (33 ≤ w ∧ w ≤ 40) ∨ (75 ≤ w ∧ w ≤ 98) ∨ (100 ≤ w ∧ w ≤ 138)) → w ≠ 34 + 2 * τ → N w = M w := fun w hw w1 => k9 w w1 (by omega) (by simp [cA]; omega)
    have n96 : N 96 = M 96 := n9 96 (by decide) (by omega)
    have n97 : N 97 = M 97 := n9 97 (by decide) (by omega)
    have n98 : N 98 = M 98 := n9 98 (by decide) (by omega)
    have I1 : RI N t := ⟨by rw [n9 76 (by decide) (by omega)]; exact S.I.1, S.I.2.1, S.I.2.2.1, by rw [n9 75 (by decide) (by omega)]; exact S.I.2.2.2⟩
    obtain ⟨h2, M2, y, f2, A2, F2, e5, ey, e98⟩ := r_pour A1' I1 (hs n96 n97)
    rw [n96] at e5
    rw [n96, n97] at ey
    have e98 : ∀ j, M2 98 j = if 40 * τ ≤ j ∧ j < 40 * τ + poN t (M 97 τ) then wln t (SB t (st t (po t))) (st t (pa t)) (j - 40 * τ).toNat else M 98 j := fun j => by
      rw [e98 j, n96, n97, n98]
      by_cases q : 40 * τ ≤ j ∧ j < 40 * τ + poN t (M 97 τ)
      · rw [if_pos ⟨gg, q⟩, if_pos q]
      · rw [if_neg (fun r => q r.2), if_neg q]
    have hh : ∀ w, (w = 1 ∨ w = 2 ∨ w = 31 ∨ w = 76 ∨ (33 ≤ w ∧ w ≤ 40) ∨ (79 ≤ w ∧ w ≤ 81) ∨ (96 ≤ w ∧ w ≤ 97) ∨ (100 ≤ w ∧ w ≤ 138)) → w ≠ 34 + 2 * τ → M2 w = M w := fun w hw w1 => by
      rw [F2.1 w (by simp [rL]; omega) (by omega)]; exact n9 w (by omega) w1
    have m34 : M2 (34 + 2 * τ) = N (34 + 2 * τ) := F2.1 _ (by simp [rL]; omega) (by omega)
    refine fin _ c1 _ _ _ 0 h2 M2 y l1 A1' f2 A2 (by rw [e5, if_pos g, if_neg gg.2.1, if_pos g3]) (fun _ => by rw [F2.1 99 (by simp [rL]) (by decide), k99, ey gg]) (TS_keepY S hn.1 (fun w hw => hh w (by omega) (by omega)) (fun j hj => by rw [F2.2 j (by simp [rS]; omega), n9 75 (by decide) (by omega)]) (K1'.keep (fun w hw => F2.1 w (by unfold kO at hw; simp [rL]; omega) (rL_k hw).2) (fun _ _ => rfl)) (fun τ' g0 g1 => ?_) (by omega))
    by_cases e : τ' = τ
    · subst e
      refine ⟨by rw [hh 97 (by decide) (by omega)]; exact y1, Or.inr ⟨by rw [hh 96 (by decide) (by omega)]; exact s1, ?_, ?_, fun j j0 j1 => ?_⟩⟩
      · rw [hh 96 (by decide) (by omega), hh (33 + 2 * τ') (by omega) (by omega)]; exact s2
      · rw [hh 97 (by decide) (by omega), hh (33 + 2 * τ') (by omega) (by omega)]; exact s3
      · obtain ⟨d, rfl⟩ : ∃ d : Nat, j = d := ⟨j.toNat, by omega⟩
        rw [m34, k34, e98]
        by_cases q : (d : Int) < poN t (M 97 τ')
        · rw [if_pos q, if_pos (by omega), show (40 * τ' + (d : Int) - 40 * τ').toNat = d by omega]; exact ⟨rfl, hw d q⟩
        · rw [if_neg q, if_neg (by omega)]; exact s4 d j0 j1
    · exact TY_keep (S.Y τ' g0 g1) (by rw [hh 96 (by decide) (by omega)]) (by rw [hh 97 (by decide) (by omega)]) (hh _ (by omega) (by omega)) (hh _ (by omega) (by omega)) (fun j j0 j1 => by rw [e98, if_neg (by omega)])
end
