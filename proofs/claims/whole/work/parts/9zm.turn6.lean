/-! THE TURNS OF THE LAW: images -/
section
variable {h : mH} {c : Int} {p L : Int → Int} {M : aM} {E : Int → tT} {o t : tT} {n i : Int}
theorem lw_40 (G : mG) (A : At h c p L M) (S : TS E o c L M t n) (hn : 0 ≤ n ∧ n < 512) (i0 : 0 ≤ i) (i1 : i + 6 ≤ (gLen G : Int)) (il : (gLen G : Int) ≤ 3072) : GO o n i (fun R => f_Law_law_J2545 G R 1 75 i h) := by
  have w1 : w32 (i + 1) = i + 1 := w32_id (by omega) (by omega)
  have hr := S.r
  have he := S.e
  have fin : ∀ (h1 : mH) (c1 : Int) (p1 : Int → Int) (M1 : aM) (k : Int) (h2 : mH) (M2 : aM), f_Law_image h 1 (gX G (i + 1)) = some ((0, k), h1) → At h1 c1 p1 L M1 → f_Md_image h1 75 (gX G (i + 1)) = some ((3, 0), h2) → At h2 c1 p1 L M2 → M2 75 5 = k → TS E o c1 L M2 t (n + 1) → GO o n i (fun R => f_Law_law_J2545 G R 1 75 i h) := fun h1 c1 p1 M1 k h2 M2 f1 A1 f2 A2 e5 S2 => by
    refine ⟨h2, E, c1, p1, L, M2, t, fun R => ?_, A2, S2⟩
    show f_Law_law_J2545 G R 1 75 i h = R h2 (i + 6)
    unfold f_Law_law_J2545
    rw [w1, chk_t (by omega), f1, bndR_ok, chk_t (by omega), f2]
    exact (lw_endV A1 A2 e5 rfl _ _).trans (lw_next G R i0 (by omega) h2)
  generalize gX G (i + 1) = a at *
  rcases c_image A S.K a S.B with ⟨g, f1⟩ | ⟨g, h1, c1, p1, M1, f1, A1, hc, F1, k31, z31, K1, Q1⟩
  · have A1 := A.exc
    obtain ⟨h2, M2, f2, A2, F2, e5, e80, e79⟩ := r_image A1 a
    have g' : ¬ (0 ≤ a ∧ a ≤ 2) := by omega
    have z80 : M2 80 = M 80 := funext fun j => by rw [e80 j, if_neg (fun q => g' q.1)]
    have z79 : M2 79 = M 79 := funext fun j => by rw [e79 j, if_neg (fun q => g' q.1)]
    have hh : ∀ v, v ≠ 75 → M2 v = M v := fun v hv => by
      by_cases q1 : v = 79
      · rw [q1]; exact z79
      · by_cases q2 : v = 80
        · rw [q2]; exact z80
        · exact F2.1 v (by simp; omega) hv
    refine fin _ _ _ _ 1 h2 M2 ?_ A1 f2 A2 (by rw [e5, if_neg g']) (TS_keep S hn.1 (fun v hv => hh v (by omega)) (fun j hj => F2.2 j (by simp; omega)) (S.K.keep (fun v hv => hh v (rL_k hv).2) (fun _ _ => rfl)) ⟨by rw [hh 76 (by decide)]; exact S.I.1, S.I.2.1, S.I.2.2.1, by rw [F2.2 19 (by decide)]; exact S.I.2.2.2⟩ (S.B.le (by omega)) S.O (by omega))
    unfold f_Law_image
    rw [chk_t A.nb.1, f1, bndC_ex, if_pos (show xN = exNo "java/util/NoSuchElementException" from rfl)]
  · have l1 : f_Law_image h 1 a = some ((0, 0), h1) := by
      unfold f_Law_image
      rw [chk_t A.nb.1, f1, bndC_ok (by decide)]
    obtain ⟨h2, M2, f2, A2, F2, e5, e80, e79⟩ := r_image A1 a
    have g' : 0 ≤ a ∧ a ≤ 2 := by omega
    have m1 : ∀ v, v < 100 → v ≠ 31 → M1 v = M v := fun v v1 v2 => F1 v v2 (by omega)
    have hh : ∀ v, v ≠ 75 → v ≠ 79 → v ≠ 80 → M2 v = M1 v := fun v v1 v2 v3 => F2.1 v (by simp; omega) v1
    have hl : ∀ v, v < 100 → v ≠ 31 → v ≠ 75 → v ≠ 79 → v ≠ 80 → M2 v = M v := fun v v1 v2 v3 v4 v5 => (hh v v3 v4 v5).trans (m1 v v1 v2)
    have h75 : ∀ j, j ≠ 5 → M2 75 j = M 75 j := fun j hj => by rw [F2.2 j (by simpa using hj), m1 75 (by decide) (by decide)]
    have k80 : ∀ j, j ≠ a → M2 80 j = M 80 j := fun j hj => by rw [e80 j, if_neg (fun q => hj q.2), m1 80 (by decide) (by decide)]
    have I1 := S.I
    refine fin h1 c1 p1 M1 0 h2 M2 l1 A1 f2 A2 (by rw [e5, if_pos g']) ⟨K1.keep (fun v hv => hh v (rL_k hv).2 (by unfold kO at hv; omega) (by unfold kO at hv; omega)) (fun _ _ => rfl), ⟨by rw [hl 76 (by decide) (by decide) (by decide) (by decide) (by decide)]; exact S.I.1, S.I.2.1, S.I.2.2.1, by rw [h75 19 (by decide)]; exact S.I.2.2.2⟩, S.B.le (by omega), S.O, TT_keep S.T (by rw [hl 1 (by decide) (by decide) (by decide) (by decide) (by decide)]) (h75 7 (by decide)) (hl 2 (by decide) (by decide) (by decide) (by decide) (by decide)) (hl 81 (by decide) (by decide) (by decide) (by decide) (by decide)), ?_, fun τ g0 g1 => ?_, fun d g0 g1 => ?_, ?_, by omega⟩
    · rw [hl 1 (by decide) (by decide) (by decide) (by decide) (by decide), h75 15 (by decide), h75 16 (by decide)]; exact S.F
    · exact TY_keep (S.Y τ g0 g1) (by rw [hl 96 (by decide) (by decide) (by decide) (by decide) (by decide)]) (by rw [hl 97 (by decide) (by decide) (by decide) (by decide) (by decide)]) (hl _ (by omega) (by omega) (by omega) (by omega) (by omega)) (hl _ (by omega) (by omega) (by omega) (by omega) (by omega)) (fun j _ _ => by rw [hl 98 (by decide) (by decide) (by decide) (by decide) (by decide)])
    · have h31 : M2 31 = M1 31 := hh 31 (by decide) (by decide) (by decide)
      have h14 : M2 1 4 = M 1 4 := by rw [hl 1 (by decide) (by decide) (by decide) (by decide) (by decide)]
      by_cases e : d = a
      · subst e
        obtain ⟨q1, q2, q3, q4, q5, q6, q7⟩ := Q1
        have hb : ∀ j, 0 ≤ j → j ≤ 12 → M2 (100 + 13 * d + j) = M1 (100 + 13 * d + j) := fun j j0 j1 => hh _ (by omega) (by omega) (by omega)
        have h0 := hb 0 (by decide) (by decide)
        rw [Int.add_zero] at h0
        refine Or.inr ⟨by rw [h31]; exact z31, by rw [e80 d, if_pos ⟨g', rfl⟩]; decide, t, ⟨q1.eq hb, q2, q3, q4.le (by omega), by rw [h0]; exact q5, by rw [h0]; exact q6, ?_⟩, S.O, fun j j0 j1 => ?_⟩
        · have m14 : M1 1 4 = M 1 4 := by rw [m1 1 (by decide) (by decide)]
          rw [h0, h14, ← m14]; exact q7
        · rw [e79, if_pos ⟨g', by omega, by omega⟩, m1 76 (by decide) (by decide), I1.1, show 434 * d + j - 434 * d = j by omega]
      · exact TG_keep (S.G d g0 g1) (fun _ _ => rfl) (by rw [h31]; exact k31 d e) (k80 d e) (by rw [h14]; exact Int.le_refl _) (fun j j0 j1 => by rw [hh _ (by omega) (by omega) (by omega)]; exact F1 _ (by omega) (by omega)) (fun j j0 j1 => by rw [e79, if_neg (by omega), m1 79 (by decide) (by decide)]) (by omega)
    · rw [hl 1 (by decide) (by decide) (by decide) (by decide) (by decide)]; omega
theorem lw_41 (G : mG) (A : At h c p L M) (S : TS E o c L M t n) (hn : 0 ≤ n ∧ n < 512) (i0 : 0 ≤ i) (i1 : i + 6 ≤ (gLen G : Int)) (il : (gLen G : Int) ≤ 3072) : GO o n i (fun R => f_Law_law_J2581 G R 1 75 i h) := by
  have w1 : w32 (i + 1) = i + 1 := w32_id (by omega) (by omega)
  have fin : ∀ (h1 : mH) (c1 : Int) (M1 : aM) (k : Int) (h2 : mH) (M2 : aM) (t' : tT), f_Law_restore h 1 (gX G (i + 1)) = some ((0, k), h1) → At h1 c1 p L M1 → f_Md_restore h1 75 (gX G (i + 1)) = some ((3, 0), h2) → At h2 c1 p L M2 → M2 75 5 = k → TS E o c1 L M2 t' (n + 1) → GO o n i (fun R => f_Law_law_J2581 G R 1 75 i h) := fun h1 c1 M1 k h2 M2 t' f1 A1 f2 A2 e5 S2 => by
    refine ⟨h2, E, c1, p, L, M2, t', fun R => ?_, A2, S2⟩
    show f_Law_law_J2581 G R 1 75 i h = R h2 (i + 6)
    unfold f_Law_law_J2581
    rw [w1, chk_t (by omega), f1, bndR_ok, chk_t (by omega), f2]
    exact (lw_endV A1 A2 e5 rfl _ _).trans (lw_next G R i0 (by omega) h2)
  generalize gX G (i + 1) = a at *
  have no : ∀ k : Int, f_Law_restore h 1 a = some ((0, k), halc h 0 0 6) → ¬ ((0 ≤ a ∧ a ≤ 2) ∧ M 80 a ≠ 0) → (if 0 ≤ a ∧ a ≤ 2 then (if M 80 a = 0 then 2 else 0) else 1) = k → GO o n i (fun R => f_Law_law_J2581 G R 1 75 i h) := fun k l1 g hk => by
    have A1 := A.exc
    obtain ⟨h2, M2, f2, A2, F2, e5, e76⟩ := r_restore A1 a
    have z76 : M2 76 = M 76 := funext fun j => by rw [e76 j, if_neg (fun q => g q.1)]
    have hh : ∀ v, v ≠ 75 → M2 v = M v := fun v hv => by
      by_cases q1 : v = 76
      · rw [q1]; exact z76
      · exact F2.1 v (by simpa using q1) hv
    exact fin _ _ _ k h2 M2 t l1 A1 f2 A2 (e5.trans hk) (TS_keep S hn.1 (fun v hv => hh v (by omega)) (fun j hj => F2.2 j (by simp; omega)) (S.K.keep (fun v hv => hh v (rL_k hv).2) (fun _ _ => rfl)) ⟨by rw [hh 76 (by decide)]; exact S.I.1, S.I.2.1, S.I.2.2.1, by rw [F2.2 19 (by decide)]; exact S.I.2.2.2⟩ (S.B.le (by omega)) S.O (by omega))
  have hsp : ∃ u : tT, 0 ≤ a → a < 3 → M 31 a ≠ 0 → IQ E M a u (60 * n) ∧ M 80 a ≠ 0 ∧ OUT u o ∧ ∀ j, 0 ≤ j → j < 434 → M 79 (434 * a + j) = u j := by
    by_cases q : 0 ≤ a ∧ a < 3
    · rcases S.G a q.1 q.2 with ⟨b1, b2⟩ | ⟨b1, b2, u, b3, b4, b5⟩
      · exact ⟨t, fun _ _ k => absurd b1 k⟩
      · exact ⟨u, fun _ _ _ => ⟨b3, b2, b4, b5⟩⟩
    · exact ⟨t, fun g0 g1 => absurd ⟨g0, g1⟩ q⟩
  obtain ⟨u, hu⟩ := hsp
  rcases c_restore A S.K (i := a) (u := u) (m := 60 * n) (fun g0 g1 g => (hu g0 g1 g).1) with ⟨g, f1⟩ | ⟨g, g2, f1⟩ | ⟨g, g2, h1, M1, f1, A1, F1, K1⟩
  · refine no 1 ?_ (by omega) (if_neg (by omega))
    unfold f_Law_restore
    rw [chk_t A.nb.1, f1, bndC_ex, if_pos (show xN = exNo "java/util/NoSuchElementException" from rfl)]
  · have e : M 80 a = 0 := by
      rcases S.G a g.1 g.2 with ⟨b1, b2⟩ | ⟨b1, b2, _⟩
      · exact b2
      · exact absurd g2 b1
    refine no 2 ?_ (fun q => q.2 e) (by rw [if_pos (by omega), if_pos e])
    unfold f_Law_restore
    rw [chk_t A.nb.1, f1, bndC_ex, if_neg (show ¬ xS = exNo "java/util/NoSuchElementException" by decide +kernel), if_pos (show xS = exNo "java/lang/IllegalStateException" from rfl)]
  · obtain ⟨q1, q2, q3, q4⟩ := hu g.1 g.2 g2
    have l1 : f_Law_restore h 1 a = some ((0, 0), h1) := by
      unfold f_Law_restore
      rw [chk_t A.nb.1, f1, bndC_ok (by decide)]
    have m1 : ∀ v, (v < 5 ∨ 17 < v) → M1 v = M v := fun v hv => F1 v (by simp [cN]; omega)
    obtain ⟨h2, M2, f2, A2, F2, e5, e76⟩ := r_restore A1 a
    rw [m1 80 (by decide)] at e5
    have g' : 0 ≤ a ∧ a ≤ 2 := by omega
    have z76 : M2 76 = u := funext fun j => by
      rw [e76 j, m1 80 (by decide), m1 79 (by decide), m1 76 (by decide), S.I.1]
      by_cases q : 0 ≤ j ∧ j < 434
      · rw [if_pos ⟨⟨g', q2⟩, q⟩]; exact q4 j q.1 q.2
      · rw [if_neg (fun r => q r.2), S.O j q]; exact (q3 j q).symm
    have hh : ∀ v, v ≠ 75 → v ≠ 76 → (v < 5 ∨ 17 < v) → M2 v = M v := fun v v1 v2 v3 => by
      rw [F2.1 v (by simpa using v2) v1]; exact m1 v v3
    have h75 : ∀ j, j ≠ 5 → M2 75 j = M 75 j := fun j hj => by rw [F2.2 j (by simpa using hj), m1 75 (by decide)]
    exact fin h1 c M1 0 h2 M2 u l1 A1 f2 A2 (by rw [e5, if_pos g', if_neg q2]) (TS_keep S hn.1 (fun v hv => hh v (by omega) (by omega) (by omega)) (fun j hj => h75 j (by omega)) (K1.keep (fun v hv => F2.1 v (by have := rL_k hv; unfold kO at hv; simp; omega) (rL_k hv).2) (fun _ _ => rfl)) ⟨z76, K1.W, K1.D, by rw [h75 19 (by decide)]; exact S.I.2.2.2⟩ (q1.2.2.2.1.le (by omega)) q3 (by omega))
end
