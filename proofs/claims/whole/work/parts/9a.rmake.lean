/-! THE REFERENCE'S STEPS THAT ARE MADE -/
abbrev FU : aM → aM → Prop := Fs (76 :: rL) 75 rS
theorem FM.ft {M N : aM} (F : FM M N) : FU M N := F.mono (by decide) (fun _ h => h)
theorem Fr.ft {M N : aM} {l : List Int} (F : Fr l M N) (hl : ∀ v ∈ l, v ∈ 76 :: rL) (h75 : (75 : Int) ∉ l) : FU M N := (F.fs (d := 75) (is := []) h75).mono hl (fun _ q => by cases q)
/-- answers y (x, if nothing is thrown), thrown is k, told is u after it -/
def RC (c : Int) (p L : Int → Int) (M : aM) (tg : Nat) (f : Option mR) (x k : Int) (u : tT) : Prop := ∃ h' M' y, f = some ((tg, y), h') ∧ (k = 0 → y = x) ∧ At h' c p L M' ∧ FU M M' ∧ M' 76 = u ∧ M' 75 5 = k
section
variable {h : mH} {c : Int} {p L : Int → Int} {M : aM} {t : tT}
theorem RC_mv {M1 : aM} {tg : Nat} {f : Option mR} {x k : Int} {u : tT} (F : FU M M1) (r : RC c p L M1 tg f x k u) : RC c p L M tg f x k u := by
  obtain ⟨h', M', y, a, b, d, e, g⟩ := r
  exact ⟨h', M', y, a, b, d, F.tr e, g⟩
theorem RC_ok (A : At h c p L M) {tg : Nat} {x k : Int} {u : tT} (hu : M 76 = u) (hk : M 75 5 = k) : RC c p L M tg (some ((tg, x), h)) x k u := ⟨h, M, x, rfl, fun _ => rfl, A, Fs.rf _ _ _ _, hu, hk⟩
theorem RC_no (A : At h c p L M) {tg : Nat} {x y k : Int} {u : tT} (hu : M 76 = u) (hk : M 75 5 = k) (h0 : k ≠ 0) : RC c p L M tg (some ((tg, y), h)) x k u := ⟨h, M, y, rfl, fun q => absurd q h0, A, Fs.rf _ _ _ _, hu, hk⟩
theorem stp_mk {b up : Int} (e : wy0 t b up = 0) : mk1 t b up = u1 (u1 t (6 + 4 * b) (tow (pa t) b up)) (8 + 4 * b) (md t b + 1) := by
  funext j
  unfold mk1
  by_cases g : j = 8 + 4 * b
  · rw [g, u1_eq, if_neg (by omega), if_pos rfl]
  · rw [u1_ne g, if_neg g]
    by_cases g2 : j = 6 + 4 * b
    · rw [g2, u1_eq, if_pos rfl]
    · rw [u1_ne g2, if_neg g2]
theorem RI.stp {M' : aM} {b up : Int} (I : RI M t) (h : M' 76 = stp t b up) (h2 : M' 75 19 = M 75 19) : RI M' (stp t b up) := ⟨h, stp_W I.2.1 b up, stp_D I.2.1 I.2.2.1 b up, by rw [h2]; exact I.2.2.2⟩
theorem s_makes (A : At h c p L M) (I : RI M t) {m : Int} (B : MDB t m) (hm : m ≤ 100000) (b up : Int) : ∃ h' M', f_Md_makes h 75 b up = some ((0, spV t b up), h') ∧ At h' c p L M' ∧ Fr [76, 82] M M' ∧ M' 76 = stp t b up ∧ RI M' (stp t b up) := by
  have W := I.2.1
  obtain ⟨h1, M1, f1, A1, F1⟩ := s_whyNow A I b up
  have F1' : Fr [76, 82] M M1 := F1.mono (by decide)
  have e76 : M1 76 = t := by rw [F1 76 (by decide)]; exact I.1
  have C1 := A1.md
  have hw := wy0_le t b up
  unfold f_Md_makes
  rw [chk_t (I.mh A).T, f1, bndT_ok (by decide)]
  by_cases e : wy0 t b up = 0
  · have g := wy0_rng e
    have hn := W.1
    have hst : stp t b up = mk1 t b up := by unfold stp; rw [if_pos e]
    have a1 : w32 (w32 (5 + w32 (4 * b)) + 1) = 6 + 4 * b := by rw [w32_id (x := 4 * b) (by omega) (by omega), w32_id (x := 5 + 4 * b) (by omega) (by omega), w32_id (by omega) (by omega)]; omega
    have a3 : w32 (w32 (5 + w32 (4 * b)) + 3) = 8 + 4 * b := by rw [w32_id (x := 4 * b) (by omega) (by omega), w32_id (x := 5 + 4 * b) (by omega) (by omega), w32_id (by omega) (by omega)]; omega
    have hm1 := B b g.1.1 g.1.2
    have hpl := W.2.2.2.2.2.1 b g.1.1 g.1.2
    have A2 := A1.aput (v := 76) (6 + 4 * b) (tow (pa t) b up) (by decide) (by decide) (by decide) (by decide +kernel) (by decide) (by decide)
    have C2 := A2.md
    have A3 := A2.aput (v := 76) (8 + 4 * b) (md t b + 1) (by decide) (by decide) (by decide) (by decide +kernel) (by decide) (by decide)
    have k76 : mup (mup M1 76 (6 + 4 * b) (tow (pa t) b up)) 76 (8 + 4 * b) (md t b + 1) 76 = stp t b up := by rw [mup_self, mup_self, e76, hst, stp_mk e]
    have F3 : Fr [76, 82] M (mup (mup M1 76 (6 + 4 * b) (tow (pa t) b up)) 76 (8 + 4 * b) (md t b + 1)) := (F1'.pu (by decide)).pu (by decide)
    have I3 : RI _ (stp t b up) := I.stp k76 (by rw [F3 75 (by decide)])
    have fin : f_Md_makes_J36 75 b 76 (6 + 4 * b) (M1 76 (6 + 4 * b)) (if up = 0 then -1 else 1) h1 = some ((0, tow (pa t) b up), hput (hput h1 76 (6 + 4 * b) (tow (pa t) b up)) 76 (8 + 4 * b) (md t b + 1)) := by
      unfold f_Md_makes_J36
      have et : w32 (M1 76 (6 + 4 * b) + (if up = 0 then -1 else 1)) = tow (pa t) b up := by
        rw [e76, show t (6 + 4 * b) = pa t b from rfl]
        have h2 := g.2
        have h3 := I.2.2.1 b g.1.1 g.1.2
        unfold tow at h2 ⊢
        by_cases q : up = 0
        · rw [if_pos q, if_pos q, w32_id (by omega) (by omega)]; rfl
        · rw [if_neg q, if_neg q]
          rw [if_neg q] at h2
          rw [w32_id (by omega) (by omega)]
      rw [et, a3]
      simp only [C1]
      rw [chk_t trivial, chk_t (by omega), wth]
      simp only [C2]
      rw [chk_t trivial, chk_t trivial, chk_t (by omega), chk_t trivial, chk_t (by omega), mup_ne (Or.inr (by omega)), e76, show t (8 + 4 * b) = md t b from rfl, w32_id (by omega) (by omega), wth, chk_t (I3.mh A3).T, s_Md_of (I3.mh A3) I3.2.1 g.1.1 (by omega) (by omega) (by omega), bndT_ok (by decide), show 5 + 4 * b + 1 = 6 + 4 * b by omega, hst, show mk1 t b up (6 + 4 * b) = tow (pa t) b up from by unfold mk1; rw [if_pos rfl]]
    refine ⟨_, _, ?_, A3, F3, k76, I3⟩
    rw [if_pos e, a1, show spV t b up = tow (pa t) b up from by unfold spV; rw [if_pos e]]
    simp only [C1]
    rw [chk_t trivial, chk_t trivial, chk_t (by omega)]
    by_cases q : up = 0
    · rw [if_pos q] at fin; rw [if_pos q]; exact fin
    · rw [if_neg q] at fin; rw [if_neg q]; exact fin
  · have hst : stp t b up = t := by unfold stp; rw [if_neg e]
    refine ⟨h1, M1, ?_, A1, F1', by rw [hst]; exact e76, I.stp (by rw [hst]; exact e76) (by rw [F1 75 (by decide)])⟩
    rw [if_neg e, w32_id (by omega) (by omega), show spV t b up = - wy0 t b up from by unfold spV; rw [if_neg e]]
theorem r_step (A : At h c p L M) (I : RI M t) {m : Int} (B : MDB t m) (hm : m ≤ 100000) (b up : Int) : RC c p L M 0 (f_Md_step h 75 b up) (spV t b up) 0 (stp t b up) := by
  have A1 := A.thr 0
  have I1 := I.fm (FM.thr M 0)
  obtain ⟨h2, M2, f2, A2, F2, e2, I2⟩ := s_makes A1 I1 B hm b up
  unfold f_Md_step
  rw [chk_t (I.mh A).T, wth, chk_t (I1.mh A1).T, f2, bndT_ok (by decide)]
  exact RC_mv ((FM.thr M 0).ft.tr (F2.ft (by decide) (by decide))) (RC_ok A2 e2 (by rw [F2 75 (by decide)]; exact thr_eq M 0))
/-- why a number's step may not be made -/
theorem s_verseWhy (A : At h c p L M) (I : RI M t) {v : Int} (hv : -9223372036854775808 ≤ v ∧ v < 9223372036854775808) : ∃ h' M', f_Md_verseWhy h 75 v = some ((0, whN t v), h') ∧ At h' c p L M' ∧ Fr [82] M M' := by
  have W := I.2.1
  have hn := W.1
  unfold f_Md_verseWhy whN
  by_cases g : v < 0
  · rw [if_pos (qlcmp_lt.mpr g), if_neg (by omega)]
    exact ⟨h, M, rfl, A, Fr.rf _ _⟩
  · have g0 : 0 ≤ v := by omega
    rw [if_neg (fun e => g (qlcmp_lt.mp e)), chk_t (by decide), chk_t (I.mh A).T, Int.tdiv_eq_ediv_of_nonneg g0, w64_id (by omega) (by omega), s_Md_isBar (I.mh A) W, bndT_ok (by decide)]
    by_cases g1 : v < 2 * nb t
    · rw [b2d (show 0 ≤ v / 2 ∧ v / 2 < nb t by omega), if_neg (by decide), if_pos (show 0 ≤ v ∧ v < 2 * nb t from ⟨g0, g1⟩), chk_t (by decide), chk_t (by decide), Int.tmod_eq_emod_of_nonneg g0, w32_id (x := v) (by omega) (by omega), Int.tdiv_eq_ediv_of_nonneg g0, w32_id (x := v / 2) (by omega) (by omega)]
      rcases (show v % 2 = 1 ∨ v % 2 = 0 by omega) with e | e
      · obtain ⟨h1, M1, f1, A1, F1⟩ := s_whyNow A I (v / 2) 1
        rw [if_pos (qlcmp_eq.mpr e), chk_t (I.mh A).T, f1, bndT_ok (by decide), e]
        exact ⟨h1, M1, rfl, A1, F1⟩
      · obtain ⟨h1, M1, f1, A1, F1⟩ := s_whyNow A I (v / 2) 0
        rw [if_neg (fun q => by have := qlcmp_eq.mp q; omega), chk_t (I.mh A).T, f1, bndT_ok (by decide), e]
        exact ⟨h1, M1, rfl, A1, F1⟩
    · rw [b2n (show ¬ (0 ≤ v / 2 ∧ v / 2 < nb t) by omega), if_pos rfl, if_neg (by omega)]
      exact ⟨h, M, rfl, A, Fr.rf _ _⟩
end
