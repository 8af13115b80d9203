/-! THE REFERENCE READS BARS AND FACTS -/
section
variable {h : mH} {c : Int} {p L : Int → Int} {M : aM} {f : Int → Int} {len : Int}
theorem s_rBar (A : At h c p L M) (X : TX f len) (T : RTt M f len) {u : tT} (hu : cl4 (M 77) = u) (hb : 0 ≤ nb u ∧ nb u ≤ 9) {q : Int} (R : RTx M f len (.inr q)) : ∃ h' M', f_Md_readBar h 75 = some ((3, 0), h') ∧ At h' c p L M' ∧ FR M M' ∧ RU M' f len (sBar f len u q) := by
  have C := A.md
  have e1 : M 77 1 = nb u := by rw [← hu]; exact (cl4_in (by decide)).symm
  unfold f_Md_readBar sBar
  simp only [C]
  rw [chk_t trivial, chk_t trivial, chk_t (by decide), e1]
  by_cases g : nb u = 9
  · obtain ⟨h1, M1, f1, A1, F1, R1, n1⟩ := s_blames A R (k := 4) (by decide)
    have C1 := A1.md
    rw [if_pos g, if_pos g, chk_t trivial, f1, bndT_ok (by decide)]
    unfold f_Md_readBar_J16
    simp only [C1]
    rw [chk_t trivial, if_neg n1]
    exact ⟨h1, M1, rfl, A1, F1.mono (by decide) (by decide), RU.inl R1⟩
  · obtain ⟨h1, M1, f1, A1, F1, R1⟩ := s_readsX A X T R
    have T1 := T.fr F1.fr
    have u1_ : cl4 (M1 77) = u := by rw [f9_77 F1]; exact hu
    rw [if_neg g, if_neg g]
    unfold f_Md_readBar_J16
    simp only [C]
    rw [chk_t trivial, R.2.1, if_pos rfl, chk_t trivial, f1, bndT_ok (by decide), chk_t (MH.of A1).T]
    obtain ⟨h2, M2, f2, A2, F2, R2⟩ := s_number A1 X T1 R1 2 4
    have T2 := T1.fr F2.fr
    have u2_ : cl4 (M2 77) = u := by rw [f13_77 F2]; exact u1_
    have FF : FR M M2 := F1.fr.tr F2.fr
    rw [bd_r] at f2 R2
    rw [f2, bndT_ok (by decide), chk_t (MH.of A2).T]
    match hy : sNum f len 2 4 (xtE f len q), R2 with
    | .inl e, R2 =>
      obtain ⟨h3, M3, f3, A3, F3, R3⟩ := s_took A2 X T2 R2 (n := 4) (by decide)
      have e3 : (if iW f len (nx_ (.inl e)) 4 = true then te_ f len (nx_ (.inl e)) else nx_ (.inl e)) = .inl e := rfl
      rw [e3] at R3
      rw [f3, bndT_ok (by decide), if_pos (show b2i (iW f len (nx_ (.inl e)) 4) = 0 from rfl)]
      obtain ⟨h4, M4, f4, A4, F4, R4⟩ := s_rBar56 A3 X (T2.fr F3.fr) (by rw [f9_77 F3]; exact u2_) ⟨hb.1, by omega⟩ (n := 2) (a := 0) (Or.inl ⟨e, rfl⟩) R3
      exact ⟨h4, M4, f4, A4, (FF.tr F3.fr).tr F4, R4⟩
    | .inr x, R2 =>
      have sx := (sNum_inr hy).2.2
      obtain ⟨h3, M3, f3, A3, F3, R3⟩ := s_took A2 X T2 R2 (n := 4) (by decide)
      have T3 := T2.fr F3.fr
      have u3_ : cl4 (M3 77) = u := by rw [f9_77 F3]; exact u2_
      have e0 : nx_ (.inr x) = .inr x.2 := rfl
      have ei : iW f len (nx_ (.inr x)) 4 = isW f len x.2 4 := rfl
      rw [ei] at R3 f3
      rw [f3, bndT_ok (by decide), bd_r]
      show ∃ h' M', (if b2i (isW f len x.2 4) = 0 then f_Md_readBar_J56 75 x.1 0 h3 else _) = some ((3, 0), h') ∧ _
      cases g4 : isW f len x.2 4
      · rw [g4, if_neg (by decide), e0] at R3
        rw [if_pos (show b2i false = 0 from rfl), if_neg (by decide), bd_r]
        obtain ⟨h4, M4, f4, A4, F4, R4⟩ := s_rBar56 A3 X T3 u3_ ⟨hb.1, by omega⟩ (n := x.1) (a := 0) (Or.inr sx) R3
        exact ⟨h4, M4, f4, A4, (FF.tr F3.fr).tr F4, R4⟩
      · rw [g4, if_pos rfl, e0] at R3
        have R3 : RTx M3 f len (.inr (xtE f len x.2)) := R3
        rw [if_neg (show ¬ b2i true = 0 by decide), if_pos rfl, chk_t (MH.of A3).T]
        obtain ⟨h4, M4, f4, A4, F4, R4⟩ := s_number A3 X T3 R3 0 (x.1 - 1)
        have T4 := T3.fr F4.fr
        have u4_ : cl4 (M4 77) = u := by rw [f13_77 F4]; exact u3_
        rw [bd_r] at f4 R4
        show ∃ h' M', bndT 0 (f_Md_number h3 75 0 (w32 (x.1 - 1))) (fun x8 h7 => f_Md_readBar_J56 75 x.1 x8 h7) = some ((3, 0), h') ∧ _
        rw [w32_id (x := x.1 - 1) (by omega) (by omega), f4, bndT_ok (by decide)]
        match hz : sNum f len 0 (x.1 - 1) (xtE f len x.2), R4 with
        | .inl e, R4 =>
          obtain ⟨h5, M5, f5, A5, F5, R5⟩ := s_rBar56 A4 X T4 u4_ ⟨hb.1, by omega⟩ (n := x.1) (a := 0) (Or.inl ⟨e, rfl⟩) (x := .inl e) R4
          exact ⟨h5, M5, f5, A5, ((FF.tr F3.fr).tr F4.fr).tr F5, R5⟩
        | .inr y, R4 =>
          obtain ⟨h5, M5, f5, A5, F5, R5⟩ := s_rBar56 A4 X T4 u4_ ⟨hb.1, by omega⟩ (n := x.1) (a := y.1) (Or.inr sx) (x := .inr y.2) R4
          exact ⟨h5, M5, f5, A5, ((FF.tr F3.fr).tr F4.fr).tr F5, R5⟩
/-- the bar's number -/
theorem s_barTold (A : At h c p L M) (X : TX f len) (T : RTt M f len) {x : tP Int} (R : RTx M f len x) (hb : 0 ≤ M 77 1 ∧ M 77 1 ≤ 9) : ∃ h' M', f_Md_barTold h 75 = some ((0, nv_ (bd x (sNum f len 0 (M 77 1 - 1))) 0), h') ∧ At h' c p L M' ∧ FT13 M M' ∧ RTx M' f len (nx_ (bd x (sNum f len 0 (M 77 1 - 1)))) := by
  have C := A.md
  obtain ⟨h1, M1, f1, A1, F1, R1⟩ := s_number A X T R 0 (M 77 1 - 1)
  unfold f_Md_barTold
  simp only [C]
  rw [chk_t trivial, chk_t trivial, chk_t (by decide), chk_t trivial, w32_id (by omega) (by omega), f1, bndT_ok (by decide)]
  exact ⟨h1, M1, rfl, A1, F1, R1⟩
theorem s_placesTold (A : At h c p L M) {b : Int} (h0 : 0 ≤ b) (h1 : b < 9) : f_Md_placesTold h 75 b = some ((0, pl (cl4 (M 77)) b), h) := by
  have C := A.md
  unfold f_Md_placesTold pl
  rw [cl4_in (by omega)]
  rw [w32_id (x := 4 * b) (by omega) (by omega), w32_id (x := 5 + 4 * b) (by omega) (by omega), w32_id (by omega) (by omega), Int.add_zero]
  simp only [C]
  rw [chk_t trivial, chk_t trivial, chk_t (by omega)]
/-- a fact is put in -/
theorem s_rFact136 (A : At h c p L M) {u : tT} (hu : cl4 (M 77) = u) {k o nt a q : Int} (hk : 41 ≤ k ∧ k ≤ 409) (hc : 0 ≤ u (k + 3) ∧ u (k + 3) < 4) (R : RTx M f len (.inr q)) (n2 : nt = 0 ∨ nt = 1) :
    ∃ h' M', (wth (hput h 77 (k + 4 + 3 * u (k + 3)) o) (fun h8 => chk (hpT h8 75 = 12) ((if nt = 0 then f_Md_readFact_J136 75 k a (k + 4 + 3 * u (k + 3)) (hpV h8 75 1) (w32 (k + 4 + 3 * u (k + 3) + 1)) 0 h8 else f_Md_readFact_J136 75 k a (k + 4 + 3 * u (k + 3)) (hpV h8 75 1) (w32 (k + 4 + 3 * u (k + 3) + 1)) 1 h8)))) = some ((3, 0), h') ∧ At h' c p L M' ∧ FR M M' ∧ RU M' f len (.inr (aFact u k o nt a, q)) := by
  have A1 := A.s77 (k + 4 + 3 * u (k + 3)) o
  have C1 := A1.md
  have A2 := A1.s77 (k + 5 + 3 * u (k + 3)) nt
  have C2 := A2.md
  have A3 := A2.s77 (k + 6 + 3 * u (k + 3)) a
  have C3 := A3.md
  have A4 := A3.s77 (k + 3) (u (k + 3) + 1)
  have j136 : f_Md_readFact_J136 75 k a (k + 4 + 3 * u (k + 3)) 77 (k + 5 + 3 * u (k + 3)) nt (hput h 77 (k + 4 + 3 * u (k + 3)) o) = some ((3, 0), hput (hput (hput (hput h 77 (k + 4 + 3 * u (k + 3)) o) 77 (k + 5 + 3 * u (k + 3)) nt) 77 (k + 6 + 3 * u (k + 3)) a) 77 (k + 3) (u (k + 3) + 1)) := by
    have e3 : mup (mup (mup M 77 (k + 4 + 3 * u (k + 3)) o) 77 (k + 5 + 3 * u (k + 3)) nt) 77 (k + 6 + 3 * u (k + 3)) a 77 (k + 3) = u (k + 3) := by
      rw [mup_ne (Or.inr (by omega)), mup_ne (Or.inr (by omega)), mup_ne (Or.inr (by omega)), ← hu, cl4_in (by omega)]
    unfold f_Md_readFact_J136
    simp only [C1]
    rw [chk_t trivial, chk_t (by omega), wth]
    simp only [C2]
    rw [chk_t trivial, chk_t trivial, w32_id (x := k + 4 + 3 * u (k + 3) + 2) (by omega) (by omega), chk_t (by omega), show k + 4 + 3 * u (k + 3) + 2 = k + 6 + 3 * u (k + 3) by omega, wth]
    simp only [C3]
    rw [chk_t trivial, chk_t trivial, w32_id (x := k + 3) (by omega) (by omega), chk_t (by omega), chk_t trivial, chk_t (by omega), e3, w32_id (x := u (k + 3) + 1) (by omega) (by omega), wth]
  have q1 : hpV (hput h 77 (k + 4 + 3 * u (k + 3)) o) 75 1 = 77 := by simp only [C1]
  rw [wth, chk_t (MH.of A1).T, q1, w32_id (x := k + 4 + 3 * u (k + 3) + 1) (by omega) (by omega), show k + 4 + 3 * u (k + 3) + 1 = k + 5 + 3 * u (k + 3) by omega]
  have tail : At (hput (hput (hput (hput h 77 (k + 4 + 3 * u (k + 3)) o) 77 (k + 5 + 3 * u (k + 3)) nt) 77 (k + 6 + 3 * u (k + 3)) a) 77 (k + 3) (u (k + 3) + 1)) c p L (mup (mup (mup (mup M 77 (k + 4 + 3 * u (k + 3)) o) 77 (k + 5 + 3 * u (k + 3)) nt) 77 (k + 6 + 3 * u (k + 3)) a) 77 (k + 3) (u (k + 3) + 1)) ∧ FR M (mup (mup (mup (mup M 77 (k + 4 + 3 * u (k + 3)) o) 77 (k + 5 + 3 * u (k + 3)) nt) 77 (k + 6 + 3 * u (k + 3)) a) 77 (k + 3) (u (k + 3) + 1)) ∧ RU (mup (mup (mup (mup M 77 (k + 4 + 3 * u (k + 3)) o) 77 (k + 5 + 3 * u (k + 3)) nt) 77 (k + 6 + 3 * u (k + 3)) a) 77 (k + 3) (u (k + 3) + 1)) f len (.inr (aFact u k o nt a, q)) := by
    refine ⟨A4, (((((Fs.rf _ _ _ _).pu (by decide) (by decide)).pu (by decide) (by decide)).pu (by decide) (by decide)).pu (by decide) (by decide)), RU.inr (R.w77.w77.w77.w77) ?_⟩
    rw [cl4_up (by omega), cl4_up (by omega), cl4_up (by omega), cl4_up (by omega), hu]; rfl
  rcases n2 with rfl | rfl
  · rw [if_pos rfl, j136]; exact ⟨_, _, rfl, tail⟩
  · rw [if_neg (by decide), j136]; exact ⟨_, _, rfl, tail⟩
/-- behind not or at -/
theorem s_rFact60 (A : At h c p L M) (X : TX f len) (T : RTt M f len) {u : tT} (hu : cl4 (M 77) = u) {k o nt q : Int} (hk : 41 ≤ k ∧ k ≤ 409) (hc : 0 ≤ u (k + 3) ∧ u (k + 3) < 4) (R : RTx M f len (.inr q)) (n2 : nt = 0 ∨ nt = 1) (ho : 0 ≤ o ∧ o < 9) (hpl : 0 ≤ pl u o ∧ pl u o ≤ 4) :
    ∃ h' M', f_Md_readFact_J60 75 k o nt h = some ((3, 0), h') ∧ At h' c p L M' ∧ FR M M' ∧ RU M' f len (bd (sNum f len 0 (pl u o - 1) (xtE f len q)) fun z => .inr (aFact u k o nt z.1, z.2)) := by
  have C := A.md
  obtain ⟨h1, M1, f1, A1, F1, R1⟩ := s_readsX A X T R
  have T1 := T.fr F1.fr
  have u1_ : cl4 (M1 77) = u := by rw [f9_77 F1]; exact hu
  unfold f_Md_readFact_J60
  simp only [C]
  rw [chk_t trivial, R.2.1, if_pos rfl, chk_t trivial, f1, bndT_ok (by decide), chk_t (MH.of A1).T, s_placesTold A1 ho.1 ho.2, bndT_ok (by decide), chk_t (MH.of A1).T, u1_, w32_id (by omega) (by omega)]
  obtain ⟨h2, M2, f2, A2, F2, R2⟩ := s_number A1 X T1 R1 0 (pl u o - 1)
  have C2 := A2.md
  have u2_ : cl4 (M2 77) = u := by rw [f13_77 F2]; exact u1_
  rw [bd_r] at f2 R2
  rw [f2, bndT_ok (by decide)]
  match hz : sNum f len 0 (pl u o - 1) (xtE f len q), R2 with
  | .inl e, R2 =>
    have R2 : RTx M2 f len (.inl e) := R2
    simp only [C2]
    rw [chk_t trivial, if_neg R2.ne0]
    exact ⟨h2, M2, rfl, A2, F1.fr.tr F2.fr, RU.inl R2⟩
  | .inr z, R2 =>
    have R2 : RTx M2 f len (.inr z.2) := R2
    have e3 : M2 77 (k + 3) = u (k + 3) := by rw [← u2_, cl4_in (by omega)]
    have q13 : hpV h2 75 13 = 0 := by simp only [C2]; exact R2.2.1
    have q1 : hpV h2 75 1 = 77 := by simp only [C2]
    have q77 : hpT h2 77 = 21 := by simp only [C2]
    have l77 : hpL h2 77 = 434 := by simp only [C2]
    have v77 : hpV h2 77 (k + 3) = u (k + 3) := by simp only [C2]; exact e3
    obtain ⟨h3, M3, f3, A3, F3, R3⟩ := s_rFact136 A2 u2_ hk hc (o := o) (a := z.1) R2 n2
    refine ⟨h3, M3, ?_, A3, (F1.fr.tr F2.fr).tr F3, R3⟩
    rw [← f3, chk_t (MH.of A2).T, if_pos q13, chk_t (MH.of A2).T, q1, chk_t q77, w32_id (x := k + 3) (by omega) (by omega), l77, chk_t (by omega), v77, w32_id (x := k + 4) (by omega) (by omega), w32_id (x := 3 * u (k + 3)) (by omega) (by omega), w32_id (x := k + 4 + 3 * u (k + 3)) (by omega) (by omega), wtv, chk_t (MH.of A2).T, chk_t q77, chk_t (by omega)]
    rfl
end
