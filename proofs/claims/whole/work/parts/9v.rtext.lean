/-! THE REFERENCE READS A LINE, A TEXT -/
section
variable {h : mH} {c : Int} {p L : Int → Int} {M : aM} {f : Int → Int} {len : Int}
theorem s_rNest26 (A : At h c p L M) (X : TX f len) (T : RTt M f len) {u : tT} {x : tP Int} (R : RTx M f len x) (hu : cl4 (M 77) = u) : ∃ h' M', f_Md_readNested_J26 75 h = some ((3, 0), h') ∧ At h' c p L M' ∧ FR M M' ∧ RU M' f len (bd (bd x (sNum f len 2 9)) fun y => .inr (u1 u 3 y.1, y.2)) := by
  obtain ⟨h1, M1, f1, A1, F1, R1⟩ := s_number A X T R 2 9
  have C1 := A1.md
  have u1_ : cl4 (M1 77) = u := by rw [f13_77 F1]; exact hu
  unfold f_Md_readNested_J26
  rw [chk_t (MH.of A).T, f1, bndT_ok (by decide)]
  simp only [C1]
  rw [chk_t trivial]
  rcases tP_cases (bd x (sNum f len 2 9)) with ⟨e, hy⟩ | ⟨y, hy⟩
  · rw [hy] at R1 ⊢
    have R1 : RTx M1 f len (.inl e) := R1
    rw [if_neg R1.ne0]
    exact ⟨h1, M1, rfl, A1, F1.fr, RU.inl R1⟩
  · rw [hy] at R1 ⊢
    have R1 : RTx M1 f len (.inr y.2) := R1
    rw [R1.2.1, if_pos rfl, chk_t trivial, chk_t trivial, chk_t (by decide), wth]
    show ∃ h' M', some ((3, 0), hput h1 77 3 y.1) = some ((3, 0), h') ∧ _
    exact ⟨_, _, rfl, A1.s77 3 y.1, F1.fr.pu (by decide) (by decide), RU.inr R1.w77 (by rw [cl4_up (by decide), u1_])⟩
theorem s_rNest (A : At h c p L M) (X : TX f len) (T : RTt M f len) {u : tT} {q : Int} (R : RTx M f len (.inr (xtE f len q))) (hu : cl4 (M 77) = u) : ∃ h' M', f_Md_readNested h 75 = some ((3, 0), h') ∧ At h' c p L M' ∧ FR M M' ∧ RU M' f len (sNest f len u q) := by
  have C := A.md
  have e1 : M 77 1 = nb u := by rw [← hu]; exact (cl4_in (by decide)).symm
  have plain : ¬ (xtK f len (xtE f len q) = 2 ∧ nb u < xtV f len (xtE f len q)) → ∃ h' M', f_Md_readNested_J26 75 h = some ((3, 0), h') ∧ At h' c p L M' ∧ FR M M' ∧ RU M' f len (sNest f len u q) := fun hno => by
    have := s_rNest26 A X T R hu
    rw [bd_r] at this
    unfold sNest
    rw [if_neg hno]; exact this
  unfold f_Md_readNested
  simp only [C]
  rw [chk_t trivial, R.2.2.2.1]
  by_cases g : xtK f len (xtE f len q) = 2
  · rw [if_pos g, chk_t trivial, chk_t trivial, chk_t trivial, chk_t (by decide), R.2.2.2.2.2 g, e1]
    by_cases g2 : xtV f len (xtE f len q) ≤ nb u
    · rw [if_pos g2]; exact plain (fun k => by omega)
    · obtain ⟨h1, M1, f1, A1, F1, R1, n1⟩ := s_blames A R (k := 3) (by decide)
      rw [bd_r] at R1
      have F1' : FR M M1 := F1.mono (by decide) (by decide)
      rw [if_neg g2, chk_t trivial, f1, bndT_ok (by decide)]
      have R1 : RTx M1 f len (.inl ((if xtK f len (xtE f len q) = 4 then 1 else 3), xtB f len (xtE f len q))) := R1
      obtain ⟨h2, M2, f2, A2, F2, R2⟩ := s_rNest26 A1 X (T.fr F1') R1 (u := u) (by rw [F1.1 77 (by decide) (by decide)]; exact hu)
      refine ⟨h2, M2, f2, A2, F1'.tr F2, ?_⟩
      unfold sNest
      rw [if_pos ⟨g, by omega⟩]; exact R2
  · rw [if_neg g]; exact plain (fun k => g k.1)
/-- the end of a line -/
theorem s_rEnd (A : At h c p L M) (X : TX f len) (T : RTt M f len) {y : tP (tT × Int)} (R : RU M f len y) (hy : ∀ a, y = .inr a → 0 ≤ a.1 0 ∧ a.1 0 ≤ 1000) : ∃ h' M', f_Md_readLine_J78 75 h = some ((3, 0), h') ∧ At h' c p L M' ∧ FR M M' ∧ RU M' f len (bd y fun x => if xtK f len x.2 = 3 then .inr (u1 x.1 0 (x.1 0 + 1), xtE f len x.2) else er f len x.2 2) := by
  have C := A.md
  have j91 : ∀ h1 M1 e, At h1 c p L M1 → RTx M1 f len (.inl e) → f_Md_readLine_J91 75 h1 = some ((3, 0), h1) := fun h1 M1 e A1 R1 => by
    have C1 := A1.md
    have g : M1 75 13 ≠ 0 := R1.ne0
    unfold f_Md_readLine_J91 f_Md_readLine_J102
    simp only [C1]
    rw [chk_t trivial, if_neg g, chk_t trivial, if_neg g]
  unfold f_Md_readLine_J78
  simp only [C]
  rw [chk_t trivial]
  rcases tP_cases y with ⟨e, rfl⟩ | ⟨a, rfl⟩
  · have R' : RTx M f len (.inl e) := R.1
    rw [bd_inl]
    by_cases g : M 75 11 = 3
    · rw [if_pos g, j91 h M e A R']; exact ⟨h, M, rfl, A, Fs.rf _ _ _ _, R⟩
    · obtain ⟨h1, M1, f1, A1, F1, R1, n1⟩ := s_blames A R' (k := 2) (by decide)
      rw [bd_inl] at R1
      rw [if_neg g, chk_t trivial, f1, bndT_ok (by decide), j91 h1 M1 e A1 R1]
      exact ⟨h1, M1, rfl, A1, F1.mono (by decide) (by decide), RU.inl R1⟩
  · have R' : RTx M f len (.inr a.2) := R.1
    have ua : cl4 (M 77) = a.1 := R.2 a rfl
    have ya := hy a rfl
    rw [bd_r, R'.2.2.2.1]
    by_cases g : xtK f len a.2 = 3
    · obtain ⟨h1, M1, f1, A1, F1, R1⟩ := s_readsX A X T R'
      have C1 := A1.md
      have u1_ : cl4 (M1 77) = a.1 := by rw [f9_77 F1]; exact ua
      have e0 : M1 77 0 = a.1 0 := by rw [← u1_]; exact (cl4_in (by decide)).symm
      rw [if_pos g, if_pos g]
      unfold f_Md_readLine_J91 f_Md_readLine_J102
      simp only [C]
      rw [chk_t trivial, R'.2.1, if_pos rfl, chk_t trivial, f1, bndT_ok (by decide)]
      simp only [C1]
      rw [chk_t trivial, R1.2.1, if_pos rfl, chk_t trivial, chk_t trivial, chk_t (by decide), chk_t trivial, chk_t (by decide), e0, w32_id (x := a.1 0 + 1) (by omega) (by omega), wth]
      exact ⟨_, _, rfl, A1.s77 0 (a.1 0 + 1), F1.fr.pu (by decide) (by decide), RU.inr R1.w77 (by rw [cl4_up (by decide), u1_])⟩
    · obtain ⟨h1, M1, f1, A1, F1, R1, n1⟩ := s_blames A R' (k := 2) (by decide)
      rw [bd_r] at R1
      have R1 : RTx M1 f len (.inl ((if xtK f len a.2 = 4 then 1 else 2), xtB f len a.2)) := R1
      rw [if_neg g, if_neg g, chk_t trivial, f1, bndT_ok (by decide), j91 h1 M1 _ A1 R1]
      exact ⟨h1, M1, rfl, A1, F1.mono (by decide) (by decide), RU.inl R1⟩
theorem s_rLine (A : At h c p L M) (X : TX f len) (T : RTt M f len) {x : tT × Int} (P : PWq len x) (R : RU M f len (.inr x)) : ∃ h' M', f_Md_readLine h 75 = some ((3, 0), h') ∧ At h' c p L M' ∧ FR M M' ∧ RU M' f len (sLine f len x.1 x.2) := by
  have R0 : RTx M f len (.inr x.2) := R.1
  have hu : cl4 (M 77) = x.1 := R.2 x rfl
  have hok : ∀ a, sOne f len x.1 x.2 = .inr a → 0 ≤ a.1 0 ∧ a.1 0 ≤ 1000 := fun a ha => (sOne_ok X P.1 P.2.1 ha).1.1.2.2.2.2.1
  have w0 := s_isWord A X T R0 (n := 0) (by decide)
  have w1 := s_isWord A X T R0 (n := 1) (by decide)
  have i0 : iW f len (.inr x.2) 0 = isW f len x.2 0 := rfl
  have i1 : iW f len (.inr x.2) 1 = isW f len x.2 1 := rfl
  rw [i0] at w0
  rw [i1] at w1
  have fin : ∀ h1 M1, At h1 c p L M1 → FR M M1 → RU M1 f len (sOne f len x.1 x.2) → ∃ h' M', f_Md_readLine_J78 75 h1 = some ((3, 0), h') ∧ At h' c p L M' ∧ FR M M' ∧ RU M' f len (sLine f len x.1 x.2) := fun h1 M1 A1 F1 R1 => by
    obtain ⟨h2, M2, f2, A2, F2, R2⟩ := s_rEnd A1 X (T.fr F1) R1 hok
    exact ⟨h2, M2, f2, A2, F1.tr F2, R2⟩
  unfold f_Md_readLine
  rw [chk_t (MH.of A).T]
  show ∃ h' M', bndT 0 (f_Md_isWord h 75 (-(((0 : Nat) : Int) + 2))) _ = some ((3, 0), h') ∧ _
  rw [w0, bndT_ok (by decide)]
  unfold sOne at fin
  cases g0 : isW f len x.2 0
  · rw [g0, if_neg (by decide)] at fin
    rw [if_pos (show b2i false = 0 from rfl), chk_t (MH.of A).T]
    show ∃ h' M', bndT 0 (f_Md_isWord h 75 (-(((1 : Nat) : Int) + 2))) _ = some ((3, 0), h') ∧ _
    rw [w1, bndT_ok (by decide)]
    cases g1 : isW f len x.2 1
    · rw [g1, if_neg (by decide)] at fin
      obtain ⟨h2, M2, f2, A2, F2, R2⟩ := s_took A X T R0 (n := 2) (by decide)
      have i2 : iW f len (.inr x.2) 2 = isW f len x.2 2 := rfl
      rw [i2] at f2 R2
      have T2 := T.fr F2.fr
      have u2_ : cl4 (M2 77) = x.1 := by rw [f9_77 F2]; exact hu
      rw [if_pos (show b2i false = 0 from rfl), chk_t (MH.of A).T]
      show ∃ h' M', bndT 0 (f_Md_took h 75 (-(((2 : Nat) : Int) + 2))) _ = some ((3, 0), h') ∧ _
      rw [f2, bndT_ok (by decide)]
      cases g2 : isW f len x.2 2
      · rw [g2, if_neg (by decide)] at fin
        rw [g2, if_neg (by decide)] at R2
        obtain ⟨h3, M3, f3, A3, F3, R3⟩ := s_took A2 X T2 R2 (n := 3) (by decide)
        have i3 : iW f len (.inr x.2) 3 = isW f len x.2 3 := rfl
        rw [i3] at f3 R3
        have T3 := T2.fr F3.fr
        have u3_ : cl4 (M3 77) = x.1 := by rw [f9_77 F3]; exact u2_
        have FF : FR M M3 := F2.fr.tr F3.fr
        rw [if_pos (show b2i false = 0 from rfl), chk_t (MH.of A2).T]
        show ∃ h' M', bndT 0 (f_Md_took h2 75 (-(((3 : Nat) : Int) + 2))) _ = some ((3, 0), h') ∧ _
        rw [f3, bndT_ok (by decide)]
        cases g3 : isW f len x.2 3
        · rw [g3, if_neg (by decide)] at fin R3
          obtain ⟨h4, M4, f4, A4, F4, R4, n4⟩ := s_blames A3 R3 (k := 2) (by decide)
          rw [bd_r] at R4
          have R4 : RTx M4 f len (.inl ((if xtK f len x.2 = 4 then 1 else 2), xtB f len x.2)) := R4
          rw [if_pos (show b2i false = 0 from rfl), chk_t (MH.of A3).T, f4, bndT_ok (by decide)]
          exact fin h4 M4 A4 (FF.tr (F4.mono (by decide) (by decide))) (RU.inl R4)
        · rw [g3, if_pos rfl] at fin R3
          have R3 : RTx M3 f len (.inr (xtE f len x.2)) := R3
          have C3 := A3.md
          obtain ⟨h4, M4, f4, A4, F4, R4⟩ := s_number A3 X T3 R3 0 99
          have C4 := A4.md
          have u4_ : cl4 (M4 77) = x.1 := by rw [f13_77 F4]; exact u3_
          rw [bd_r] at f4 R4
          have q1 : hpV h3 75 1 = 77 := by simp only [C3]
          have q2 : hpT h4 77 = 21 := by simp only [C4]
          have q3 : hpL h4 77 = 434 := by simp only [C4]
          rw [if_neg (show ¬ b2i true = 0 by decide), chk_t (MH.of A3).T, chk_t (MH.of A3).T, f4, bndT_ok (by decide), q1, chk_t q2, q3, chk_t (by decide), wth]
          have A5 := A4.s77 4 (nv_ (sNum f len 0 99 (xtE f len x.2)) 0)
          have R5 := R4.w77 (i := 4) (v := nv_ (sNum f len 0 99 (xtE f len x.2)) 0)
          refine fin _ _ A5 ((FF.tr F4.fr).pu (by decide) (by decide)) ?_
          unfold sWear
          rcases tP_cases (sNum f len 0 99 (xtE f len x.2)) with ⟨e, hy⟩ | ⟨y, hy⟩
          · rw [hy] at R5 ⊢
            exact RU.inl R5
          · rw [hy] at R5 ⊢
            exact RU.inr R5 (by rw [cl4_up (by decide), u4_]; rfl)
      · rw [g2, if_pos rfl] at fin
        rw [g2, if_pos rfl] at R2
        rw [if_neg (show ¬ b2i true = 0 by decide), chk_t (MH.of A2).T]
        obtain ⟨h3, M3, f3, A3, F3, R3⟩ := s_rNest A2 X T2 (q := x.2) R2 u2_
        rw [f3, bndT_ok (by decide)]
        exact fin h3 M3 A3 (F2.fr.tr F3) R3
    · rw [g1, if_pos rfl] at fin
      obtain ⟨h2, M2, f2, A2, F2, R2⟩ := s_rRule A X T P.1 hu R0
      rw [if_neg (show ¬ b2i true = 0 by decide), chk_t (MH.of A).T, f2, bndT_ok (by decide)]
      exact fin h2 M2 A2 F2 R2
  · rw [g0, if_pos rfl] at fin
    obtain ⟨h2, M2, f2, A2, F2, R2⟩ := s_rBar A X T hu P.1.1.1 R0
    rw [if_neg (show ¬ b2i true = 0 by decide), chk_t (MH.of A).T, f2, bndT_ok (by decide)]
    exact fin h2 M2 A2 F2 R2
/-- line by line -/
theorem s_rText (X : TX f len) {K : mH → Option mR} : ∀ {n m : Nat} {h : mH} {M : aM} {y : tP (tT × Int)}, n < m → At h c p L M → RTt M f len → RU M f len y → (∀ x, y = .inr x → PWq len x ∧ len - x.2 < n) →
    ∃ h' M', f_Md_box_L71 K 75 m h = K h' ∧ At h' c p L M' ∧ FR M M' ∧ RU M' f len (bd y (sText f len n))
  | n, m, h, M, .inl e, hm, A, T, R, _ => by
    obtain ⟨m, rfl⟩ : ∃ k, m = k + 1 := ⟨m - 1, by omega⟩
    have C := A.md
    have R' : RTx M f len (.inl e) := R.1
    refine ⟨h, M, ?_, A, Fs.rf _ _ _ _, R⟩
    rw [f_Md_box_L71]
    simp only [C]
    rw [chk_t trivial, if_neg R'.ne0]
  | 0, m, h, M, .inr x, hm, A, T, R, H => by
    have := (H x rfl).1.2.1.2
    have := (H x rfl).2
    omega
  | n + 1, m, h, M, .inr x, hm, A, T, R, H => by
    obtain ⟨m, rfl⟩ : ∃ k, m = k + 1 := ⟨m - 1, by omega⟩
    have C := A.md
    have R' : RTx M f len (.inr x.2) := R.1
    obtain ⟨P, hn⟩ := H x rfl
    rw [f_Md_box_L71, bd_r, sText]
    simp only [C]
    rw [chk_t trivial, R'.2.1, if_pos rfl, chk_t trivial, R'.2.2.2.1]
    by_cases g : xtK f len x.2 = 0
    · rw [if_pos g, if_pos g]
      exact ⟨h, M, rfl, A, Fs.rf _ _ _ _, R⟩
    · obtain ⟨h1, M1, f1, A1, F1, R1⟩ := s_rLine A X T P R
      obtain ⟨h2, M2, f2, A2, F2, R2⟩ := s_rText X (K := K) (n := n) (m := m) (by omega) A1 (T.fr F1) R1 (fun y hy => by
        have := sLine_ok X P hy
        exact ⟨this.1, by omega⟩)
      rw [if_neg g, if_neg g, chk_t trivial, f1, bndT_ok (by decide)]
      exact ⟨h2, M2, f2, A2, F1.tr F2, R2⟩
end
