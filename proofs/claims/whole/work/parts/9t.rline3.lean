/-! THE REFERENCE READS A RULE -/
section
variable {h : mH} {c : Int} {p L : Int → Int} {M : aM} {f : Int → Int} {len : Int}
theorem s_rFact60b (A : At h c p L M) {e : Int × Int} {k o nt : Int} (R : RTx M f len (.inl e)) : f_Md_readFact_J60 75 k o nt h = some ((3, 0), h) := by
  have C := A.md
  unfold f_Md_readFact_J60
  simp only [C]
  rw [chk_t trivial, if_neg R.ne0]
theorem xW_ne {q : Int} {n : Nat} (h : isW f len q n = true) : xtK f len q = 1 := by
  unfold isW at h
  rw [Bool.and_eq_true] at h
  exact of_decide_eq_true h.1
/-- behind the other bar -/
theorem s_rFact28 (A : At h c p L M) (X : TX f len) (T : RTt M f len) {u0 u : tT} (P : PW u0) (hr : nr u0 < 24) (F : FK0 u0 u) (hu : cl4 (M 77) = u) (hc : u (41 + 16 * nr u0 + 3) ≠ 4) {x : tP Int} (R : RTx M f len x) {y : tP (Int × Int)} (hy : y = bd x (sNum f len 0 (nb u - 1))) :
    ∃ h' M', f_Md_readFact_J28 75 (41 + 16 * nr u0) h = some ((3, 0), h') ∧ At h' c p L M' ∧ FR M M' ∧ RU M' f len (bd y fun y => if isW f len y.2 9 = true ∨ isW f len y.2 4 = true then bd (sNum f len 0 (pl u y.1 - 1) (xtE f len y.2)) fun z => .inr (aFact u (41 + 16 * nr u0) y.1 (b2i (isW f len y.2 9)) z.1, z.2) else er f len y.2 2) := by
  have hw := P.1.1
  have hw2 := P.1.2.1
  have en : nb u = nb u0 := F.1 1 (by omega)
  have e1 : M 77 1 = nb u := by rw [← hu]; exact (cl4_in (by decide)).symm
  obtain ⟨h1, M1, f1, A1, F1, R1⟩ := s_barTold A X T R (by rw [e1, en]; omega)
  rw [e1, ← hy] at f1 R1
  have T1 := T.fr F1.fr
  have u1_ : cl4 (M1 77) = u := by rw [f13_77 F1]; exact hu
  unfold f_Md_readFact_J28
  rw [chk_t (MH.of A).T, f1, bndT_ok (by decide), chk_t (MH.of A1).T, s_isWord A1 X T1 R1 (n := 9) (by decide), bndT_ok (by decide)]
  have noneB : ∀ e, RTx M1 f len (.inl e) → ∀ o nt, ∃ h' M', (chk (hpT h1 75 = 12) (bndT 3 (f_Md_blames h1 75 2) (fun _ h7 => f_Md_readFact_J60 75 (41 + 16 * nr u0) o nt h7))) = some ((3, 0), h') ∧ At h' c p L M' ∧ FR M M' ∧ RU M' f len (.inl e) := fun e R1 o nt => by
    obtain ⟨h2, M2, f2, A2, F2, R2, n2⟩ := s_blames A1 R1 (k := 2) (by decide)
    rw [bd_inl] at R2
    rw [chk_t (MH.of A1).T, f2, bndT_ok (by decide), s_rFact60b A2 R2]
    exact ⟨h2, M2, rfl, A2, F1.fr.tr (F2.mono (by decide) (by decide)), RU.inl R2⟩
  match y, R1, hy with
  | .inl e, R1, _ =>
    have R1 : RTx M1 f len (.inl e) := R1
    rw [if_pos (show b2i (iW f len (nx_ (.inl e)) 9) = 0 from rfl), chk_t (MH.of A1).T]
    have w4 := s_isWord A1 X T1 R1 (n := 4) (by decide)
    show ∃ h' M', bndT 0 (f_Md_isWord h1 75 (-(((4 : Nat) : Int) + 2))) _ = some ((3, 0), h') ∧ _
    rw [w4, bndT_ok (by decide), if_pos (show b2i (iW f len (.inl e) 4) = 0 from rfl)]
    exact noneB e R1 _ _
  | .inr y, R1, hy =>
    have R1 : RTx M1 f len (.inr y.2) := R1
    obtain ⟨q, hq, hy⟩ := bd_inr hy.symm
    have sy := (sNum_inr hy).2.2
    have hpl := P.1.2.2.2.2.2.1 y.1 (by omega) (by omega)
    have el : pl u y.1 = pl u0 y.1 := F.1 _ (by omega)
    have f2c := F.2.1
    have i9 : iW f len (nx_ (.inr y)) 9 = isW f len y.2 9 := rfl
    rw [i9, bd_r]
    show ∃ h' M', (if b2i (isW f len y.2 9) = 0 then _ else f_Md_readFact_J60 75 (41 + 16 * nr u0) y.1 (b2i (isW f len y.2 9)) h1) = some ((3, 0), h') ∧ _
    cases g9 : isW f len y.2 9
    · have w4 := s_isWord A1 X T1 R1 (n := 4) (by decide)
      have i4 : iW f len (.inr y.2) 4 = isW f len y.2 4 := rfl
      rw [i4] at w4
      rw [if_pos (show b2i false = 0 from rfl), chk_t (MH.of A1).T]
      show ∃ h' M', bndT 0 (f_Md_isWord h1 75 (-(((4 : Nat) : Int) + 2))) _ = some ((3, 0), h') ∧ _
      rw [w4, bndT_ok (by decide)]
      cases g4 : isW f len y.2 4
      · rw [if_pos (show b2i false = 0 from rfl), if_neg (by decide)]
        obtain ⟨h2, M2, f2, A2, F2, R2, n2⟩ := s_blames A1 R1 (k := 2) (by decide)
        rw [bd_r] at R2
        have R2' : RTx M2 f len (.inl ((if xtK f len y.2 = 4 then 1 else 2), xtB f len y.2)) := R2
        rw [chk_t (MH.of A1).T, f2, bndT_ok (by decide)]
        show ∃ h' M', f_Md_readFact_J60 75 (41 + 16 * nr u0) y.1 (b2i false) h2 = some ((3, 0), h') ∧ _
        rw [s_rFact60b A2 R2']
        exact ⟨h2, M2, rfl, A2, F1.fr.tr (F2.mono (by decide) (by decide)), RU.inl R2'⟩
      · rw [if_neg (show ¬ b2i true = 0 by decide), if_pos (Or.inr rfl)]
        obtain ⟨h2, M2, f2, A2, F2, R2⟩ := s_rFact60 A1 X T1 u1_ (k := 41 + 16 * nr u0) (o := y.1) (nt := b2i false) (by omega) (by omega) R1 (Or.inl rfl) (by omega) (by omega)
        exact ⟨h2, M2, f2, A2, F1.fr.tr F2, R2⟩
    · rw [if_neg (show ¬ b2i true = 0 by decide), if_pos (Or.inl rfl)]
      obtain ⟨h2, M2, f2, A2, F2, R2⟩ := s_rFact60 A1 X T1 u1_ (k := 41 + 16 * nr u0) (o := y.1) (nt := b2i true) (by omega) (by omega) R1 (Or.inr rfl) (by omega) (by omega)
      exact ⟨h2, M2, f2, A2, F1.fr.tr F2, R2⟩
/-- a fact, of another bar than b -/
theorem s_rFact (A : At h c p L M) (X : TX f len) (T : RTt M f len) {u0 u : tT} (P : PW u0) (hr : nr u0 < 24) (F : FK0 u0 u) (hc : u (41 + 16 * nr u0 + 3) ≠ 4) {x : tP Int} (R : RTx M f len x) (hu : cl4 (M 77) = u) (b : Int) :
    ∃ h' M', f_Md_readFact h 75 (41 + 16 * nr u0) b = some ((3, 0), h') ∧ At h' c p L M' ∧ FR M M' ∧ RU M' f len (bd x fun q => sFact f len b (41 + 16 * nr u0) (u, q)) := by
  have C := A.md
  unfold f_Md_readFact
  simp only [C]
  rw [chk_t trivial]
  match x, R with
  | .inl e, R =>
    rw [if_neg R.ne0]
    obtain ⟨h1, M1, f1, A1, F1, R1⟩ := s_rFact28 A X T P hr F hu hc R rfl
    exact ⟨h1, M1, f1, A1, F1, R1⟩
  | .inr q, R =>
    have same : ¬ (xtK f len q = 2 ∧ xtV f len q = b) → ∃ h' M', f_Md_readFact_J28 75 (41 + 16 * nr u0) h = some ((3, 0), h') ∧ At h' c p L M' ∧ FR M M' ∧ RU M' f len (bd (.inr q) fun q => sFact f len b (41 + 16 * nr u0) (u, q)) := fun hno => by
      obtain ⟨h1, M1, f1, A1, F1, R1⟩ := s_rFact28 A X T P hr F hu hc R rfl
      refine ⟨h1, M1, f1, A1, F1, ?_⟩
      rw [bd_r] at R1 ⊢
      unfold sFact sOther
      rw [if_neg hno]; exact R1
    rw [R.2.1, if_pos rfl, chk_t trivial, R.2.2.2.1]
    by_cases g : xtK f len q = 2
    · rw [if_pos g, chk_t trivial, R.2.2.2.2.2 g]
      by_cases g2 : xtV f len q = b
      · rw [if_pos g2, chk_t trivial]
        obtain ⟨h1, M1, f1, A1, F1, R1, n1⟩ := s_blames A R (k := 3) (by decide)
        rw [bd_r] at R1
        have R1 : RTx M1 f len (.inl ((if xtK f len q = 4 then 1 else 3), xtB f len q)) := R1
        obtain ⟨h2, M2, f2, A2, F2, R2⟩ := s_rFact28 A1 X (T.fr (F1.mono (by decide) (by decide))) P hr F (by rw [F1.1 77 (by decide) (by decide)]; exact hu) hc R1 rfl
        rw [f1, bndT_ok (by decide)]
        refine ⟨h2, M2, f2, A2, Fs.tr (F1.mono (by decide) (by decide)) F2, ?_⟩
        rw [bd_r]
        unfold sFact sOther
        rw [if_pos ⟨g, g2⟩]; exact R2
      · rw [if_neg g2]; exact same (fun k => g2 k.2)
    · rw [if_neg g]; exact same (fun k => g k.1)
/-- behind a fault nothing is read -/
theorem s_rFactB (A : At h c p L M) (X : TX f len) (T : RTt M f len) {e : Int × Int} (R : RTx M f len (.inl e)) (k b : Int) : ∃ h' M', f_Md_readFact h 75 k b = some ((3, 0), h') ∧ At h' c p L M' ∧ FR M M' ∧ RTx M' f len (.inl e) := by
  have C := A.md
  obtain ⟨h1, M1, f1, A1, F1, R1⟩ := s_number A X T R 0 (w32 (M 77 1 - 1))
  rw [bd_inl] at f1 R1
  have R1 : RTx M1 f len (.inl e) := R1
  obtain ⟨h2, M2, f2, A2, F2, R2, n2⟩ := s_blames A1 R1 (k := 2) (by decide)
  rw [bd_inl] at R2
  have w9 := s_isWord A1 X (T.fr F1.fr) R1 (n := 9) (by decide)
  have w4 := s_isWord A1 X (T.fr F1.fr) R1 (n := 4) (by decide)
  have fb : f_Md_barTold h 75 = some ((0, 0), h1) := by
    unfold f_Md_barTold
    simp only [C]
    rw [chk_t trivial, chk_t trivial, chk_t (by decide), chk_t trivial, f1, bndT_ok (by decide)]
    rfl
  unfold f_Md_readFact
  simp only [C]
  rw [chk_t trivial, if_neg R.ne0]
  unfold f_Md_readFact_J28
  rw [chk_t (MH.of A).T, fb, bndT_ok (by decide), chk_t (MH.of A1).T, w9, bndT_ok (by decide), if_pos (show b2i (iW f len (.inl e) 9) = 0 from rfl), chk_t (MH.of A1).T, w4, bndT_ok (by decide), if_pos (show b2i (iW f len (.inl e) 4) = 0 from rfl), chk_t (MH.of A1).T, f2, bndT_ok (by decide), s_rFact60b A2 R2]
  exact ⟨h2, M2, rfl, A2, F1.fr.tr (F2.mono (by decide) (by decide)), R2⟩
/-- and, as long as there are more -/
theorem s_rAnd {u0 : tT} (P : PW u0) (hr : nr u0 < 24) (X : TX f len) (b : Int) {K : mH → Option mR} : ∀ {n m : Nat} {h : mH} {M : aM} {y : tP (tT × Int)}, n < m → At h c p L M → RTt M f len → RU M f len y → (∀ a, y = .inr a → FK0 u0 a.1 ∧ PO len a.2 ∧ 5 - a.1 (41 + 16 * nr u0 + 3) ≤ n) →
    ∃ h' M', f_Md_readRule_L148 K 75 (41 + 16 * nr u0) b m h = K h' ∧ At h' c p L M' ∧ FR M M' ∧ RU M' f len (bd y (sAnd f len b (41 + 16 * nr u0) n))
  | n, m, h, M, .inl e, hm, A, T, R, _ => by
    obtain ⟨m, rfl⟩ : ∃ k, m = k + 1 := ⟨m - 1, by omega⟩
    have w := s_isWord A X T R.1 (n := 8) (by decide)
    refine ⟨h, M, ?_, A, Fs.rf _ _ _ _, R⟩
    rw [f_Md_readRule_L148, chk_t (MH.of A).T, w, bndT_ok (by decide), if_pos (show b2i (iW f len (nu_ (.inl e)) 8) = 0 from rfl)]
  | 0, m, h, M, .inr a, hm, A, T, R, H => by
    have := (H a rfl).1.2.1
    have := (H a rfl).2.2
    omega
  | n + 1, m, h, M, .inr a, hm, A, T, R, H => by
    obtain ⟨m, rfl⟩ : ∃ k, m = k + 1 := ⟨m - 1, by omega⟩
    obtain ⟨F, hpo, hn⟩ := H a rfl
    have Ra : RTx M f len (.inr a.2) := R.1
    have ua : cl4 (M 77) = a.1 := R.2 a rfl
    have C := A.md
    have w := s_isWord A X T Ra (n := 8) (by decide)
    have hnr := P.1.2.1
    have i8 : iW f len (.inr a.2) 8 = isW f len a.2 8 := rfl
    rw [i8] at w
    rw [f_Md_readRule_L148, chk_t (MH.of A).T]
    show ∃ h' M', bndT 0 (f_Md_isWord h 75 (-(((8 : Nat) : Int) + 2))) _ = K h' ∧ _
    rw [w, bndT_ok (by decide), bd_r, sAnd]
    cases g : isW f len a.2 8
    · rw [if_pos (show b2i false = 0 from rfl), if_neg (by decide)]
      exact ⟨h, M, rfl, A, Fs.rf _ _ _ _, R⟩
    · have e3 : M 77 (41 + 16 * nr u0 + 3) = a.1 (41 + 16 * nr u0 + 3) := by rw [← ua, cl4_in (by omega)]
      rw [if_neg (show ¬ b2i true = 0 by decide), if_pos rfl]
      simp only [C]
      rw [chk_t trivial, chk_t trivial, w32_id (x := 41 + 16 * nr u0 + 3) (by omega) (by omega), chk_t (by omega), e3]
      by_cases g4 : a.1 (41 + 16 * nr u0 + 3) = 4
      · obtain ⟨h1, M1, f1, A1, F1, R1, n1⟩ := s_blames A Ra (k := 4) (by decide)
        rw [bd_r] at R1
        have R1 : RTx M1 f len (.inl ((if xtK f len a.2 = 4 then 1 else 4), xtB f len a.2)) := R1
        have C1 := A1.md
        have F1' : FR M M1 := F1.mono (by decide) (by decide)
        obtain ⟨h2, M2, f2, A2, F2, R2⟩ := s_rFactB A1 X (T.fr F1') R1 (41 + 16 * nr u0) b
        obtain ⟨h3, M3, f3, A3, F3, R3⟩ := s_rAnd P hr X b (K := K) (n := n) (m := m) (by omega) A2 ((T.fr F1').fr F2) (RU.inl R2) (fun a h => by cases h)
        rw [if_pos g4, if_pos g4, chk_t trivial, f1, bndT_ok (by decide)]
        unfold f_Md_readRule_J174 f_Md_readRule_J185
        simp only [C1]
        rw [chk_t trivial, if_neg n1, chk_t trivial, f2, bndT_ok (by decide), f3]
        exact ⟨h3, M3, rfl, A3, (F1'.tr F2).tr F3, R3⟩
      · obtain ⟨h1, M1, f1, A1, F1, R1⟩ := s_readsX A X T Ra
        have T1 := T.fr F1.fr
        obtain ⟨h2, M2, f2, A2, F2, R2⟩ := s_rFact A1 X T1 P hr F g4 (M := M1) R1 (by rw [f9_77 F1]; exact ua) b
        rw [bd_r] at R2
        obtain ⟨h3, M3, f3, A3, F3, R3⟩ := s_rAnd P hr X b (K := K) (n := n) (m := m) (by omega) A2 (T1.fr F2) R2 (fun a' h' => by
          have := sFact_ok X P (x := (a.1, xtE f len a.2)) F g4 (hpo.e X).1 h'
          exact ⟨this.1, this.2.2.1, by rw [this.2.1]; show 5 - (a.1 (41 + 16 * nr u0 + 3) + 1) ≤ (n : Int); omega⟩)
        rw [if_neg g4, if_neg g4]
        unfold f_Md_readRule_J174 f_Md_readRule_J185
        simp only [C]
        rw [chk_t trivial, Ra.2.1, if_pos rfl, chk_t trivial, f1, bndT_ok (by decide), chk_t (MH.of A1).T, f2, bndT_ok (by decide), f3]
        exact ⟨h3, M3, rfl, A3, (F1.fr.tr F2).tr F3, R3⟩
end
