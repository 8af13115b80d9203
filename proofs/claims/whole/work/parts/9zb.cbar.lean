/-! THE CLASS READS A BAR, A FACT -/
abbrev FCB : aM → aM → Prop := Fs c18 3 [2, 3, 4, 5, 6, 7]
theorem iW_of {f : Int → Int} {len q : Int} {n : Nat} : iW f len (.inr q) n = isW f len q n := rfl
theorem isW_1 {f : Int → Int} {len q : Int} {n : Nat} (h : isW f len q n = true) : xtK f len q = 1 := by
  unfold isW at h
  rw [Bool.and_eq_true] at h
  exact of_decide_eq_true h.1
section
variable {h : mH} {c : Int} {p L : Int → Int} {M : aM} {f : Int → Int} {len : Int}
theorem FC3.b {M' : aM} (F : FC3 M M') : FCB M M' := F.mono (fun _ q => by cases q) (fun _ q => q)
theorem Fr.b {M' : aM} (F : Fr c18 M M') : FCB M M' := F.fs (by decide)
theorem CTt.fb {M' : aM} (T : CTt M f len) (F : FCB M M') : CTt M' f len := ⟨by rw [F.2 0 (by decide)]; exact T.1, by rw [F.2 1 (by decide)]; exact T.2.1, fun i g0 g1 => by rw [F.1 2 (by decide) (by decide)]; exact T.2.2 i g0 g1⟩
theorem CTx.b {M' : aM} {x : tP Int} (R : CTx M f len x) (F : Fr c18 M M') : CTx M' f len x := by
  have e : M' 3 = M 3 := F 3 (by decide)
  unfold CTx
  rw [e]; exact R
theorem CPx.b {M' : aM} {x : tP Int} (R : CPx M f len x) (F : Fr c18 M M') : CPx M' f len x := by
  have e : M' 3 = M 3 := F 3 (by decide)
  unfold CPx
  rw [e]; exact R
theorem BR18.f3 {M' : aM} {u : tT} (R : BR18 M u) (F : FC3 M M') : BR18 M' u := R.eq (fun v g0 g1 => F.1 v (fun q => by cases q) (by omega))
theorem CTx.z {x : tP Int} (R : CTx M f len x) : (M 3 6 = 0 ∧ ∃ q, x = .inr q ∧ xtK f len q ≠ 4) ∨ (M 3 6 ≠ 0 ∧ ((∃ e, x = .inl e) ∨ ∃ q, x = .inr q ∧ xtK f len q = 4)) := by
  rcases tP_cases x with ⟨e, rfl⟩ | ⟨q, rfl⟩
  · exact Or.inr ⟨R.ne0, Or.inl ⟨e, rfl⟩⟩
  · by_cases g : xtK f len q = 4
    · exact Or.inr ⟨by rw [(R.2.1 g).1]; decide, Or.inr ⟨q, rfl, g⟩⟩
    · exact Or.inl ⟨(R.2.2 g).1, q, rfl, g⟩
theorem CPx.z {x : tP Int} (R : CPx M f len x) : (M 3 6 = 0 ∧ ∃ q, x = .inr q) ∨ (M 3 6 ≠ 0 ∧ ∃ e, x = .inl e) := by
  rcases tP_cases x with ⟨e, rfl⟩ | ⟨q, rfl⟩
  · exact Or.inr ⟨R.ne0, e, rfl⟩
  · exact Or.inl ⟨R.2.1, q, rfl⟩
/-- a line so far: the token at hand, the box -/
def CU (M : aM) (f : Int → Int) (len : Int) (y : tP (tT × Int)) : Prop := CTx M f len (nu_ y) ∧ ∀ a, y = .inr a → xtK f len a.2 ≠ 4 → BR18 M a.1
theorem CU.inl {e : Int × Int} (R : CTx M f len (.inl e)) : CU M f len (.inl e) := ⟨R, fun a h => by cases h⟩
theorem nu_bd (x : tP Int) (g : Int → tT) : nu_ (bd x fun q => .inr (g q, q)) = x := by
  rcases tP_cases x with ⟨e, rfl⟩ | ⟨q, rfl⟩ <;> rfl
theorem nx_bd (y : tP (Int × Int)) (g : Int → tT) : (bd (nx_ y) fun q => .inr (g (nv_ y 0), q)) = bd y fun z => (.inr (g z.1, z.2) : tP (tT × Int)) := by
  rcases tP_cases y with ⟨e, rfl⟩ | ⟨z, rfl⟩ <;> rfl
theorem s_cBar78 (A : At h c p L M) {x : tP Int} (R : CTx M f len x) {u : tT} (B : BR18 M u) (P : PW u) (h9 : nb u ≠ 9) (n a o : Int) : ∃ h' M', f_Reader_readBar_J78 3 18 n a o h = some ((3, 0), h') ∧ At h' c p L M' ∧ FCB M M' ∧ CU M' f len (bd x fun q => .inr (aBar u n a o, q)) := by
  have C := A.rd
  unfold f_Reader_readBar_J78
  simp only [C]
  rw [chk_t trivial]
  rcases R.z with ⟨g, q, rfl, hq⟩ | ⟨g, e⟩
  · obtain ⟨h1, M1, f1, A1, F1, B1, _⟩ := s_cAddBar A B P h9 n a o
    rw [if_pos g, chk_t A.b18.1, f1, bndT_ok (by decide)]
    refine ⟨h1, M1, rfl, A1, F1.b, ?_⟩
    unfold CU
    rw [nu_bd]
    exact ⟨R.b F1, fun a' h _ => by cases h; exact B1⟩
  · rw [if_neg g]
    refine ⟨h, M, rfl, A, Fs.rf _ _ _ _, ?_⟩
    unfold CU
    rw [nu_bd]
    refine ⟨R, fun a' h hk => ?_⟩
    rcases e with ⟨e, rfl⟩ | ⟨q, rfl, hq⟩
    · cases h
    · cases h; exact absurd hq hk
theorem s_cBar55 (A : At h c p L M) (X : TX f len) (T : CTt M f len) {x : tP Int} (R : CTx M f len x) {u : tT} (B : BR18 M u) (P : PW u) (h9 : nb u ≠ 9) {n a : Int} (hn : (∃ e, x = .inl e) ∨ (2 ≤ n ∧ n ≤ 4)) : ∃ h' M', f_Reader_readBar_J55 3 18 n a (w32 (n - 1)) h = some ((3, 0), h') ∧ At h' c p L M' ∧ FCB M M' ∧
    CU M' f len (bd x fun q => bd (if isW f len q 5 = true then sNum f len 0 (n - 1) (xtE f len q) else .inr (n - 1, q)) fun z => .inr (aBar u n a z.1, z.2)) := by
  unfold f_Reader_readBar_J55
  rw [chk_t A.rd.1, s_spells A X T R (n := 5) (by decide), bndT_ok (by decide)]
  rcases tP_cases x with ⟨e, rfl⟩ | ⟨q, rfl⟩
  · obtain ⟨h1, M1, f1, A1, F1, R1⟩ := s_cBar78 A R B P h9 n a (w32 (n - 1))
    rw [if_pos (show b2i (iW f len (.inl e) 5) = 0 from rfl)]
    exact ⟨h1, M1, f1, A1, F1, R1⟩
  · have hn : 2 ≤ n ∧ n ≤ 4 := by
      rcases hn with ⟨e, h⟩ | h
      · cases h
      · exact h
    rw [iW_of, bd_r, w32_id (x := n - 1) (by omega) (by omega)]
    cases g : isW f len q 5
    · obtain ⟨h1, M1, f1, A1, F1, R1⟩ := s_cBar78 A R B P h9 n a (n - 1)
      rw [if_pos (show b2i false = 0 from rfl), if_neg (by decide)]
      exact ⟨h1, M1, f1, A1, F1, R1⟩
    · have hk := isW_1 g
      obtain ⟨h1, M1, f1, A1, F1, R1, _⟩ := s_readNumber A X T (R.next X (by omega)) 0 (n - 1)
      obtain ⟨h2, M2, f2, A2, F2, R2⟩ := s_cToken A1 X (T.fr F1) R1
      obtain ⟨h3, M3, f3, A3, F3, R3⟩ := s_cBar78 A2 R2 ((B.f3 F1).f3 F2) P h9 n a (nv_ (bd (.inr (xtE f len q)) (sNum f len 0 (n - 1))) 0)
      rw [if_neg (show ¬ b2i true = 0 by decide), if_pos rfl, chk_t A.rd.1, f1, bndT_ok (by decide), chk_t A1.rd.1, f2, bndT_ok (by decide), f3]
      refine ⟨h3, M3, rfl, A3, (F1.b.tr F2.b).tr F3, ?_⟩
      rw [nx_bd _ (aBar u n a)] at R3
      exact R3
theorem s_cBar (A : At h c p L M) (X : TX f len) (T : CTt M f len) {u : tT} (B : BR18 M u) (P : PW u) {q : Int} (R : CTx M f len (.inr q)) (hk : xtK f len q ≠ 4) : ∃ h' M', f_Reader_readBar h 3 18 = some ((3, 0), h') ∧ At h' c p L M' ∧ FCB M M' ∧ CU M' f len (sBar f len u q) := by
  have D := A.b18
  have e2 : M 18 2 = nb u := B.1.2.1
  unfold f_Reader_readBar sBar
  simp only [D]
  rw [chk_t trivial, e2]
  by_cases h9 : nb u = 9
  · obtain ⟨h1, M1, f1, A1, F1, R1⟩ := s_cBlame A R (k := 4) (by decide)
    rw [if_pos h9, if_pos h9, chk_t A.rd.1, f1, bndT_ok (by decide)]
    exact ⟨h1, M1, rfl, A1, (f67_3 F1).b, CU.inl R1⟩
  rw [if_neg h9, if_neg h9]
  obtain ⟨h1, M1, f1, A1, F1, R1, _⟩ := s_readNumber A X T (R.next X hk) 2 4
  obtain ⟨h2, M2, f2, A2, F2, R2⟩ := s_cToken A1 X (T.fr F1) R1
  have T2 := (T.fr F1).fr F2
  have B2 := (B.f3 F1).f3 F2
  have s2 := s_spells A2 X T2 R2 (n := 4) (by decide)
  have po1 : PO len (xtE f len q) := xtE_pos X R.1
  rw [bd_r] at f1 R1 R2 s2
  rw [chk_t A.rd.1, f1, bndT_ok (by decide), wtv, chk_t A1.rd.1, f2, bndT_ok (by decide), chk_t A2.rd.1, s2, bndT_ok (by decide)]
  rcases tP_cases (sNum f len 2 4 (xtE f len q)) with ⟨e, h1e⟩ | ⟨x, h1x⟩
  · rw [h1e] at R2 ⊢
    obtain ⟨h3, M3, f3, A3, F3, R3⟩ := s_cBar55 A2 X T2 R2 B2 P h9 (n := nv_ (.inl e) 0) (a := 0) (Or.inl ⟨e, rfl⟩)
    rw [if_pos (show b2i (iW f len (nx_ (.inl e)) 4) = 0 from rfl)]
    exact ⟨h3, M3, f3, A3, (F1.b.tr F2.b).tr F3, R3⟩
  · have sb := sNum_po X po1 h1x
    rw [h1x] at R2 ⊢
    have R2 : CTx M2 f len (.inr x.2) := R2
    rw [bd_r]
    show ∃ h' M', (if b2i (isW f len x.2 4) = 0 then f_Reader_readBar_J55 3 18 x.1 0 (w32 (x.1 - 1)) h2 else _) = some ((3, 0), h') ∧ _
    cases g : isW f len x.2 4
    · obtain ⟨h3, M3, f3, A3, F3, R3⟩ := s_cBar55 A2 X T2 R2 B2 P h9 (n := x.1) (a := 0) (Or.inr sb.2.2)
      rw [if_pos (show b2i false = 0 from rfl), if_neg (by decide)]
      exact ⟨h3, M3, f3, A3, (F1.b.tr F2.b).tr F3, R3⟩
    · have hk2 := isW_1 g
      obtain ⟨h3, M3, f3, A3, F3, R3, _⟩ := s_readNumber A2 X T2 (R2.next X (by omega)) 0 (x.1 - 1)
      obtain ⟨h4, M4, f4, A4, F4, R4⟩ := s_cToken A3 X (T2.fr F3) R3
      have po2 : PO len (xtE f len x.2) := xtE_pos X sb.1
      rw [bd_r] at f3 R3 R4
      rw [if_neg (show ¬ b2i true = 0 by decide), if_pos rfl, chk_t A2.rd.1]
      show ∃ h' M', bndT 0 (f_Reader_readNumber h2 3 0 (w32 (x.1 - 1))) (fun x9 h8 => chk (hpT h8 3 = 9) (bndT 3 (f_Reader_readToken h8 3) (fun x11 h10 => f_Reader_readBar_J55 3 18 x.1 x9 (w32 (x.1 - 1)) h10))) = some ((3, 0), h') ∧ _
      rw [w32_id (x := x.1 - 1) (by omega) (by omega), f3, bndT_ok (by decide), chk_t A3.rd.1, f4, bndT_ok (by decide)]
      have fin : ∀ y : tP (Int × Int), CTx M4 f len (nx_ y) → ∃ h' M', f_Reader_readBar_J55 3 18 x.1 (nv_ y 0) (x.1 - 1) h4 = some ((3, 0), h') ∧ At h' c p L M' ∧ FCB M4 M' ∧ CU M' f len (bd y fun y => bd (if isW f len y.2 5 = true then sNum f len 0 (x.1 - 1) (xtE f len y.2) else .inr (x.1 - 1, y.2)) fun z => .inr (aBar u x.1 y.1 z.1, z.2)) := fun y Ry => by
        obtain ⟨h5, M5, f5, A5, F5, R5⟩ := s_cBar55 A4 X ((T2.fr F3).fr F4) Ry ((B2.f3 F3).f3 F4) P h9 (n := x.1) (a := nv_ y 0) (Or.inr sb.2.2)
        rw [w32_id (x := x.1 - 1) (by omega) (by omega)] at f5
        refine ⟨h5, M5, f5, A5, F5, ?_⟩
        rcases tP_cases y with ⟨e, rfl⟩ | ⟨z, rfl⟩
        · exact R5
        · exact R5
      obtain ⟨h5, M5, f5, A5, F5, R5⟩ := fin _ R4
      exact ⟨h5, M5, f5, A5, (((F1.b.tr F2.b).tr F3.b).tr F4.b).tr F5, R5⟩
end
