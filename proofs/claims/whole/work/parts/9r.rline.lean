/-! THE REFERENCE READS A LINE -/
def nu_ (y : tP (tT × Int)) : tP Int := bd y fun a => .inr a.2
theorem bd_inl {α β : Type} (e : Int × Int) (k : α → tP β) : bd (.inl e) k = .inl e := rfl
theorem bd_r {α β : Type} (a : α) (k : α → tP β) : bd (.inr a) k = k a := rfl
section
variable {h : mH} {c : Int} {p L : Int → Int} {M : aM} {f : Int → Int} {len : Int}
/-- a row as far as it is there -/
def cl4 (g : Int → Int) : Int → Int := fun j => if 0 ≤ j ∧ j < 434 then g j else 0
theorem cl4_in {g : Int → Int} {j : Int} (h : 0 ≤ j ∧ j < 434) : cl4 g j = g j := if_pos h
theorem cl4_up {M : aM} {i x : Int} (h : 0 ≤ i ∧ i < 434) : cl4 (mup M 77 i x 77) = u1 (cl4 (M 77)) i x := by
  rw [mup_self]
  funext j
  unfold cl4 u1
  by_cases e : j = i
  · rw [if_pos e, if_pos (by omega), if_pos e]
  · rw [if_neg e, if_neg e]
/-- what is read stands: the token at hand, the box so far -/
def RU (M : aM) (f : Int → Int) (len : Int) (y : tP (tT × Int)) : Prop := RTx M f len (nu_ y) ∧ ∀ a, y = .inr a → cl4 (M 77) = a.1
theorem RU.inl {e : Int × Int} (R : RTx M f len (.inl e)) : RU M f len (.inl e) := ⟨R, fun a h => by cases h⟩
theorem RU.inr {u : tT} {q : Int} (R : RTx M f len (.inr q)) (hu : cl4 (M 77) = u) : RU M f len (.inr (u, q)) := ⟨R, fun a h => by cases h; exact hu⟩
theorem f13_77 {M' : aM} (F : FT13 M M') : M' 77 = M 77 := F.1 77 (by decide) (by decide)
theorem f9_77 {M' : aM} (F : FT9 M M') : M' 77 = M 77 := F.1 77 (by decide) (by decide)
theorem RTx.w77 {x : tP Int} (R : RTx M f len x) {i v : Int} : RTx (mup M 77 i v) f len x := by
  have e : ∀ j, mup M 77 i v 75 j = M 75 j := fun j => mup_ne (Or.inl (by decide))
  match x, R with
  | .inl e0, R => exact ⟨by rw [e]; exact R.1, R.2.1, by rw [e]; exact R.2.2⟩
  | .inr q, R => exact ⟨R.1, by rw [e]; exact R.2.1, by rw [e]; exact R.2.2.1, by rw [e]; exact R.2.2.2.1, by rw [e]; exact R.2.2.2.2.1, fun g => by rw [e]; exact R.2.2.2.2.2 g⟩
theorem RTx.ne0 {e : Int × Int} (R : RTx M f len (.inl e)) : M 75 13 ≠ 0 := by rw [R.1]; exact R.2.1
theorem At.s77 (A : At h c p L M) (i x : Int) : At (hput h 77 i x) c p L (mup M 77 i x) := A.aput i x (by decide) (by decide) (by decide) (by decide +kernel) (by decide) (by decide)
/-- a bar is put in -/
theorem s_rBar80 (A : At h c p L M) {u : tT} (hu : cl4 (M 77) = u) (hb : 0 ≤ nb u ∧ nb u < 9) {q n a o : Int} (R : RTx M f len (.inr q)) : ∃ h' M', f_Md_readBar_J80 75 n a o h = some ((3, 0), h') ∧ At h' c p L M' ∧ FR M M' ∧ RU M' f len (.inr (aBar u n a o, q)) := by
  have C := A.md
  have A1 := A.s77 (5 + 4 * nb u) n
  have C1 := A1.md
  have A2 := A1.s77 (6 + 4 * nb u) a
  have C2 := A2.md
  have A3 := A2.s77 (7 + 4 * nb u) o
  have C3 := A3.md
  have A4 := A3.s77 (425 + nb u) a
  have C4 := A4.md
  have A5 := A4.s77 1 (nb u + 1)
  have e1 : M 77 1 = nb u := by rw [← hu]; exact (cl4_in (by decide)).symm
  have x1 : w32 (5 + w32 (4 * nb u)) = 5 + 4 * nb u := by rw [w32_id (x := 4 * nb u) (by omega) (by omega), w32_id (by omega) (by omega)]
  unfold f_Md_readBar_J80
  simp only [C]
  rw [chk_t trivial, R.2.1, if_pos rfl, chk_t trivial, chk_t trivial, chk_t (by decide), e1, x1, wtv, chk_t trivial, chk_t trivial, w32_id (x := 5 + 4 * nb u + 0) (by omega) (by omega), Int.add_zero, chk_t (by omega), wth]
  simp only [C1]
  rw [chk_t trivial, chk_t trivial, w32_id (x := 5 + 4 * nb u + 1) (by omega) (by omega), chk_t (by omega), show 5 + 4 * nb u + 1 = 6 + 4 * nb u by omega, wth]
  simp only [C2]
  rw [chk_t trivial, chk_t trivial, w32_id (x := 5 + 4 * nb u + 2) (by omega) (by omega), chk_t (by omega), show 5 + 4 * nb u + 2 = 7 + 4 * nb u by omega, wth]
  simp only [C3]
  have e3 : mup (mup (mup M 77 (5 + 4 * nb u) n) 77 (6 + 4 * nb u) a) 77 (7 + 4 * nb u) o 77 1 = nb u := by
    rw [mup_ne (Or.inr (by omega)), mup_ne (Or.inr (by omega)), mup_ne (Or.inr (by omega))]; exact e1
  rw [chk_t trivial, chk_t trivial, chk_t trivial, chk_t (by decide), chk_t trivial, e3, w32_id (x := 425 + nb u) (by omega) (by omega), chk_t (by omega), wth]
  simp only [C4]
  have e4 : mup (mup (mup (mup M 77 (5 + 4 * nb u) n) 77 (6 + 4 * nb u) a) 77 (7 + 4 * nb u) o) 77 (425 + nb u) a 77 1 = nb u := by
    rw [mup_ne (Or.inr (by omega))]; exact e3
  rw [chk_t trivial, chk_t trivial, chk_t (by decide), chk_t trivial, chk_t (by decide), e4, w32_id (x := nb u + 1) (by omega) (by omega), wth]
  refine ⟨_, _, rfl, A5, ((((((Fs.rf _ _ _ _).pu (by decide) (by decide)).pu (by decide) (by decide)).pu (by decide) (by decide)).pu (by decide) (by decide)).pu (by decide) (by decide)), RU.inr (R.w77.w77.w77.w77.w77) ?_⟩
  rw [cl4_up (by omega), cl4_up (by omega), cl4_up (by omega), cl4_up (by omega), cl4_up (by omega), hu]; rfl
theorem s_rBar80b (A : At h c p L M) {e : Int × Int} {n a o : Int} (R : RTx M f len (.inl e)) : f_Md_readBar_J80 75 n a o h = some ((3, 0), h) := by
  have C := A.md
  unfold f_Md_readBar_J80
  simp only [C]
  rw [chk_t trivial, if_neg R.ne0]
/-- behind the place: open, or not -/
theorem s_rBar56 (A : At h c p L M) (X : TX f len) (T : RTt M f len) {u : tT} (hu : cl4 (M 77) = u) (hb : 0 ≤ nb u ∧ nb u < 9) {x : tP Int} {n a : Int} (hn : (∃ e, x = .inl e) ∨ (2 ≤ n ∧ n ≤ 4)) (R : RTx M f len x) : ∃ h' M', f_Md_readBar_J56 75 n a h = some ((3, 0), h') ∧ At h' c p L M' ∧ FR M M' ∧ RU M' f len (bd x fun q => bd (if isW f len q 5 = true then sNum f len 0 (n - 1) (xtE f len q) else .inr (n - 1, q)) fun z => .inr (aBar u n a z.1, z.2)) := by
  obtain ⟨h1, M1, f1, A1, F1, R1⟩ := s_took A X T R (n := 5) (by decide)
  have T1 := T.fr F1.fr
  have u1_ : cl4 (M1 77) = u := by rw [f9_77 F1]; exact hu
  unfold f_Md_readBar_J56
  rw [chk_t (MH.of A).T, f1, bndT_ok (by decide)]
  match x, R, R1, hn with
  | .inl e, R, R1, _ =>
    rw [if_pos (show b2i (iW f len (.inl e) 5) = 0 from rfl), s_rBar80b A1 R1]
    exact ⟨h1, M1, rfl, A1, F1.fr, RU.inl R1⟩
  | .inr q, R, R1, hn =>
    have hn : 2 ≤ n ∧ n ≤ 4 := by
      rcases hn with ⟨e, he⟩ | hn
      · cases he
      · exact hn
    rw [bd_r]
    cases g : isW f len q 5
    · have g' : iW f len (.inr q) 5 = false := g
      rw [g', if_neg (by decide)] at R1
      rw [g', if_pos (show b2i false = 0 from rfl), if_neg (by decide), bd_r, w32_id (by omega) (by omega)]
      obtain ⟨h2, M2, f2, A2, F2, R2⟩ := s_rBar80 A1 u1_ hb (n := n) (a := a) (o := n - 1) R1
      exact ⟨h2, M2, f2, A2, F1.fr.tr F2, R2⟩
    · have g' : iW f len (.inr q) 5 = true := g
      rw [g', if_pos rfl] at R1
      rw [g', if_neg (show ¬ b2i true = 0 by decide), if_pos rfl, chk_t (MH.of A1).T, w32_id (x := n - 1) (by omega) (by omega)]
      obtain ⟨h2, M2, f2, A2, F2, R2⟩ := s_number A1 X T1 R1 0 (n - 1)
      have u2_ : cl4 (M2 77) = u := by rw [f13_77 F2]; exact u1_
      have e2 : bd (te_ f len (.inr q)) (sNum f len 0 (n - 1)) = sNum f len 0 (n - 1) (xtE f len q) := rfl
      rw [e2] at f2 R2
      rw [f2, bndT_ok (by decide)]
      match hy : sNum f len 0 (n - 1) (xtE f len q), R2 with
      | .inl e, R2 =>
        rw [s_rBar80b A2 R2]
        exact ⟨h2, M2, rfl, A2, F1.fr.tr F2.fr, RU.inl R2⟩
      | .inr z, R2 =>
        obtain ⟨h3, M3, f3, A3, F3, R3⟩ := s_rBar80 A2 u2_ hb (n := n) (a := a) (o := z.1) R2
        exact ⟨h3, M3, f3, A3, (F1.fr.tr F2.fr).tr F3, R3⟩
end
