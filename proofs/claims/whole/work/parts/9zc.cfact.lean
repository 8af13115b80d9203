/-! THE CLASS READS A FACT -/
/-- a rule so far, of which b, a, o are told: the token at hand -/
def CVf (M : aM) (f : Int → Int) (len k b a o : Int) (y : tP (tT × Int)) : Prop := CTx M f len (nu_ y) ∧ (∀ x, y = .inr x → BR18 M (aRule x.1 k b a o)) ∧ 0 ≤ M 18 2 ∧ M 18 2 ≤ 9
section
variable {h : mH} {c : Int} {p L : Int → Int} {M : aM} {f : Int → Int} {len : Int}
theorem s_cPlB (A : At h c p L M) (h0 : 0 ≤ M 18 2) (h1 : M 18 2 ≤ 9) (b : Int) : ∃ x, f_Box_placesOf h 18 b = some ((0, x), h) := by
  have D := A.b18
  unfold f_Box_placesOf f_Box_placesOf_J21
  simp only [D]
  by_cases g : b < 0
  · rw [if_pos g]; exact ⟨_, rfl⟩
  · rw [if_neg g, chk_t trivial]
    by_cases g2 : M 18 2 ≤ b
    · rw [if_pos g2]; exact ⟨_, rfl⟩
    · rw [if_neg g2, chk_t trivial, chk_t trivial, chk_t (by omega)]; exact ⟨_, rfl⟩
/-- what is known of the rule: u0 the box ahead of it, u the facts so far -/
def RKf (M : aM) (u0 u : tT) (b a o : Int) : Prop := BR18 M (aRule u (41 + 16 * nr u0) b a o) ∧ FK0 u0 u ∧ WS (aRule u (41 + 16 * nr u0) b a o)
theorem RKf.f3 {M' : aM} {u0 u : tT} {b a o : Int} (R : RKf M u0 u b a o) (F : FC3 M M') : RKf M' u0 u b a o := ⟨R.1.f3 F, R.2⟩
theorem RKf_nb {u0 u : tT} {b a o : Int} (R : RKf M u0 u b a o) (W : WS u0) : M 18 2 = nb u0 ∧ nb u = nb u0 ∧ nb (aRule u (41 + 16 * nr u0) b a o) = nb u0 ∧ ∀ d, 0 ≤ d → d < nb u0 → pl (aRule u (41 + 16 * nr u0) b a o) d = pl u d ∧ pl u d = pl u0 d := by
  have hr := W.2.1
  have hb := W.1
  have e1 : nb u = nb u0 := R.2.1.1 1 (by omega)
  have e2 : nb (aRule u (41 + 16 * nr u0) b a o) = nb u := aRule_o (by omega) (by omega)
  exact ⟨R.1.1.2.1.trans (e2.trans e1), e1, e2.trans e1, fun d d0 d1 => ⟨aRule_o (by omega) (by omega), R.2.1.1 _ (by omega)⟩⟩
theorem s_cFact91 (A : At h c p L M) (X : TX f len) (T : CTt M f len) {x : tP Int} (R : CPx M f len x) : ∃ h' M', f_Reader_readFact_J91 3 h = some ((3, 0), h') ∧ At h' c p L M' ∧ FC3 M M' ∧ CTx M' f len x := by
  obtain ⟨h1, M1, f1, A1, F1, R1⟩ := s_cToken A X T R
  unfold f_Reader_readFact_J91
  rw [chk_t A.rd.1, f1, bndT_ok (by decide)]
  exact ⟨h1, M1, rfl, A1, F1, R1⟩
/-- behind not or at: the place, the token behind it -/
theorem s_cFact61 (A : At h c p L M) (X : TX f len) (T : CTt M f len) {x : tP Int} (R : CPx M f len x) (S : 0 ≤ M 18 2 ∧ M 18 2 ≤ 9) {u0 u : tT} (W : WS u0) (h24 : nr u0 ≠ 24) {b a o d nt : Int} (H : ∀ q, x = .inr q → RKf M u0 u b a o ∧ u (41 + 16 * nr u0 + 3) ≠ 4 ∧ 0 ≤ d ∧ d < nb u0) :
    ∃ h' M', f_Reader_readFact_J61 3 18 d nt h = some ((3, 0), h') ∧ At h' c p L M' ∧ FCB M M' ∧ CVf M' f len (41 + 16 * nr u0) b a o (bd x fun q => bd (sNum f len 0 (pl u d - 1) q) fun z => .inr (aFact u (41 + 16 * nr u0) d nt z.1, z.2)) := by
  unfold f_Reader_readFact_J61
  rw [chk_t A.b18.1]
  rcases tP_cases x with ⟨e, rfl⟩ | ⟨q, rfl⟩
  · obtain ⟨v, fv⟩ := s_cPlB A S.1 S.2 d
    obtain ⟨h1, M1, f1, A1, F1, R1, _⟩ := s_readNumber A X T R 0 (w32 (v - 1))
    have R1 : CPx M1 f len (.inl e) := R1
    obtain ⟨h2, M2, f2, A2, F2, R2⟩ := s_cFact91 A1 X (T.fr F1) R1
    have q6 : ¬ hpV h1 3 6 = 0 := by
      have C1 := A1.rd
      simp only [C1]; exact R1.ne0
    rw [fv, bndT_ok (by decide), chk_t A.rd.1, f1, bndT_ok (by decide), chk_t A1.rd.1, if_neg q6, f2]
    refine ⟨h2, M2, rfl, A2, F1.b.tr F2.b, R2, fun a h => (by cases h), ?_⟩
    rw [F2.1 18 (fun q => by cases q) (by decide), F1.1 18 (fun q => by cases q) (by decide)]; exact S
  · obtain ⟨K, h4, d0, d1⟩ := H q rfl
    have hb := W.1
    have N := RKf_nb K W
    have fv := s_Box_placesOf (BH.of18 A K.1) K.2.2 d
    rw [N.2.2.1, if_pos ⟨d0, d1⟩, (N.2.2.2 d d0 d1).1, (N.2.2.2 d d0 d1).2] at fv
    have hpl := W.2.2.2.2.2.1 d d0 d1
    obtain ⟨h1, M1, f1, A1, F1, R1, _⟩ := s_readNumber A X T R 0 (pl u0 d - 1)
    have C1 := A1.rd
    rw [bd_r] at f1 R1
    rw [fv, bndT_ok (by decide), chk_t A.rd.1, w32_id (x := pl u0 d - 1) (by omega) (by omega), f1, bndT_ok (by decide), chk_t A1.rd.1, bd_r, (N.2.2.2 d d0 d1).2]
    rcases tP_cases (sNum f len 0 (pl u0 d - 1) q) with ⟨e, h1e⟩ | ⟨z, h1z⟩
    · rw [h1e] at R1 ⊢
      have R1 : CPx M1 f len (.inl e) := R1
      obtain ⟨h2, M2, f2, A2, F2, R2⟩ := s_cFact91 A1 X (T.fr F1) R1
      have q6 : ¬ hpV h1 3 6 = 0 := by simp only [C1]; exact R1.ne0
      rw [if_neg q6, f2]
      refine ⟨h2, M2, rfl, A2, F1.b.tr F2.b, R2, fun a h => (by cases h), ?_⟩
      rw [F2.1 18 (fun q => by cases q) (by decide), F1.1 18 (fun q => by cases q) (by decide)]; exact S
    · rw [h1z] at R1 ⊢
      have R1 : CPx M1 f len (.inr z.2) := R1
      have q6 : hpV h1 3 6 = 0 := by simp only [C1]; exact R1.2.1
      obtain ⟨h2, M2, f2, A2, F2, B2⟩ := s_cAddFact A1 (K.f3 F1).1 W h24 K.2.1 h4 d nt z.1
      have T2 : CTt M2 f len := (T.fr F1).fb F2.b
      obtain ⟨h3, M3, f3, A3, F3, R3⟩ := s_cFact91 A2 X T2 (R1.b F2)
      rw [if_pos q6, chk_t A1.b18.1, bd_r]
      show ∃ h' M', bndT 3 (f_Box_addFact h1 18 d nt z.1) (fun x6 h5 => f_Reader_readFact_J91 3 h5) = some ((3, 0), h') ∧ _
      rw [f2, bndT_ok (by decide), f3]
      have B3 := B2.f3 F3
      have e2 : nb (aRule (aFact u (41 + 16 * nr u0) d nt z.1) (41 + 16 * nr u0) b a o) = nb u0 := by
        have hr := W.2.1
        have hk := K.2.1.2.1
        show aRule _ _ _ _ _ 1 = _
        rw [aRule_o (by omega) (by omega), aFact_at, if_neg (by omega), if_neg (by omega), if_neg (by omega), if_neg (by omega)]
        exact N.2.1
      refine ⟨h3, M3, rfl, A3, (F1.b.tr F2.b).tr F3.b, R3, fun x hx => ?_, ?_⟩
      · cases hx; exact B3
      · rw [B3.1.2.1, e2]; exact hb
/-- the other bar is told -/
theorem s_cFact22 (A : At h c p L M) (X : TX f len) (T : CTt M f len) {x : tP Int} (R : CPx M f len x) (S : 0 ≤ M 18 2 ∧ M 18 2 ≤ 9) {u0 u : tT} (W : WS u0) (h24 : nr u0 ≠ 24) {b a o d : Int} (H : ∀ q, x = .inr q → RKf M u0 u b a o ∧ u (41 + 16 * nr u0 + 3) ≠ 4 ∧ 0 ≤ d ∧ d < nb u0) :
    ∃ h' M', f_Reader_readFact_J22 3 18 d h = some ((3, 0), h') ∧ At h' c p L M' ∧ FCB M M' ∧ CVf M' f len (41 + 16 * nr u0) b a o (bd x fun q => if isW f len q 9 = true ∨ isW f len q 4 = true then
      bd (sNum f len 0 (pl u d - 1) (xtE f len q)) fun z => .inr (aFact u (41 + 16 * nr u0) d (b2i (isW f len q 9)) z.1, z.2) else er f len q 2) := by
  obtain ⟨h1, M1, f1, A1, F1, R1⟩ := s_cToken A X T R
  have T1 := T.fr F1
  have S1 : 0 ≤ M1 18 2 ∧ M1 18 2 ≤ 9 := by rw [F1.1 18 (fun q => by cases q) (by decide)]; exact S
  unfold f_Reader_readFact_J22
  rw [chk_t A.rd.1, f1, bndT_ok (by decide), chk_t A1.rd.1, s_spells A1 X T1 R1 (n := 9) (by decide), bndT_ok (by decide)]
  have j40 : f_Reader_readFact_J40 3 18 d 0 h1 = (if b2i (iW f len x 4) = 0 then chk (hpT h1 3 = 9) (bndT 3 (f_Reader_blame h1 3 2) (fun _ h3 => f_Reader_readFact_J61 3 18 d 0 h3)) else f_Reader_readFact_J61 3 18 d 0 h1) := by
    unfold f_Reader_readFact_J40
    rw [if_pos rfl, chk_t A1.rd.1]
    show bndT 0 (f_Reader_spells h1 3 (-(((4 : Nat) : Int) + 2))) _ = _
    rw [s_spells A1 X T1 R1 (n := 4) (by decide), bndT_ok (by decide)]
  have j41 : f_Reader_readFact_J40 3 18 d 1 h1 = f_Reader_readFact_J61 3 18 d 1 h1 := by
    unfold f_Reader_readFact_J40
    rw [if_neg (by decide)]
  have go61 : ∀ (q nt : Int), x = .inr q → xtK f len q ≠ 4 → ∃ h' M', f_Reader_readFact_J61 3 18 d nt h1 = some ((3, 0), h') ∧ At h' c p L M' ∧ FCB M M' ∧ CVf M' f len (41 + 16 * nr u0) b a o (bd (sNum f len 0 (pl u d - 1) (xtE f len q)) fun z => .inr (aFact u (41 + 16 * nr u0) d nt z.1, z.2)) := fun q nt hx hk => by
    subst hx
    have K := H q rfl
    obtain ⟨h2, M2, f2, A2, F2, R2⟩ := s_cFact61 A1 X T1 (R1.next X hk) S1 W h24 (u := u) (b := b) (a := a) (o := o) (d := d) (nt := nt) (fun _ _ => ⟨K.1.f3 F1, K.2⟩)
    exact ⟨h2, M2, f2, A2, F1.b.tr F2, R2⟩
  have bad61 : ∀ e, (bd x fun q => er f len q 2 : tP Int) = .inl e → ∃ h' M', chk (hpT h1 3 = 9) (bndT 3 (f_Reader_blame h1 3 2) (fun _ h3 => f_Reader_readFact_J61 3 18 d 0 h3)) = some ((3, 0), h') ∧ At h' c p L M' ∧ FCB M M' ∧ CVf M' f len (41 + 16 * nr u0) b a o (.inl e) := fun e he => by
    obtain ⟨h2, M2, f2, A2, F2, R2⟩ := s_cBlame A1 R1 (k := 2) (by decide)
    rw [he] at R2
    obtain ⟨h3, M3, f3, A3, F3, R3⟩ := s_cFact61 A2 X (T1.fr (f67_3 F2)) (x := .inl e) R2.pp (by rw [F2.1 18 (fun q => by cases q) (by decide)]; exact S1) W h24 (u := u) (b := b) (a := a) (o := o) (d := d) (nt := 0) (fun q h => by cases h)
    rw [chk_t A1.rd.1, f2, bndT_ok (by decide), f3]
    exact ⟨h3, M3, rfl, A3, (F1.b.tr (f67_3 F2).b).tr F3, R3⟩
  rcases tP_cases x with ⟨e, hx⟩ | ⟨q, hx⟩
  · rw [hx, if_pos (show b2i (iW f len (.inl e) 9) = 0 from rfl), j40, hx, if_pos (show b2i (iW f len (.inl e) 4) = 0 from rfl)]
    exact bad61 e (by rw [hx]; rfl)
  · rw [hx, iW_of, bd_r]
    cases g9 : isW f len q 9
    · rw [if_pos (show b2i false = 0 from rfl), j40, hx, iW_of]
      cases g4 : isW f len q 4
      · rw [if_pos (show b2i false = 0 from rfl), if_neg (by decide)]
        obtain ⟨h2, M2, f2, A2, F2, R2⟩ := bad61 (if xtK f len q = 4 then 1 else 2, xtB f len q) (by rw [hx]; rfl)
        exact ⟨h2, M2, f2, A2, F2, R2⟩
      · rw [if_neg (show ¬ b2i true = 0 by decide), if_pos (Or.inr rfl)]
        exact go61 q 0 hx (by rw [isW_1 g4]; decide)
    · rw [if_neg (show ¬ b2i true = 0 by decide), j41, if_pos (Or.inl rfl)]
      exact go61 q 1 hx (by rw [isW_1 g9]; decide)
/-- a fact of another bar than b -/
theorem s_cFact (A : At h c p L M) (X : TX f len) (T : CTt M f len) {x : tP Int} (R : CPx M f len x) (S : 0 ≤ M 18 2 ∧ M 18 2 ≤ 9) {u0 u : tT} (W : WS u0) (h24 : nr u0 ≠ 24) {b a o : Int} (H : ∀ q, x = .inr q → RKf M u0 u b a o ∧ u (41 + 16 * nr u0 + 3) ≠ 4 ∧ 0 ≤ b ∧ b < nb u0) :
    ∃ h' M', f_Reader_readFact h 3 18 b = some ((3, 0), h') ∧ At h' c p L M' ∧ FCB M M' ∧ CVf M' f len (41 + 16 * nr u0) b a o (bd x fun q => sFact f len b (41 + 16 * nr u0) (u, q)) := by
  have D := A.b18
  unfold f_Reader_readFact
  simp only [D]
  rw [chk_t trivial, chk_t A.rd.1, w32_id (x := M 18 2 - 1) (by omega) (by omega)]
  obtain ⟨h1, M1, f1, A1, F1, R1, st⟩ := s_readNumber A X T R 0 (M 18 2 - 1)
  have T1 := T.fr F1
  have S1 : 0 ≤ M1 18 2 ∧ M1 18 2 ≤ 9 := by rw [F1.1 18 (fun q => by cases q) (by decide)]; exact S
  rw [f1, bndT_ok (by decide)]
  have dead : ∀ (d : Int) (h2 : mH) (M2 : aM) (e : Int × Int), At h2 c p L M2 → FC3 M M2 → CPx M2 f len (.inl e) → ∃ h' M', f_Reader_readFact_J22 3 18 d h2 = some ((3, 0), h') ∧ At h' c p L M' ∧ FCB M M' ∧ CVf M' f len (41 + 16 * nr u0) b a o (.inl e) := fun d h2 M2 e A2 F2 R2 => by
    obtain ⟨h3, M3, f3, A3, F3, R3⟩ := s_cFact22 A2 X (T.fr F2) (x := .inl e) R2 (by rw [F2.1 18 (fun q => by cases q) (by decide)]; exact S) W h24 (u := u) (b := b) (a := a) (o := o) (d := d) (fun q h => by cases h)
    exact ⟨h3, M3, f3, A3, F2.b.tr F3, R3⟩
  rcases tP_cases x with ⟨e, rfl⟩ | ⟨q, rfl⟩
  · have R1 : CPx M1 f len (.inl e) := R1
    show ∃ h' M', (if 0 = b then _ else f_Reader_readFact_J22 3 18 0 h1) = some ((3, 0), h') ∧ _
    by_cases g : (0 : Int) = b
    · rw [if_pos g, chk_t A1.rd.1, s_cBlameB A1 3 R1.ne0, bndT_ok (by decide)]
      exact dead 0 h1 M1 e A1 F1 R1
    · rw [if_neg g]; exact dead 0 h1 M1 e A1 F1 R1
  · obtain ⟨K, h4, b0, b1⟩ := H q rfl
    have N := RKf_nb K W
    have hq : PO len q := R.1
    rw [bd_r] at R1 ⊢
    rw [N.1] at R1 st ⊢
    unfold sFact sOther
    show ∃ h' M', _ ∧ At h' c p L M' ∧ _ ∧ CVf M' f len (41 + 16 * nr u0) b a o (bd (if xtK f len q = 2 ∧ xtV f len q = b then er f len q 3 else sNum f len 0 (nb u - 1) q) _)
    rw [N.2.1]
    rcases tP_cases (sNum f len 0 (nb u0 - 1) q) with ⟨e, h1e⟩ | ⟨y, h1y⟩
    · rw [h1e] at R1 ⊢
      have R1 : CPx M1 f len (.inl e) := R1
      have hno : ¬ (xtK f len q = 2 ∧ xtV f len q = b) := fun k => by
        unfold sNum at h1e
        rw [if_pos k.1, if_pos (by omega)] at h1e; cases h1e
      rw [if_neg hno]
      show ∃ h' M', (if 0 = b then _ else f_Reader_readFact_J22 3 18 0 h1) = some ((3, 0), h') ∧ _
      by_cases g : (0 : Int) = b
      · rw [if_pos g, chk_t A1.rd.1, s_cBlameB A1 3 R1.ne0, bndT_ok (by decide)]
        exact dead 0 h1 M1 e A1 F1 R1
      · rw [if_neg g]; exact dead 0 h1 M1 e A1 F1 R1
    · have sn := sNum_inr h1y
      have sb := sNum_po X hq h1y
      have e3 := st q y rfl h1y
      rw [h1y] at R1 ⊢
      have R1 : CPx M1 f len (.inr y.2) := R1
      have ev : y.1 = xtV f len q := by rw [sn.2.1]
      show ∃ h' M', (if y.1 = b then _ else f_Reader_readFact_J22 3 18 y.1 h1) = some ((3, 0), h') ∧ _
      by_cases g : y.1 = b
      · obtain ⟨h2, M2, f2, A2, F2, R2⟩ := s_cBlame0 (f := f) (len := len) A1 (k := 3) (by decide) R1.2.1 e3
        rw [if_pos g, if_pos ⟨sn.1, by rw [← ev]; exact g⟩, chk_t A1.rd.1, f2, bndT_ok (by decide)]
        obtain ⟨h3, M3, f3, A3, F3, R3⟩ := dead y.1 h2 M2 _ A2 (F1.tr (f67_3 F2)) R2.pp
        refine ⟨h3, M3, f3, A3, F3, ?_⟩
        unfold er
        rw [if_neg (by omega)]; exact R3
      · rw [if_neg g, if_neg (fun k => g (by rw [ev]; exact k.2))]
        obtain ⟨h2, M2, f2, A2, F2, R2⟩ := s_cFact22 A1 X T1 R1 S1 W h24 (u := u) (b := b) (a := a) (o := o) (d := y.1) (fun _ _ => ⟨K.f3 F1, h4, by omega, by omega⟩)
        exact ⟨h2, M2, f2, A2, F1.b.tr F2, R2⟩
end
