/-! THE CLASS READS A RULE -/
section
variable {h : mH} {c : Int} {p L : Int → Int} {M : aM} {f : Int → Int} {len : Int}
theorem CVf.cu {k b a o : Int} {y : tP (tT × Int)} (R : CVf M f len k b a o y) : CU M f len (bd y fun x => .inr (aRule x.1 k b a o, x.2)) := by
  rcases tP_cases y with ⟨e, rfl⟩ | ⟨x, rfl⟩
  · exact CU.inl R.1
  · exact ⟨R.1, fun z hz _ => by cases hz; exact R.2.1 x rfl⟩
/-- what is sure of a rule's numbers, when nothing was blamed -/
def RG (u0 : tT) (b a o : Int) : Prop := (0 ≤ b ∧ b < nb u0) ∧ ∀ u, FK0 u0 u → WS (aRule u (41 + 16 * nr u0) b a o)
theorem s_cAnd (X : TX f len) {u0 : tT} (P : PW u0) (h24 : nr u0 ≠ 24) {b a o : Int} : ∀ {n m : Nat} {h : mH} {M : aM} {v : Int} {y : tP (tT × Int)}, n < m → (v + n = 5 ∧ 1 ≤ v) → At h c p L M → CTt M f len → CVf M f len (41 + 16 * nr u0) b a o y →
    (∀ x, y = .inr x → FK0 u0 x.1 ∧ PO len x.2 ∧ v = x.1 (41 + 16 * nr u0 + 3) ∧ RG u0 b a o) →
    ∃ h' M', f_Reader_readRule_L111 3 18 b m h v = some ((3, 0), h') ∧ At h' c p L M' ∧ FCB M M' ∧ CVf M' f len (41 + 16 * nr u0) b a o (bd y (sAnd f len b (41 + 16 * nr u0) n))
  | 0, m, h, M, v, y, hm, hv, A, T, R, H => by
    obtain ⟨m, rfl⟩ : ∃ k, m = k + 1 := ⟨m - 1, by omega⟩
    rw [f_Reader_readRule_L111, if_pos (by omega)]
    refine ⟨h, M, rfl, A, Fs.rf _ _ _ _, ?_⟩
    rcases tP_cases y with ⟨e, rfl⟩ | ⟨x, rfl⟩
    · exact R
    · exact R
  | n + 1, m, h, M, v, y, hm, hv, A, T, R, H => by
    obtain ⟨m, rfl⟩ : ∃ k, m = k + 1 := ⟨m - 1, by omega⟩
    have sp := s_spells A X T R.1 (n := 8) (by decide)
    have w1 : w32 (v + 1) = v + 1 := w32_id (by omega) (by omega)
    rw [f_Reader_readRule_L111, if_neg (by omega), chk_t A.rd.1, sp, bndT_ok (by decide)]
    rcases tP_cases y with ⟨e, rfl⟩ | ⟨x, rfl⟩
    · rw [if_pos (show b2i (iW f len (nu_ (.inl e)) 8) = 0 from rfl)]
      exact ⟨h, M, rfl, A, Fs.rf _ _ _ _, R⟩
    · have R1 : CTx M f len (.inr x.2) := R.1
      obtain ⟨F0, hq, hv2, G⟩ := H x rfl
      have hnu : iW f len (nu_ (.inr x)) 8 = isW f len x.2 8 := rfl
      rw [hnu, bd_r, sAnd]
      cases g : isW f len x.2 8
      · rw [if_pos (show b2i false = 0 from rfl), if_neg (by decide)]
        exact ⟨h, M, rfl, A, Fs.rf _ _ _ _, R⟩
      · have hk := isW_1 g
        rw [if_neg (show ¬ b2i true = 0 by decide), if_pos rfl, ← hv2]
        by_cases g4 : v = 4
        · obtain ⟨h2, M2, f2, A2, F2, R2⟩ := s_cBlame A R1 (k := 4) (by decide)
          have R2 : CTx M2 f len (.inl (if xtK f len x.2 = 4 then 1 else 4, xtB f len x.2)) := R2
          have F2' := (f67_3 F2).b
          have S2 : 0 ≤ M2 18 2 ∧ M2 18 2 ≤ 9 := by rw [F2.1 18 (fun q => by cases q) (by decide)]; exact R.2.2
          obtain ⟨h3, M3, f3, A3, F3, R3⟩ := s_cFact A2 X (T.fb F2') (x := .inl (if xtK f len x.2 = 4 then 1 else 4, xtB f len x.2)) R2.pp S2 P.1 h24 (u := x.1) (b := b) (a := a) (o := o) (fun q hq => by cases hq)
          obtain ⟨h4, M4, f4, A4, F4, R4⟩ := s_cAnd X P h24 (n := n) (m := m) (v := v + 1) (y := .inl (if xtK f len x.2 = 4 then 1 else 4, xtB f len x.2)) (by omega) (by omega) A3 ((T.fb F2').fb F3) R3 (fun q hq => by cases hq)
          rw [if_pos g4, if_pos g4, chk_t A.rd.1, f2, bndT_ok (by decide)]
          unfold f_Reader_readRule_J137
          rw [chk_t A2.rd.1, f3, bndT_ok (by decide), wtv, w1, f4]
          exact ⟨h4, M4, rfl, A4, (F2'.tr F3).tr F4, R4⟩
        · have B := R.2.1 x rfl
          have K : RKf M u0 x.1 b a o := ⟨B, F0, G.2 _ F0⟩
          have po : PO len (xtE f len x.2) := xtE_pos X hq
          obtain ⟨h3, M3, f3, A3, F3, R3⟩ := s_cFact A X T (R1.next X (by omega)) R.2.2 P.1 h24 (u := x.1) (b := b) (a := a) (o := o) (fun q hq => ⟨K, by rw [← hv2]; exact g4, G.1⟩)
          rw [bd_r] at R3
          obtain ⟨h4, M4, f4, A4, F4, R4⟩ := s_cAnd X P h24 (n := n) (m := m) (v := v + 1) (y := sFact f len b (41 + 16 * nr u0) (x.1, xtE f len x.2)) (by omega) (by omega) A3 (T.fb F3) R3 (fun z hz => by
            have ok := sFact_ok X P (x := (x.1, xtE f len x.2)) F0 (by rw [← hv2]; exact g4) po hz
            exact ⟨ok.1, ok.2.2.1, by rw [ok.2.1, hv2], G⟩)
          rw [if_neg g4, if_neg g4]
          unfold f_Reader_readRule_J137
          rw [chk_t A.rd.1, f3, bndT_ok (by decide), wtv, w1, f4]
          exact ⟨h4, M4, rfl, A4, F3.tr F4, R4⟩
/-- the facts of a rule -/
theorem s_cRule102 (A : At h c p L M) (X : TX f len) (T : CTt M f len) {x : tP Int} (R : CPx M f len x) (S : 0 ≤ M 18 2 ∧ M 18 2 ≤ 9) {u : tT} (P : PW u) (h24 : nr u ≠ 24) {b a o : Int} (H : ∀ q, x = .inr q → PO len q ∧ BR18 M (aRule (u1 u (41 + 16 * nr u + 3) 0) (41 + 16 * nr u) b a o) ∧ RG u b a o) :
    ∃ h' M', f_Reader_readRule_J102 3 18 b h = some ((3, 0), h') ∧ At h' c p L M' ∧ FCB M M' ∧ CU M' f len (bd x fun q => bd (sFact f len b (41 + 16 * nr u) (u1 u (41 + 16 * nr u + 3) 0, q)) fun x => bd (sAnd f len b (41 + 16 * nr u) 4 x) fun y => .inr (aRule y.1 (41 + 16 * nr u) b a o, y.2)) := by
  have F0 := FK0_0 u
  obtain ⟨h1, M1, f1, A1, F1, R1⟩ := s_cFact A X T R S P.1 h24 (u := u1 u (41 + 16 * nr u + 3) 0) (b := b) (a := a) (o := o) (fun q hq => by
    have := H q hq
    exact ⟨⟨this.2.1, F0, this.2.2.2 _ F0⟩, by rw [u1_eq]; decide, this.2.2.1⟩)
  obtain ⟨h2, M2, f2, A2, F2, R2⟩ := s_cAnd X P h24 (n := 4) (m := 1000000) (v := 1) (b := b) (a := a) (o := o) (by decide) (by decide) A1 (T.fb F1) R1 (fun z hz => by
    obtain ⟨q, hx, hz⟩ := bd_inr hz
    have hh := H q hx
    have ok := sFact_ok X P (x := (u1 u (41 + 16 * nr u + 3) 0, q)) F0 (by show u1 u _ 0 _ ≠ 4; rw [u1_eq]; decide) hh.1 hz
    refine ⟨ok.1, ok.2.2.1, ?_, hh.2.2⟩
    have e := ok.2.1
    rw [show (u1 u (41 + 16 * nr u + 3) 0, q).1 (41 + 16 * nr u + 3) = 0 from u1_eq _ _ _] at e
    rw [e]; rfl)
  unfold f_Reader_readRule_J102
  rw [chk_t A.rd.1, f1, bndT_ok (by decide), f2]
  refine ⟨h2, M2, rfl, A2, F1.tr F2, ?_⟩
  have := R2.cu
  rcases tP_cases x with ⟨e, rfl⟩ | ⟨q, rfl⟩
  · exact this
  · rw [bd_r] at this ⊢
    rcases tP_cases (sFact f len b (41 + 16 * nr u) (u1 u (41 + 16 * nr u + 3) 0, q)) with ⟨e, he⟩ | ⟨z, hz⟩
    · rw [he] at this ⊢; exact this
    · rw [hz] at this ⊢; exact this
/-- behind the places: if, the facts -/
theorem s_cRule81 (A : At h c p L M) (X : TX f len) (T : CTt M f len) {y : tP (Int × Int)} (R : CPx M f len (nx_ y)) (S : 0 ≤ M 18 2 ∧ M 18 2 ≤ 9) {u : tT} (P : PW u) (h24 : nr u ≠ 24) {b a o : Int} (H : ∀ z, y = .inr z → o = z.1 ∧ PO len z.2 ∧ BR18 M u ∧ RG u b a o) :
    ∃ h' M', f_Reader_readRule_J81 3 18 b a o h = some ((3, 0), h') ∧ At h' c p L M' ∧ FCB M M' ∧ CU M' f len (sRuleT f len u b a y) := by
  obtain ⟨h1, M1, f1, A1, F1, R1⟩ := s_readWord A X T R (n := 7) (by decide)
  have C1 := A1.rd
  have T1 := T.fr F1
  have S1 : 0 ≤ M1 18 2 ∧ M1 18 2 ≤ 9 := by rw [F1.1 18 (fun q => by cases q) (by decide)]; exact S
  unfold f_Reader_readRule_J81
  rw [chk_t A.rd.1]
  show ∃ h' M', bndT 3 (f_Reader_readWord h 3 (-(((7 : Nat) : Int) + 2))) _ = some ((3, 0), h') ∧ _
  rw [f1, bndT_ok (by decide)]
  simp only [C1]
  rw [chk_t trivial]
  have bad : ∀ e, bd (nx_ y) (sWord f len 7) = .inl e → sRuleT f len u b a y = .inl e → ∃ h' M', (if M1 3 6 = 0 then chk (hpT h1 18 = 1) (bndT 3 (f_Box_addRule h1 18 b a o) (fun _ h3 => f_Reader_readRule_J102 3 18 b h3)) else f_Reader_readRule_J102 3 18 b h1) = some ((3, 0), h') ∧ At h' c p L M' ∧ FCB M M' ∧ CU M' f len (sRuleT f len u b a y) := fun e he hs => by
    rw [he] at R1
    obtain ⟨h2, M2, f2, A2, F2, R2⟩ := s_cRule102 A1 X T1 R1 S1 P h24 (b := b) (a := a) (o := o) (fun q hq => by cases hq)
    rw [if_neg R1.ne0, f2, hs]
    exact ⟨h2, M2, rfl, A2, F1.b.tr F2, R2⟩
  rcases tP_cases y with ⟨e, rfl⟩ | ⟨z, rfl⟩
  · exact bad e rfl rfl
  · obtain ⟨ho, hq, B, G⟩ := H z rfl
    have R1 : CPx M1 f len (sWord f len 7 z.2) := R1
    rcases tP_cases (sWord f len 7 z.2) with ⟨e, he⟩ | ⟨q, hw⟩
    · exact bad e he (by unfold sRuleT; rw [bd_r, he]; rfl)
    · rw [hw] at R1
      obtain ⟨h2, M2, f2, A2, F2, B2⟩ := s_cAddRule A1 (B.f3 F1) P.1 h24 b a o
      have T2 : CTt M2 f len := T1.fb F2.b
      have S2 : 0 ≤ M2 18 2 ∧ M2 18 2 ≤ 9 := by
        have hr := P.1.2.1
        have e : nb (aRule (u1 u (41 + 16 * nr u + 3) 0) (41 + 16 * nr u) b a o) = nb u := by
          show aRule _ _ _ _ _ 1 = _
          rw [aRule_o (by omega) (by omega), u1_ne (by omega)]; rfl
        rw [B2.1.2.1, e]; exact P.1.1
      obtain ⟨h3, M3, f3, A3, F3, R3⟩ := s_cRule102 A2 X T2 (R1.b F2) S2 P h24 (b := b) (a := a) (o := o) (fun q' hq' => by
        cases hq'
        exact ⟨(sWord_po X hq hw).1, B2, G⟩)
      rw [if_pos R1.2.1, chk_t A1.b18.1, f2, bndT_ok (by decide), f3]
      refine ⟨h3, M3, rfl, A3, (F1.b.tr F2.b).tr F3, ?_⟩
      unfold sRuleT
      rw [bd_r, hw, ← ho]; exact R3
def kTo (b a : Int) : Int → mH → Option mR := fun x12 h11 => if x12 = w32 (a - 1) then f_Reader_readRule_J81 3 18 b a x12 h11 else (if x12 = w32 (a + 1) then f_Reader_readRule_J81 3 18 b a x12 h11 else chk (hpT h11 3 = 9) (bndT 3 (f_Reader_blame h11 3 3) (fun _ h13 => f_Reader_readRule_J81 3 18 b a x12 h13)))
def kPl (b a : Int) : mH → Option mR := fun h7 => chk (hpT h7 18 = 1) (bndT 0 (f_Box_placesOf h7 18 b) (fun x10 h9 => chk (hpT h9 3 = 9) (bndT 0 (f_Reader_readNumber h9 3 0 (w32 (x10 - 1))) (kTo b a))))
theorem s_cTo (A : At h c p L M) (X : TX f len) (T : CTt M f len) {x : tP Int} (R : CPx M f len x) (S : 0 ≤ M 18 2 ∧ M 18 2 ≤ 9) {u : tT} (P : PW u) (h24 : nr u ≠ 24) {b a : Int} (H : ∀ q, x = .inr q → PO len q ∧ BR18 M u ∧ (0 ≤ b ∧ b < nb u) ∧ 0 ≤ a ∧ a < pl u b) :
    ∃ h' M', kPl b a h = some ((3, 0), h') ∧ At h' c p L M' ∧ FCB M M' ∧ CU M' f len (sRuleT f len u b a (bd x (sTo f len (pl u b - 1) a))) := by
  unfold kPl
  rw [chk_t A.b18.1]
  have dead : ∀ (v : Int) (h2 : mH) (M2 : aM) (e : Int × Int), At h2 c p L M2 → FC3 M M2 → CPx M2 f len (.inl e) → ∃ h' M', kTo b a v h2 = some ((3, 0), h') ∧ At h' c p L M' ∧ FCB M M' ∧ CU M' f len (.inl e) := fun v h2 M2 e A2 F2 R2 => by
    obtain ⟨h3, M3, f3, A3, F3, R3⟩ := s_cRule81 A2 X (T.fr F2) (y := .inl e) R2 (by rw [F2.1 18 (fun q => by cases q) (by decide)]; exact S) P h24 (b := b) (a := a) (o := v) (fun z hz => by cases hz)
    unfold kTo
    rw [chk_t A2.rd.1, s_cBlameB A2 3 R2.ne0, bndT_ok (by decide), f3]
    refine ⟨h3, M3, ?_, A3, F2.b.tr F3, R3⟩
    split
    · rfl
    · split <;> rfl
  rcases tP_cases x with ⟨e, rfl⟩ | ⟨q, rfl⟩
  · obtain ⟨v, fv⟩ := s_cPlB A S.1 S.2 b
    obtain ⟨h1, M1, f1, A1, F1, R1, _⟩ := s_readNumber A X T R 0 (w32 (v - 1))
    rw [fv, bndT_ok (by decide), chk_t A.rd.1, f1, bndT_ok (by decide)]
    exact dead _ h1 M1 e A1 F1 R1
  · obtain ⟨hq, B, hb, ha⟩ := H q rfl
    have hnb := P.1.1
    have hpl := P.1.2.2.2.2.2.1 b hb.1 hb.2
    have fv := s_Box_placesOf (BH.of18 A B) P.1 b
    rw [if_pos hb] at fv
    obtain ⟨h1, M1, f1, A1, F1, R1, st⟩ := s_readNumber A X T R 0 (pl u b - 1)
    have T1 := T.fr F1
    rw [bd_r] at f1 R1
    rw [fv, bndT_ok (by decide), chk_t A.rd.1, w32_id (x := pl u b - 1) (by omega) (by omega), f1, bndT_ok (by decide), bd_r]
    rcases tP_cases (sNum f len 0 (pl u b - 1) q) with ⟨e, he⟩ | ⟨z, hz⟩
    · have es : sTo f len (pl u b - 1) a q = .inl e := by
        unfold sTo
        by_cases k : xtK f len q = 2 ∧ xtV f len q ≠ a - 1 ∧ xtV f len q ≠ a + 1
        · rw [if_pos k]
          unfold sNum at he
          rw [if_pos k.1] at he
          by_cases k2 : 0 ≤ xtV f len q ∧ xtV f len q ≤ pl u b - 1
          · rw [if_pos k2] at he; cases he
          · rw [if_neg k2] at he
            unfold er at he ⊢
            cases he; rfl
        · rw [if_neg k, he]
      rw [es, he]
      rw [he] at R1
      exact dead _ h1 M1 e A1 F1 R1
    · have sn := sNum_inr hz
      have sb := sNum_po X hq hz
      have ev : z.1 = xtV f len q := by rw [sn.2.1]
      have e3 := st q z rfl hz
      rw [hz] at R1 ⊢
      have go : (z.1 = a - 1 ∨ z.1 = a + 1) → ∃ h' M', f_Reader_readRule_J81 3 18 b a z.1 h1 = some ((3, 0), h') ∧ At h' c p L M' ∧ FCB M M' ∧ CU M' f len (sRuleT f len u b a (sTo f len (pl u b - 1) a q)) := fun g => by
        obtain ⟨h2, M2, f2, A2, F2, R2⟩ := s_cRule81 A1 X T1 (y := .inr z) R1 (by rw [F1.1 18 (fun q => by cases q) (by decide)]; exact S) P h24 (b := b) (a := a) (o := z.1) (fun z' hz' => by
          cases hz'
          exact ⟨rfl, sb.1, B.f3 F1, hb, fun u' F' => (aRule_PW P h24 F' hb ha (by omega) (by omega)).1.1⟩)
        refine ⟨h2, M2, f2, A2, F1.b.tr F2, ?_⟩
        unfold sTo
        rw [if_neg (by omega), hz]; exact R2
      show ∃ h' M', kTo b a z.1 h1 = some ((3, 0), h') ∧ _
      have hpb := hpl.2.1
      unfold kTo
      rw [w32_id (x := a - 1) (by omega) (by omega), w32_id (x := a + 1) (by omega) (by omega)]
      by_cases g1 : z.1 = a - 1
      · rw [if_pos g1]; exact go (Or.inl g1)
      · rw [if_neg g1]
        by_cases g2 : z.1 = a + 1
        · rw [if_pos g2]; exact go (Or.inr g2)
        · have R1 : CPx M1 f len (.inr z.2) := R1
          obtain ⟨h2, M2, f2, A2, F2, R2⟩ := s_cBlame0 (f := f) (len := len) A1 (k := 3) (by decide) R1.2.1 e3
          have F2' := f67_3 F2
          obtain ⟨h3, M3, f3, A3, F3, R3⟩ := s_cRule81 A2 X (T1.fr F2') (y := .inl (3, xtB f len q)) R2.pp (by rw [F2.1 18 (fun q => by cases q) (by decide), F1.1 18 (fun q => by cases q) (by decide)]; exact S) P h24 (b := b) (a := a) (o := z.1) (fun z hz => by cases hz)
          rw [if_neg g2, chk_t A1.rd.1, f2, bndT_ok (by decide), f3]
          refine ⟨h3, M3, rfl, A3, (F1.b.tr F2'.b).tr F3, ?_⟩
          unfold sTo er
          rw [if_pos ⟨sn.1, by rw [← ev]; exact g1, by rw [← ev]; exact g2⟩, if_neg (by omega)]; exact R3
theorem s_cRule (A : At h c p L M) (X : TX f len) (T : CTt M f len) {u : tT} (B : BR18 M u) (P : PW u) {q : Int} (R : CTx M f len (.inr q)) (hk : xtK f len q ≠ 4) : ∃ h' M', f_Reader_readRule h 3 18 = some ((3, 0), h') ∧ At h' c p L M' ∧ FCB M M' ∧ CU M' f len (sRule f len u q) := by
  have D := A.b18
  have e3 : M 18 3 = nr u := B.1.2.2.1
  have e2 : M 18 2 = nb u := B.1.2.1
  have hnb := P.1.1
  unfold f_Reader_readRule sRule
  simp only [D]
  rw [chk_t trivial, e3]
  by_cases h24 : nr u = 24
  · obtain ⟨h1, M1, f1, A1, F1, R1⟩ := s_cBlame A R (k := 4) (by decide)
    rw [if_pos h24, if_pos h24, chk_t A.rd.1, f1, bndT_ok (by decide)]
    exact ⟨h1, M1, rfl, A1, (f67_3 F1).b, CU.inl R1⟩
  have po1 : PO len (xtE f len q) := xtE_pos X R.1
  obtain ⟨h1, M1, f1, A1, F1, R1, _⟩ := s_readNumber A X T (R.next X hk) 0 (nb u - 1)
  have T1 := T.fr F1
  have S1 : 0 ≤ M1 18 2 ∧ M1 18 2 ≤ 9 := by rw [F1.1 18 (fun q => by cases q) (by decide), e2]; exact hnb
  rw [bd_r] at f1 R1
  rw [if_neg h24, if_neg h24, chk_t trivial, chk_t A.rd.1, e2, w32_id (x := nb u - 1) (by omega) (by omega), f1, bndT_ok (by decide)]
  show ∃ h' M', (fun x2 h1 => chk (hpT h1 18 = 1) (bndT 0 (f_Box_placesOf h1 18 x2) (fun x4 h3 => chk (hpT h3 3 = 9) (bndT 0 (f_Reader_readNumber h3 3 0 (w32 (x4 - 1))) (fun x6 h5 => chk (hpT h5 3 = 9) (bndT 3 (f_Reader_readWord h5 3 (-(((6 : Nat) : Int) + 2))) (fun x8 h7 => kPl x2 x6 h7))))))) (nv_ (sNum f len 0 (nb u - 1) (xtE f len q)) 0) h1 = some ((3, 0), h') ∧ _
  -- the place from which it goes, the word to
  have part : ∀ (b : Int) (x : tP Int) (h2 : mH) (M2 : aM), At h2 c p L M2 → FC3 M M2 → CPx M2 f len x → (∀ q, x = .inr q → PO len q ∧ 0 ≤ b ∧ b < nb u) → ∃ h' M', chk (hpT h2 18 = 1) (bndT 0 (f_Box_placesOf h2 18 b) (fun x4 h3 => chk (hpT h3 3 = 9) (bndT 0 (f_Reader_readNumber h3 3 0 (w32 (x4 - 1))) (fun x6 h5 => chk (hpT h5 3 = 9) (bndT 3 (f_Reader_readWord h5 3 (-(((6 : Nat) : Int) + 2))) (fun x8 h7 => kPl b x6 h7)))))) = some ((3, 0), h') ∧ At h' c p L M' ∧ FCB M M' ∧ CU M' f len (bd x fun q => bd (sNum f len 0 (pl u b - 1) q) fun a => bd (sWord f len 6 a.2) fun q => sRuleT f len u b a.1 (sTo f len (pl u b - 1) a.1 q)) := fun b x h2 M2 A2 F2 R2 H => by
    have S2 : 0 ≤ M2 18 2 ∧ M2 18 2 ≤ 9 := by rw [F2.1 18 (fun q => by cases q) (by decide), e2]; exact hnb
    have T2 := T.fr F2
    rw [chk_t A2.b18.1]
    have rest : ∀ (y : tP (Int × Int)) (h3 : mH) (M3 : aM), At h3 c p L M3 → FC3 M M3 → CPx M3 f len (nx_ y) → (∀ a, y = .inr a → PO len a.2 ∧ (0 ≤ b ∧ b < nb u) ∧ 0 ≤ a.1 ∧ a.1 < pl u b) → ∃ h' M', chk (hpT h3 3 = 9) (bndT 3 (f_Reader_readWord h3 3 (-(((6 : Nat) : Int) + 2))) (fun x8 h7 => kPl b (nv_ y 0) h7)) = some ((3, 0), h') ∧ At h' c p L M' ∧ FCB M M' ∧ CU M' f len (bd y fun a => bd (sWord f len 6 a.2) fun q => sRuleT f len u b a.1 (sTo f len (pl u b - 1) a.1 q)) := fun y h3 M3 A3 F3 R3 Hy => by
      obtain ⟨h4, M4, f4, A4, F4, R4⟩ := s_readWord A3 X (T.fr F3) R3 (n := 6) (by decide)
      have F4' : FC3 M M4 := F3.tr F4
      rw [chk_t A3.rd.1, f4, bndT_ok (by decide)]
      have S4 : 0 ≤ M4 18 2 ∧ M4 18 2 ≤ 9 := by rw [F4'.1 18 (fun q => by cases q) (by decide), e2]; exact hnb
      rcases tP_cases y with ⟨e, rfl⟩ | ⟨a, rfl⟩
      · obtain ⟨h5, M5, f5, A5, F5, R5⟩ := s_cTo A4 X (T.fr F4') (x := .inl e) R4 S4 P h24 (b := b) (a := nv_ (.inl e) 0) (fun q hq => by cases hq)
        exact ⟨h5, M5, f5, A5, F4'.b.tr F5, R5⟩
      · have ha := Hy a rfl
        have R4 : CPx M4 f len (sWord f len 6 a.2) := R4
        obtain ⟨h5, M5, f5, A5, F5, R5⟩ := s_cTo A4 X (T.fr F4') R4 S4 P h24 (b := b) (a := a.1) (fun q hq => ⟨(sWord_po X ha.1 hq).1, B.f3 F4', ha.2.1, ha.2.2⟩)
        refine ⟨h5, M5, f5, A5, F4'.b.tr F5, ?_⟩
        rw [bd_r]
        rcases tP_cases (sWord f len 6 a.2) with ⟨e, he⟩ | ⟨w, hw⟩
        · rw [he] at R5 ⊢; exact R5
        · rw [hw] at R5 ⊢; exact R5
    rcases tP_cases x with ⟨e, rfl⟩ | ⟨q', rfl⟩
    · obtain ⟨v, fv⟩ := s_cPlB A2 S2.1 S2.2 b
      obtain ⟨h3, M3, f3, A3, F3, R3, _⟩ := s_readNumber A2 X T2 R2 0 (w32 (v - 1))
      rw [fv, bndT_ok (by decide), chk_t A2.rd.1, f3, bndT_ok (by decide)]
      exact rest (.inl e) h3 M3 A3 (F2.tr F3) R3 (fun a h => by cases h)
    · obtain ⟨hq, hb⟩ := H q' rfl
      have hpl := P.1.2.2.2.2.2.1 b hb.1 hb.2
      have fv := s_Box_placesOf (BH.of18 A2 (B.f3 F2)) P.1 b
      rw [if_pos hb] at fv
      obtain ⟨h3, M3, f3, A3, F3, R3, _⟩ := s_readNumber A2 X T2 R2 0 (pl u b - 1)
      rw [bd_r] at f3 R3
      rw [fv, bndT_ok (by decide), chk_t A2.rd.1, w32_id (x := pl u b - 1) (by omega) (by omega), f3, bndT_ok (by decide), bd_r]
      exact rest _ h3 M3 A3 (F2.tr F3) R3 (fun a ha => by
        have := sNum_po X hq ha
        exact ⟨this.1, hb, this.2.2.1, by omega⟩)
  rcases tP_cases (sNum f len 0 (nb u - 1) (xtE f len q)) with ⟨e, he⟩ | ⟨b, hb⟩
  · rw [he] at R1 ⊢
    exact part (nv_ (.inl e) 0) (.inl e) h1 M1 A1 F1 R1 (fun q h => by cases h)
  · have sb := sNum_po X po1 hb
    rw [hb] at R1 ⊢
    exact part b.1 (.inr b.2) h1 M1 A1 F1 R1 (fun q h => by cases h; exact ⟨sb.1, by omega, by omega⟩)
end
