/-! THE CLASS READS A LINE -/
/-- behind a line: the next token begins from here -/
def CL (M : aM) (f : Int → Int) (len : Int) (y : tP (tT × Int)) : Prop := CPx M f len (nu_ y) ∧ ∀ a, y = .inr a → BR18 M a.1
theorem iW0 {f : Int → Int} {len q : Int} (h : xtK f len q ≠ 1) (n : Nat) : isW f len q n = false := Bool.eq_false_iff.mpr (fun k => h (isW_1 k))
section
variable {h : mH} {c : Int} {p L : Int → Int} {M : aM} {f : Int → Int} {len : Int}
/-- one of the first five numbers changes -/
theorem BR18.one {u : tT} (R : BR18 M u) (W : WS u) {s i x : Int} (hi : (s = 1 ∧ i = 0) ∨ (s = 4 ∧ i = 3) ∨ (s = 5 ∧ i = 4)) : BR18 (mup M 18 s x) (u1 u i x) := by
  have hb := W.1
  have hr := W.2.1
  have lo : ∀ j, j ≠ i → u1 u i x j = u j := fun j hj => u1_ne hj
  have ms : mup M 18 s x 18 s = x := mup_eq _ _ _ _
  have mn : ∀ j, j ≠ s → mup M 18 s x 18 j = M 18 j := fun j hj => mup_ne (Or.inr hj)
  have e1 : nb (u1 u i x) = nb u := lo 1 (by omega)
  have e2 : nr (u1 u i x) = nr u := lo 2 (by omega)
  refine ⟨⟨?_, ?_, ?_, ?_, ?_⟩, fun b b0 b1 => ?_, fun r r0 r1 => ?_⟩
  · rcases hi with ⟨rfl, rfl⟩ | ⟨rfl, rfl⟩ | ⟨rfl, rfl⟩
    · rw [ms, u1_eq]
    · rw [mn 1 (by decide), lo 0 (by decide)]; exact R.1.1
    · rw [mn 1 (by decide), lo 0 (by decide)]; exact R.1.1
  · rw [mn 2 (by omega), e1]; exact R.1.2.1
  · rw [mn 3 (by omega), e2]; exact R.1.2.2.1
  · rcases hi with ⟨rfl, rfl⟩ | ⟨rfl, rfl⟩ | ⟨rfl, rfl⟩
    · rw [mn 4 (by decide)]; exact R.1.2.2.2.1.trans (lo 3 (by decide)).symm
    · rw [ms]; exact (u1_eq _ _ _).symm
    · rw [mn 4 (by decide)]; exact R.1.2.2.2.1.trans (lo 3 (by decide)).symm
  · rcases hi with ⟨rfl, rfl⟩ | ⟨rfl, rfl⟩ | ⟨rfl, rfl⟩
    · rw [mn 5 (by decide)]; exact R.1.2.2.2.2.trans (lo 4 (by decide)).symm
    · rw [mn 5 (by decide)]; exact R.1.2.2.2.2.trans (lo 4 (by decide)).symm
    · rw [ms]; exact (u1_eq _ _ _).symm
  · rw [e1] at b1
    have y := R.2.1 b b0 b1
    rw [mup_fn (show (19 : Int) ≠ 18 by decide), mup_fn (show (20 : Int) ≠ 18 by decide), mup_fn (show (21 : Int) ≠ 18 by decide), mup_fn (show (22 : Int) ≠ 18 by decide), mup_fn (show (23 : Int) ≠ 18 by decide)]
    exact ⟨y.1.trans (lo _ (by omega)).symm, y.2.1.trans (lo _ (by omega)).symm, y.2.2.1.trans (lo _ (by omega)).symm, y.2.2.2.1.trans (lo _ (by omega)).symm, y.2.2.2.2.trans (lo _ (by omega)).symm⟩
  · rw [e2] at r1
    have y := R.2.2 r r0 r1
    rw [mup_fn (show (24 : Int) ≠ 18 by decide), mup_fn (show (25 : Int) ≠ 18 by decide), mup_fn (show (26 : Int) ≠ 18 by decide), mup_fn (show (27 : Int) ≠ 18 by decide), mup_fn (show (28 : Int) ≠ 18 by decide), mup_fn (show (29 : Int) ≠ 18 by decide), mup_fn (show (30 : Int) ≠ 18 by decide)]
    have e3 : rn (u1 u i x) r = rn u r := lo _ (by omega)
    rw [e3]
    refine ⟨y.1.trans (lo _ (by omega)).symm, y.2.1.trans (lo _ (by omega)).symm, y.2.2.1.trans (lo _ (by omega)).symm, y.2.2.2.1, fun g g0 g1 => ?_⟩
    have z := y.2.2.2.2 g g0 g1
    exact ⟨z.1.trans (lo _ (by omega)).symm, z.2.1.trans (lo _ (by omega)).symm, z.2.2.trans (lo _ (by omega)).symm⟩
theorem f18 {s x : Int} : Fr c18 M (mup M 18 s x) := (Fr.rf _ _).pu (by decide)
/-- the line's count goes on -/
theorem s_cLine108 (A : At h c p L M) {y : tP (tT × Int)} (R : CPx M f len (nu_ y)) (H : ∀ x, y = .inr x → BR18 M x.1 ∧ WS x.1 ∧ x.1 0 ≤ 1000) : ∃ h' M', f_Reader_readLine_J108 18 h = some ((3, 0), h') ∧ At h' c p L M' ∧ FCB M M' ∧ CL M' f len (bd y fun x => .inr (u1 x.1 0 (x.1 0 + 1), x.2)) := by
  have D := A.b18
  have A1 := A.s18 1 (w32 (M 18 1 + 1)) (by decide +kernel)
  unfold f_Reader_readLine_J108
  simp only [D]
  rw [chk_t trivial, chk_t trivial, wth]
  refine ⟨_, _, rfl, A1, f18.b, ?_⟩
  rcases tP_cases y with ⟨e, rfl⟩ | ⟨x, rfl⟩
  · exact ⟨R.b f18, fun a h => by cases h⟩
  · obtain ⟨B, W, hx⟩ := H x rfl
    have h0 := W.2.2.2.2.1
    rw [B.1.1, w32_id (x := x.1 0 + 1) (by omega) (by omega)]
    exact ⟨R.b f18, fun a h => by cases h; exact B.one W (Or.inl ⟨rfl, rfl⟩)⟩
theorem s_cLine95 (A : At h c p L M) (X : TX f len) {y : tP (tT × Int)} (R : CU M f len y) (H : ∀ x, y = .inr x → WS x.1 ∧ x.1 0 ≤ 1000) : ∃ h' M', f_Reader_readLine_J95 3 18 h = some ((3, 0), h') ∧ At h' c p L M' ∧ FCB M M' ∧ CL M' f len (bd y fun x => if xtK f len x.2 = 3 then .inr (u1 x.1 0 (x.1 0 + 1), xtE f len x.2) else er f len x.2 2) := by
  have C := A.rd
  unfold f_Reader_readLine_J95
  simp only [C]
  rw [chk_t trivial, chk_t trivial]
  -- all that is blamed comes to this
  have dead : ∀ e : Int × Int, CTx M f len (.inl e) → ∃ h' M', (if M 3 4 = 4 then f_Reader_readLine_J108 18 h else bndT 3 (f_Reader_blame h 3 2) (fun _ h1 => f_Reader_readLine_J108 18 h1)) = some ((3, 0), h') ∧ At h' c p L M' ∧ FCB M M' ∧ CL M' f len (.inl e) := fun e Re => by
    obtain ⟨h1, M1, f1, A1, F1, R1⟩ := s_cLine108 A (y := .inl e) Re.pp (fun x hx => by cases hx)
    rw [s_cBlameB A 2 Re.ne0, bndT_ok (by decide), f1]
    refine ⟨h1, M1, ?_, A1, F1, R1⟩
    split <;> rfl
  rcases tP_cases y with ⟨e, rfl⟩ | ⟨x, rfl⟩
  · exact dead e R.1
  · have R1 : CTx M f len (.inr x.2) := R.1
    obtain ⟨W, hx⟩ := H x rfl
    rw [bd_r]
    by_cases g4 : xtK f len x.2 = 4
    · rw [if_neg (show ¬ xtK f len x.2 = 3 by omega)]
      exact dead (if xtK f len x.2 = 4 then 1 else 2, xtB f len x.2) (R1.bad g4 2)
    · obtain ⟨r6, r7, r3, rk, r2, r5⟩ := R1.2.2 g4
      rw [rk]
      by_cases g : xtK f len x.2 = 3
      · obtain ⟨h1, M1, f1, A1, F1, R1'⟩ := s_cLine108 A (y := .inr (x.1, xtE f len x.2)) (R1.next X g4) (fun x' hx' => by cases hx'; exact ⟨R.2 x rfl g4, W, hx⟩)
        rw [if_pos g, if_pos ((ckK_4 (tK_rng f len x.2)).mpr g), f1]
        exact ⟨h1, M1, rfl, A1, F1, R1'⟩
      · obtain ⟨h1, M1, f1, A1, F1, R1'⟩ := s_cBlame A R1 (k := 2) (by decide)
        have R2 : CTx M1 f len (.inl (if xtK f len x.2 = 4 then 1 else 2, xtB f len x.2)) := R1'
        obtain ⟨h2, M2, f2, A2, F2, R3⟩ := s_cLine108 A1 (y := .inl (if xtK f len x.2 = 4 then 1 else 2, xtB f len x.2)) R2.pp (fun x hx => by cases hx)
        rw [if_neg g, if_neg (fun k => g ((ckK_4 (tK_rng f len x.2)).mp k)), f1, bndT_ok (by decide), f2]
        exact ⟨h2, M2, rfl, A2, (f67_3 F1).b.tr F2, R3⟩
theorem sNest_eq {u : tT} (W : WS u) (q : Int) : (if xtK f len q = 2 ∧ nb u < xtV f len q then er f len q 3 else sNum f len 2 9 q) = sNum f len 2 (nb u) q := by
  have hb := W.1
  unfold sNum
  by_cases g : xtK f len q = 2
  · rw [if_pos g, if_pos g]
    by_cases g2 : nb u < xtV f len q
    · rw [if_pos ⟨g, g2⟩, if_neg (by omega)]
    · rw [if_neg (fun k => g2 k.2)]
      by_cases g3 : 2 ≤ xtV f len q
      · rw [if_pos (by omega), if_pos (by omega)]
      · rw [if_neg (by omega), if_neg (by omega)]
  · rw [if_neg (fun k => g k.1), if_neg g, if_neg g]
/-- a number of the line is put into its slot, the token behind it is read -/
theorem s_cNum (A : At h c p L M) (X : TX f len) (T : CTt M f len) {u : tT} (B : BR18 M u) (W : WS u) {x : tP Int} (R : CPx M f len x) (lo hi : Int) {s i : Int} (hsi : (s = 4 ∧ i = 3) ∨ (s = 5 ∧ i = 4)) {K : mH → Option mR}
    (HK : ∀ h1 M1, At h1 c p L M1 → FCB M M1 → CU M1 f len (bd (bd x (sNum f len lo hi)) fun y => .inr (u1 u i y.1, y.2)) → ∃ h' M', K h1 = some ((3, 0), h') ∧ At h' c p L M' ∧ FCB M1 M' ∧ CL M' f len (bd (bd (bd x (sNum f len lo hi)) fun y => .inr (u1 u i y.1, y.2)) fun x => if xtK f len x.2 = 3 then .inr (u1 x.1 0 (x.1 0 + 1), xtE f len x.2) else er f len x.2 2)) :
    ∃ h' M', bndT 0 (f_Reader_readNumber h 3 lo hi) (fun x12 h11 => chk (hpT h11 18 = 1) (wth (hput h11 18 s x12) (fun h13 => chk (hpT h13 3 = 9) (bndT 3 (f_Reader_readToken h13 3) (fun _ h14 => K h14))))) = some ((3, 0), h') ∧ At h' c p L M' ∧ FCB M M' ∧ CL M' f len (bd (bd (bd x (sNum f len lo hi)) fun y => .inr (u1 u i y.1, y.2)) fun x => if xtK f len x.2 = 3 then .inr (u1 x.1 0 (x.1 0 + 1), xtE f len x.2) else er f len x.2 2) := by
  obtain ⟨h1, M1, f1, A1, F1, R1, _⟩ := s_readNumber A X T R lo hi
  have B1 := B.f3 F1
  generalize bd x (sNum f len lo hi) = y at f1 R1 HK ⊢
  have hs : pt 18 s = 0 := by rcases hsi with ⟨rfl, _⟩ | ⟨rfl, _⟩ <;> decide +kernel
  have A2 := A1.s18 s (nv_ y 0) hs
  have R2 : CPx (mup M1 18 s (nv_ y 0)) f len (nx_ y) := R1.b f18
  have T2 : CTt (mup M1 18 s (nv_ y 0)) f len := (T.fr F1).fb f18.b
  obtain ⟨h3, M3, f3, A3, F3, R3⟩ := s_cToken A2 X T2 R2
  rw [f1, bndT_ok (by decide), chk_t A1.b18.1, wth, chk_t A2.rd.1, f3, bndT_ok (by decide)]
  have F0 : FCB M M3 := (F1.b.tr f18.b).tr F3.b
  obtain ⟨h4, M4, f4, A4, F4, R4⟩ := HK h3 M3 A3 F0 (by
    rcases tP_cases y with ⟨e, rfl⟩ | ⟨z, rfl⟩
    · exact CU.inl R3
    · refine ⟨R3, fun a ha _ => ?_⟩
      cases ha
      exact (B1.one W (s := s) (i := i) (x := z.1) (by omega)).f3 F3)
  exact ⟨h4, M4, f4, A4, F0.tr F4, R4⟩
theorem s_cLine (A : At h c p L M) (X : TX f len) (T : CTt M f len) {x : tT × Int} (P : PWq len x) (R : CTx M f len (.inr x.2)) (hk : xtK f len x.2 ≠ 4) (B : BR18 M x.1) : ∃ h' M', f_Reader_readLine h 3 18 = some ((3, 0), h') ∧ At h' c p L M' ∧ FCB M M' ∧ CL M' f len (sLine f len x.1 x.2) := by
  have hl := X.1
  have hW := P.1.1
  have po := P.2.1
  have hx0 := P.2.2
  have sp := fun (n : Nat) (hn : n < 10) => s_spells A X T R hn
  have e2 : M 18 2 = nb x.1 := B.1.2.1
  unfold f_Reader_readLine sLine sOne
  rw [chk_t A.rd.1, sp 0 (by decide), bndT_ok (by decide), iW_of]
  have fin : ∀ (y : tP (tT × Int)) (h1 : mH) (M1 : aM), At h1 c p L M1 → FCB M M1 → CU M1 f len y → (∀ z, y = .inr z → PW z.1 ∧ z.1 0 = x.1 0) → ∃ h' M', f_Reader_readLine_J95 3 18 h1 = some ((3, 0), h') ∧ At h' c p L M' ∧ FCB M M' ∧ CL M' f len (bd y fun x => if xtK f len x.2 = 3 then .inr (u1 x.1 0 (x.1 0 + 1), xtE f len x.2) else er f len x.2 2) := fun y h1 M1 A1 F1 R1 H => by
    obtain ⟨h2, M2, f2, A2, F2, R2⟩ := s_cLine95 A1 X R1 (fun z hz => by
      have := H z hz
      exact ⟨this.1.1, by rw [this.2]; have := po.2; omega⟩)
    exact ⟨h2, M2, f2, A2, F1.tr F2, R2⟩
  cases g0 : isW f len x.2 0
  · rw [if_pos (show b2i false = 0 from rfl), if_neg (show ¬ (false = true) by decide), chk_t A.rd.1]
    show ∃ h' M', bndT 0 (f_Reader_spells h 3 (-(((1 : Nat) : Int) + 2))) _ = some ((3, 0), h') ∧ _
    rw [sp 1 (by decide), bndT_ok (by decide), iW_of]
    cases g1 : isW f len x.2 1
    · rw [if_pos (show b2i false = 0 from rfl), if_neg (show ¬ (false = true) by decide), chk_t A.rd.1]
      show ∃ h' M', bndT 0 (f_Reader_spells h 3 (-(((2 : Nat) : Int) + 2))) _ = some ((3, 0), h') ∧ _
      rw [sp 2 (by decide), bndT_ok (by decide), iW_of]
      cases g2 : isW f len x.2 2
      · rw [if_pos (show b2i false = 0 from rfl), if_neg (show ¬ (false = true) by decide), chk_t A.rd.1]
        show ∃ h' M', bndT 0 (f_Reader_spells h 3 (-(((3 : Nat) : Int) + 2))) _ = some ((3, 0), h') ∧ _
        rw [sp 3 (by decide), bndT_ok (by decide), iW_of]
        cases g3 : isW f len x.2 3
        · obtain ⟨h1, M1, f1, A1, F1, R1⟩ := s_cBlame A R (k := 2) (by decide)
          have R1 : CTx M1 f len (.inl (if xtK f len x.2 = 4 then 1 else 2, xtB f len x.2)) := R1
          rw [if_pos (show b2i false = 0 from rfl), if_neg (show ¬ (false = true) by decide), chk_t A.rd.1, f1, bndT_ok (by decide)]
          exact fin (er f len x.2 2) h1 M1 A1 (f67_3 F1).b (CU.inl R1) (fun z hz => by unfold er at hz; cases hz)
        · have ok := fun a h => sWear_ok X P.1 po (a := a) h
          unfold sWear at ok
          rw [if_neg (show ¬ b2i true = 0 by decide), if_pos rfl, chk_t A.rd.1]
          unfold sWear
          exact s_cNum A X T B hW (x := .inr (xtE f len x.2)) (R.next X hk) 0 99 (s := 5) (i := 4) (Or.inr ⟨rfl, rfl⟩) (K := fun h14 => f_Reader_readLine_J95 3 18 h14) (fun h1 M1 A1 F1 R1 => by
            obtain ⟨h2, M2, f2, A2, F2, R2⟩ := s_cLine95 A1 X R1 (fun z hz => by
              have := ok z hz
              exact ⟨this.1.1, by rw [this.2.1]; have := po.2; omega⟩)
            exact ⟨h2, M2, f2, A2, F2, R2⟩)
      · have ok := fun a h => sNest_ok X P.1 po (a := a) h
        unfold sNest at ok
        rw [if_neg (show ¬ b2i true = 0 by decide), if_pos rfl, chk_t A.b18.1, chk_t A.rd.1]
        have D := A.b18
        have q2 : hpV h 18 2 = nb x.1 := by simp only [D]; exact e2
        rw [q2]
        unfold sNest
        rw [sNest_eq hW] at ok ⊢
        exact s_cNum A X T B hW (x := .inr (xtE f len x.2)) (R.next X hk) 2 (nb x.1) (s := 4) (i := 3) (Or.inl ⟨rfl, rfl⟩) (K := fun h19 => f_Reader_readLine_J95 3 18 h19) (fun h1 M1 A1 F1 R1 => by
          obtain ⟨h2, M2, f2, A2, F2, R2⟩ := s_cLine95 A1 X R1 (fun z hz => by
            have := ok z hz
            exact ⟨this.1.1, by rw [this.2.1]; have := po.2; omega⟩)
          exact ⟨h2, M2, f2, A2, F2, R2⟩)
    · obtain ⟨h1, M1, f1, A1, F1, R1⟩ := s_cRule A X T B P.1 R hk
      rw [if_neg (show ¬ b2i true = 0 by decide), if_pos rfl, chk_t A.rd.1, f1, bndT_ok (by decide)]
      exact fin _ h1 M1 A1 F1 R1 (fun z hz => by
        have := sRule_ok X P.1 po hz
        exact ⟨this.1, this.2.1⟩)
  · obtain ⟨h1, M1, f1, A1, F1, R1⟩ := s_cBar A X T B P.1 R hk
    rw [if_neg (show ¬ b2i true = 0 by decide), if_pos rfl, chk_t A.rd.1, f1, bndT_ok (by decide)]
    exact fin _ h1 M1 A1 F1 R1 (fun z hz => by
      have := sBar_ok X P.1 po hz
      exact ⟨this.1, this.2.1⟩)
/-- a text is read: a fault and its place, or the box -/
def CE (M : aM) (y : tP (tT × Int)) : Prop := (∀ e, y = .inl e → M 3 6 = e.1 ∧ e.1 ≠ 0 ∧ M 3 7 = e.2) ∧ ∀ a, y = .inr a → M 3 6 = 0 ∧ M 3 7 = -1 ∧ BR18 M a.1
theorem s_cText (X : TX f len) : ∀ {n m : Nat} {h : mH} {M : aM} {v : Int} {y : tP (tT × Int)}, n < m → (v + n = 901 ∧ 0 ≤ v) → At h c p L M → CTt M f len → CU M f len y → (∀ x, y = .inr x → PWq len x ∧ len - x.2 < n) →
    ∃ h' M', f_Reader_readText_L41 3 18 m h v = some ((3, 0), h') ∧ At h' c p L M' ∧ FCB M M' ∧ CE M' (bd y (sText f len n))
  | n, m, h, M, v, .inl e, hm, hv, A, T, R, _ => by
    obtain ⟨m, rfl⟩ : ∃ k, m = k + 1 := ⟨m - 1, by omega⟩
    have C := A.rd
    have R' : CTx M f len (.inl e) := R.1
    refine ⟨h, M, ?_, A, Fs.rf _ _ _ _, fun e' he => by cases he; exact R', fun a ha => by cases ha⟩
    rw [f_Reader_readText_L41]
    simp only [C]
    rw [chk_t trivial, if_neg R'.ne0]
    split <;> rfl
  | 0, m, h, M, v, .inr x, hm, hv, A, T, R, H => by
    have := (H x rfl).1.2.1.2
    have := (H x rfl).2
    omega
  | n + 1, m, h, M, v, .inr x, hm, hv, A, T, R, H => by
    obtain ⟨m, rfl⟩ : ∃ k, m = k + 1 := ⟨m - 1, by omega⟩
    have C := A.rd
    have R' : CTx M f len (.inr x.2) := R.1
    obtain ⟨P, hn⟩ := H x rfl
    have w1 : w32 (v + 1) = v + 1 := w32_id (by omega) (by omega)
    rw [f_Reader_readText_L41, if_neg (by omega), bd_r, sText]
    simp only [C]
    rw [chk_t trivial]
    by_cases g4 : xtK f len x.2 = 4
    · have r := R'.2.1 g4
      rw [if_neg (by rw [r.1]; decide), if_neg (by omega)]
      have es : sLine f len x.1 x.2 = .inl (1, xtB f len x.2) := by
        unfold sLine sOne er
        rw [iW0 (by omega), iW0 (by omega), iW0 (by omega), iW0 (by omega), if_neg (by decide), if_neg (by decide), if_neg (by decide), if_neg (by decide), if_pos g4]; rfl
      rw [es]
      exact ⟨h, M, rfl, A, Fs.rf _ _ _ _, fun e' he => by cases he; exact ⟨r.1, (by decide : (1 : Int) ≠ 0), r.2⟩, fun a ha => by cases ha⟩
    · obtain ⟨r6, r7, r3, rk, r2, r5⟩ := R'.2.2 g4
      rw [if_pos r6, chk_t trivial, rk]
      by_cases g : xtK f len x.2 = 0
      · rw [if_pos ((ckK_0 (tK_rng f len x.2)).mpr g), if_pos g]
        exact ⟨h, M, rfl, A, Fs.rf _ _ _ _, fun e' he => (by cases he), fun a ha => by cases ha; exact ⟨r6, r7, R.2 x rfl g4⟩⟩
      · rw [if_neg (fun k => g ((ckK_0 (tK_rng f len x.2)).mp k)), if_neg g, chk_t trivial]
        obtain ⟨h1, M1, f1, A1, F1, R1⟩ := s_cLine A X T P R' g4 (R.2 x rfl g4)
        have T1 := T.fb F1
        obtain ⟨h2, M2, f2, A2, F2, R2⟩ := s_cToken A1 X T1 R1.1
        obtain ⟨h3, M3, f3, A3, F3, R3⟩ := s_cText X (n := n) (m := m) (v := v + 1) (y := sLine f len x.1 x.2) (by omega) (by omega) A2 (T1.fr F2) ⟨R2, fun a ha _ => (R1.2 a ha).f3 F2⟩ (fun y hy => by
          have := sLine_ok X P hy
          exact ⟨this.1, by omega⟩)
        rw [f1, bndT_ok (by decide), chk_t A1.rd.1, f2, bndT_ok (by decide), wtv, w1, f3]
        exact ⟨h3, M3, rfl, A3, (F1.tr F2.b).tr F3, R3⟩
end
