/-! THE CLASS'S PARTS OF A LINE -/
section
variable {h : mH} {c : Int} {p L : Int → Int} {M : aM} {f : Int → Int} {len : Int}
theorem s_cTok60 (A : At h c p L M) (X : TX f len) (T : CTt M f len) {q : Int} (hq : 0 ≤ q ∧ q ≤ len) (h2 : M 3 2 = xtB f len q) (h6 : M 3 6 = 0) (h7 : M 3 7 = -1) : ∃ h' M', f_Reader_readToken_J60 3 h = some ((3, 0), h') ∧ At h' c p L M' ∧ FC3 M M' ∧ CTx M' f len (.inr q) := by
  have hl := X.1
  have hb := xtB_rng X hq.1 hq.2
  have A1 := A.s3 3 (xtB f len q) (by decide +kernel)
  have A2 := A1.s3 5 0 (by decide +kernel)
  have C := A.rd
  have C1 := A1.rd
  have C2 := A2.rd
  have N2 := A2.nb
  have F2 : FC3 M (mup (mup M 3 3 (xtB f len q)) 3 5 0) := ((Fs.rf _ _ _ _).ps (by decide)).ps (by decide)
  have T2 := T.fr F2
  have e2 : mup (mup M 3 3 (xtB f len q)) 3 5 0 3 2 = xtB f len q := by rw [mup_ne (Or.inr (by decide)), mup_ne (Or.inr (by decide))]; exact h2
  have e3 : mup (mup M 3 3 (xtB f len q)) 3 5 0 3 3 = xtB f len q := by rw [mup_ne (Or.inr (by decide)), mup_eq]
  have e5 : mup (mup M 3 3 (xtB f len q)) 3 5 0 3 5 = 0 := mup_eq _ _ _ _
  have e6 : mup (mup M 3 3 (xtB f len q)) 3 5 0 3 6 = 0 := by rw [mup_ne (Or.inr (by decide)), mup_ne (Or.inr (by decide))]; exact h6
  have e7 : mup (mup M 3 3 (xtB f len q)) 3 5 0 3 7 = -1 := by rw [mup_ne (Or.inr (by decide)), mup_ne (Or.inr (by decide))]; exact h7
  unfold f_Reader_readToken_J60
  simp only [C]
  rw [chk_t trivial, chk_t trivial, h2, wth]
  simp only [C1]
  rw [chk_t trivial, wth]
  simp only [C2]
  rw [T2.1]
  simp only [N2]
  rw [chk_t trivial, chk_t trivial, e2, T2.2.1]
  generalize hH : hput (hput h 3 3 (xtB f len q)) 3 5 0 = H at A2 C2 N2
  generalize mup (mup M 3 3 (xtB f len q)) 3 5 0 = N at A2 C2 N2 F2 T2 e2 e3 e5 e6 e7
  -- the token is told
  have fin : ∀ (h3 : mH) (M3 : aM) (k : Int), At h3 c p L M3 → Fs [] 3 [2, 5] N M3 → xtK f len q ≠ 4 → k = ckK (xtK f len q) → M3 3 2 = xtE f len q → (xtK f len q = 2 → M3 3 5 = xtV f len q) → At (hput h3 3 4 k) c p L (mup M3 3 4 k) ∧ FC3 M (mup M3 3 4 k) ∧ CTx (mup M3 3 4 k) f len (.inr q) := fun h3 M3 k A3 F3 hk hk2 q2 q5 => by
    refine ⟨A3.s3 4 k (by decide +kernel), Fs.ps (F2.tr (F3.mono (by decide) (by decide))) (by decide), hq, fun e => absurd e hk, fun _ => ⟨?_, ?_, ?_, ?_, ?_, fun e => ?_⟩⟩
    · rw [mup_ne (Or.inr (by decide)), F3.2 6 (by decide)]; exact e6
    · rw [mup_ne (Or.inr (by decide)), F3.2 7 (by decide)]; exact e7
    · rw [mup_ne (Or.inr (by decide)), F3.2 3 (by decide)]; exact e3
    · rw [mup_eq]; exact hk2
    · rw [mup_ne (Or.inr (by decide))]; exact q2
    · rw [mup_ne (Or.inr (by decide))]; exact q5 e
  have s3_ : ∀ M3, Fs [] 3 [2, 5] N M3 → M3 3 3 = xtB f len q ∧ M3 3 1 = len := fun M3 F3 => ⟨by rw [F3.2 3 (by decide)]; exact e3, by rw [F3.2 1 (by decide)]; exact T2.2.1⟩
  have badk : ∀ (h3 : mH) (M3 : aM) (v1 : Int), At h3 c p L M3 → Fs [] 3 [2, 5] N M3 → v1 ≠ 59 → xtK f len q = 4 → ∃ h' M', f_Reader_readToken_J279 3 v1 h3 = some ((3, 0), h') ∧ At h' c p L M' ∧ FC3 M M' ∧ CTx M' f len (.inr q) := fun h3 M3 v1 A3 F3 hv hk => by
    have A4 := A3.s3 4 1 (by decide +kernel)
    have A5 := A4.s3 6 1 (by decide +kernel)
    have C5 := A5.rd
    have A6 := A5.s3 7 (xtB f len q) (by decide +kernel)
    unfold f_Reader_readToken_J279
    rw [if_neg hv, chk_t A3.rd.1, wth, chk_t A4.rd.1, wth]
    simp only [C5]
    rw [chk_t trivial, chk_t trivial, mup_ne (Or.inr (by decide)), mup_ne (Or.inr (by decide)), (s3_ M3 F3).1, wth]
    refine ⟨_, _, rfl, A6, ((Fs.ps (F2.tr (F3.mono (by decide) (by decide))) (by decide)).ps (by decide)).ps (by decide), hq, fun _ => ⟨?_, ?_⟩, fun e => absurd hk e⟩
    · rw [mup_ne (Or.inr (by decide)), mup_eq]
    · rw [mup_eq]
  have j115 : ∀ v1 w : Int, f_Reader_readToken_J115 3 v1 w H = if w = 0 then f_Reader_readToken_L141 (fun h1 => f_Reader_readToken_J216 3 v1 w h1) 3 48 57 1000000 H else f_Reader_readToken_L141 (fun h1 => f_Reader_readToken_J216 3 v1 w h1) 3 97 122 1000000 H := fun v1 w => by
    unfold f_Reader_readToken_J115 f_Reader_readToken_J127 f_Reader_readToken_J139
    by_cases g : w = 0
    · rw [if_pos g, if_pos g, if_pos g]
    · rw [if_neg g, if_neg g, if_neg g]
  by_cases g : len ≤ xtB f len q
  · rw [if_pos g]
    obtain ⟨h3, M3, f3, A3, F3, q3, _⟩ := s_crun A2 X T2 (z := xtB f len q) (by omega) hb.2 e2 e5 (lo := 48) (hi := 57) (r := xtB f len q) (P := di_) (fun x _ _ => by unfold di_; rw [Bool.and_eq_true, decide_eq_true_iff, decide_eq_true_iff]) (by decide) (by decide) ⟨⟨Int.le_refl _, fun i g0 g1 => by omega⟩, Or.inl g⟩ (K := fun h1 => f_Reader_readToken_J216 3 0 0 h1)
    unfold f_Reader_readToken_J97 f_Reader_readToken_J114
    rw [if_pos (by decide), j115, if_pos rfl, f3]
    unfold f_Reader_readToken_J216
    have C3 := A3.rd
    simp only [C3]
    rw [chk_t trivial, chk_t trivial, (s3_ M3 F3).1, (s3_ M3 F3).2, if_neg (by omega), chk_t trivial, wth]
    have hk : xtK f len q = 0 := by unfold xtK; rw [if_pos g]
    obtain ⟨a, b, d⟩ := fin h3 M3 0 A3 F3 (by rw [hk]; decide) (by rw [hk]; decide) (by rw [q3]; unfold xtE; rw [if_pos g]) (fun e => absurd (hk.symm.trans e) (by decide))
    exact ⟨_, _, rfl, a, b, d⟩
  · have fr := X.2 (xtB f len q) (by omega) (by omega)
    have wd := w8_wd fr.1 fr.2
    rw [if_neg g, chk_t trivial, chk_t trivial, chk_t trivial, chk_t (by omega), T2.2.2 _ (by omega) (by omega)]
    cases g1 : le_ (f (xtB f len q))
    · have notl : ¬ (97 ≤ f (xtB f len q) ∧ f (xtB f len q) ≤ 122) := fun k => by
        unfold le_ at g1
        rw [decide_eq_true k.1, decide_eq_true k.2] at g1; exact absurd g1 (by decide)
      have j97 : f_Reader_readToken_J97 3 (w8 (f (xtB f len q))) H = f_Reader_readToken_L141 (fun h1 => f_Reader_readToken_J216 3 (w8 (f (xtB f len q))) 0 h1) 3 48 57 1000000 H := by
        unfold f_Reader_readToken_J97 f_Reader_readToken_J114
        rw [j115, if_pos rfl]
        by_cases k : w8 (f (xtB f len q)) < 97
        · rw [if_pos k]
        · rw [if_neg k, if_pos (by omega)]
      have hR := xrD_RE X hq.1 hq.2
      have hRe := hR.end hb.2
      have hR1 := hR.1.1
      obtain ⟨h3, M3, f3, A3, F3, q3, q5⟩ := s_crun A2 X T2 (z := xtB f len q) (by omega) hb.2 e2 e5 (lo := 48) (hi := 57) (r := xrD f len q) (P := di_) (fun x _ _ => by unfold di_; rw [Bool.and_eq_true, decide_eq_true_iff, decide_eq_true_iff]) (by decide) (by decide) hR (K := fun h1 => f_Reader_readToken_J216 3 (w8 (f (xtB f len q))) 0 h1)
      have C3 := A3.rd
      rw [j97, f3]
      unfold f_Reader_readToken_J216
      simp only [C3]
      rw [chk_t trivial, chk_t trivial, (s3_ M3 F3).1, (s3_ M3 F3).2, if_pos (show xtB f len q < len by omega), q3]
      simp only [if_true]
      rw [chk_t trivial, chk_t trivial]
      cases g2 : di_ (f (xtB f len q))
      · have er : xrD f len q = xtB f len q := RE.uniq hR ⟨⟨Int.le_refl _, fun i g0 g1 => by omega⟩, Or.inr g2⟩
        rw [if_pos (by omega)]
        by_cases g3 : f (xtB f len q) = 59
        · have hk : xtK f len q = 3 := by unfold xtK; rw [if_neg g, g1, if_neg (by decide), g2, if_neg (by decide), if_pos g3]
          have A4 := A3.s3 4 4 (by decide +kernel)
          have C4 := A4.rd
          have A5 := A4.s3 2 (xtB f len q + 1) (by decide +kernel)
          unfold f_Reader_readToken_J279
          rw [if_pos (by omega), chk_t A3.rd.1, wth]
          simp only [C4]
          rw [chk_t trivial, chk_t trivial, mup_ne (Or.inr (by decide)), q3, er, w32_id (by omega) (by omega), wth]
          refine ⟨_, _, rfl, A5, (Fs.ps (F2.tr (F3.mono (by decide) (by decide))) (by decide)).ps (by decide), hq, fun e => absurd (hk.symm.trans e) (by decide), fun _ => ⟨?_, ?_, ?_, ?_, ?_, fun e => absurd (hk.symm.trans e) (by decide)⟩⟩
          · rw [mup_ne (Or.inr (by decide)), mup_ne (Or.inr (by decide)), F3.2 6 (by decide)]; exact e6
          · rw [mup_ne (Or.inr (by decide)), mup_ne (Or.inr (by decide)), F3.2 7 (by decide)]; exact e7
          · rw [mup_ne (Or.inr (by decide)), mup_ne (Or.inr (by decide))]; exact (s3_ M3 F3).1
          · rw [mup_ne (Or.inr (by decide)), mup_eq, hk]; rfl
          · rw [mup_eq]; unfold xtE; rw [if_neg g, g1, if_neg (by decide), g2, if_neg (by decide)]
        · have hk : xtK f len q = 4 := by unfold xtK; rw [if_neg g, g1, if_neg (by decide), g2, if_neg (by decide), if_neg g3]
          exact badk h3 M3 _ A3 F3 (by omega) hk
      · have dg : 48 ≤ f (xtB f len q) ∧ f (xtB f len q) ≤ 57 := by
          unfold di_ at g2
          rw [Bool.and_eq_true] at g2
          exact ⟨of_decide_eq_true g2.1, of_decide_eq_true g2.2⟩
        have h1 := hR.one (by omega) g2
        have eE : xtE f len q = xrD f len q := by unfold xtE; rw [if_neg g, g1, if_neg (by decide), g2, if_pos rfl]
        rw [if_neg (by omega), chk_t trivial, chk_t trivial, w32_id (by omega) (by omega)]
        by_cases g3 : 3 < xrD f len q - xtB f len q
        · rw [if_pos g3]
          have hk : xtK f len q = 4 := by unfold xtK; rw [if_neg g, g1, if_neg (by decide), g2, if_pos rfl, if_neg (by omega)]
          exact badk h3 M3 _ A3 F3 (by omega) hk
        · rw [if_neg g3, chk_t trivial, wth]
          have hk : xtK f len q = 2 := by unfold xtK; rw [if_neg g, g1, if_neg (by decide), g2, if_pos rfl, if_pos (by omega)]
          obtain ⟨a, b, d⟩ := fin h3 M3 3 A3 F3 (by rw [hk]; decide) (by rw [hk]; decide) (by rw [eE]; exact q3) (fun _ => q5 rfl rfl (by omega))
          exact ⟨_, _, rfl, a, b, d⟩
    · have isl : 97 ≤ f (xtB f len q) ∧ f (xtB f len q) ≤ 122 := by
        unfold le_ at g1
        rw [Bool.and_eq_true] at g1
        exact ⟨of_decide_eq_true g1.1, of_decide_eq_true g1.2⟩
      have hR := xrL_RE X hq.1 hq.2
      obtain ⟨h3, M3, f3, A3, F3, q3, _⟩ := s_crun A2 X T2 (z := xtB f len q) (by omega) hb.2 e2 e5 (lo := 97) (hi := 122) (r := xrL f len q) (P := le_) (fun x _ _ => by unfold le_; rw [Bool.and_eq_true, decide_eq_true_iff, decide_eq_true_iff]) (by decide) (by decide) hR (K := fun h1 => f_Reader_readToken_J216 3 (w8 (f (xtB f len q))) 1 h1)
      have C3 := A3.rd
      have hk : xtK f len q = 1 := by unfold xtK; rw [if_neg g, g1, if_pos rfl]
      unfold f_Reader_readToken_J97
      rw [if_neg (by omega), if_neg (by omega), j115, if_neg (by decide), f3]
      unfold f_Reader_readToken_J216
      simp only [C3]
      rw [chk_t trivial, chk_t trivial, (s3_ M3 F3).1, (s3_ M3 F3).2, if_pos (show xtB f len q < len by omega)]
      obtain ⟨a, b, d⟩ := fin h3 M3 2 A3 F3 (by rw [hk]; decide) (by rw [hk]; decide) (by rw [q3]; unfold xtE; rw [if_neg g, g1, if_pos rfl]) (fun e => absurd (hk.symm.trans e) (by decide))
      refine ⟨_, _, ?_, a, b, d⟩
      rw [if_neg (by decide), chk_t trivial, wth]
theorem s_cToken (A : At h c p L M) (X : TX f len) (T : CTt M f len) {x : tP Int} (R : CPx M f len x) : ∃ h' M', f_Reader_readToken h 3 = some ((3, 0), h') ∧ At h' c p L M' ∧ FC3 M M' ∧ CTx M' f len x := by
  have C := A.rd
  unfold f_Reader_readToken
  simp only [C]
  rw [chk_t trivial]
  rcases tP_cases x with ⟨e, rfl⟩ | ⟨q, rfl⟩
  · have g : M 3 6 ≠ 0 := by rw [R.1]; exact R.2.1
    rw [if_neg g]
    exact ⟨h, M, rfl, A, Fs.rf _ _ _ _, R⟩
  · obtain ⟨hq, r6, r7, r2⟩ := R
    obtain ⟨h1, M1, f1, A1, F1, e1⟩ := s_cws A X T hq.1 hq.2 r2 (K := fun h1 => f_Reader_readToken_J60 3 h1)
    have F1' : FC3 M M1 := F1.mono (by decide) (by decide)
    obtain ⟨h2, M2, f2, A2, F2, R2⟩ := s_cTok60 A1 X (T.fr F1') hq e1 (by rw [F1.2 6 (by decide)]; exact r6) (by rw [F1.2 7 (by decide)]; exact r7)
    rw [if_pos r6, f1, f2]
    exact ⟨h2, M2, rfl, A2, F1'.tr F2, R2⟩
end
