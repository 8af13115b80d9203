/-! THE REFERENCE READS A TOKEN -/
section
variable {h : mH} {c : Int} {p L : Int → Int} {M : aM} {f : Int → Int} {len : Int}
/-- the text -/
def RTt (M : aM) (f : Int → Int) (len : Int) : Prop := M 75 8 = len ∧ ∀ i, 0 ≤ i → i < len → M 81 i = f i
def RTx (M : aM) (f : Int → Int) (len : Int) (x : tP Int) : Prop := match x with
  | .inl e => M 75 13 = e.1 ∧ e.1 ≠ 0 ∧ M 75 14 = e.2
  | .inr q => (0 ≤ q ∧ q ≤ len) ∧ M 75 13 = 0 ∧ M 75 10 = xtB f len q ∧ M 75 11 = xtK f len q ∧ M 75 9 = xtE f len q ∧ (xtK f len q = 2 → M 75 12 = xtV f len q)
/-- what reading changes -/
abbrev FR : aM → aM → Prop := Fs [77] 75 [9, 10, 11, 12, 13, 14]
theorem RTt.fr {M' : aM} (T : RTt M f len) (F : FR M M') : RTt M' f len := ⟨by rw [F.2 8 (by decide)]; exact T.1, fun i g0 g1 => by rw [F.1 81 (by decide) (by decide)]; exact T.2 i g0 g1⟩
abbrev FT9 : aM → aM → Prop := Fs [] 75 [9, 10, 11, 12]
theorem FT9.fr {M' : aM} (F : FT9 M M') : FR M M' := F.mono (by decide) (by decide)
theorem s_see (A : At h c p L M) (X : TX f len) (T : RTt M f len) {v : Int} (v0 : 0 ≤ v) : f_Md_see h 75 v = some ((0, if len ≤ v then 0 else f v), h) := by
  have C := A.md
  have hl := X.1
  unfold f_Md_see
  simp only [C]
  rw [chk_t trivial, T.1]
  by_cases g : len ≤ v
  · rw [if_pos g, if_pos g]
  · rw [if_neg g, if_neg g, chk_t trivial, chk_t trivial, chk_t (by omega), T.2 v v0 (by omega)]
theorem s_isLetter (h : mH) (x : Int) : f_Md_isLetter h x = some ((0, b2i (le_ x)), h) := by
  unfold f_Md_isLetter f_Md_isLetter_J16 le_
  by_cases g : x < 97
  · rw [if_pos g, chk_t (by decide), decide_eq_false (show ¬ 97 ≤ x by omega)]; rfl
  · rw [if_neg g, decide_eq_true (show 97 ≤ x by omega)]
    by_cases g2 : 122 < x
    · rw [if_pos g2, chk_t (by decide), decide_eq_false (show ¬ x ≤ 122 by omega)]; rfl
    · rw [if_neg g2, chk_t (by decide), decide_eq_true (show x ≤ 122 by omega)]; rfl
theorem s_isDigit (h : mH) (x : Int) : f_Md_isDigit h x = some ((0, b2i (di_ x)), h) := by
  unfold f_Md_isDigit f_Md_isDigit_J16 di_
  by_cases g : x < 48
  · rw [if_pos g, chk_t (by decide), decide_eq_false (show ¬ 48 ≤ x by omega)]; rfl
  · rw [if_neg g, decide_eq_true (show 48 ≤ x by omega)]
    by_cases g2 : 57 < x
    · rw [if_pos g2, chk_t (by decide), decide_eq_false (show ¬ x ≤ 57 by omega)]; rfl
    · rw [if_neg g2, chk_t (by decide), decide_eq_true (show x ≤ 57 by omega)]; rfl
theorem At.s9 (A : At h c p L M) (i x : Int) (hi : pt 75 i = 0) : At (hput h 75 i x) c p L (mup M 75 i x) := A.fput x (by decide) (by decide) (by decide) hi (by decide)
theorem s_reads0 (A : At h c p L M) (X : TX f len) (T : RTt M f len) {q : Int} (q0 : 0 ≤ q) (q1 : q ≤ len) (h9 : M 75 9 = q) {K : mH → Option mR} : ∃ h' M', f_Md_reads_L0 K 75 1000000 h = K h' ∧ At h' c p L M' ∧ Fs [] 75 [9] M M' ∧ M' 75 9 = xtB f len q := by
  have hl := X.1
  refine loop_r (F := fun n (b : mH) => f_Md_reads_L0 K 75 n b) (P := fun r => ∃ h' M', r = K h' ∧ At h' c p L M' ∧ Fs [] 75 [9] M M' ∧ M' 75 9 = xtB f len q) (fun i b => ∃ M2, At b c p L M2 ∧ Fs [] 75 [9] M M2 ∧ M2 75 9 = q + i ∧ ∀ j, q ≤ j → j < q + i → j < len ∧ ws_ (f j) = true) (len - q).toNat (fun i hi b hb n => ?_) (fun b hb n => ?_) (i := 0) (b := h) ⟨M, A, Fs.rf _ _ _ _, by rw [h9]; omega, fun j g0 g1 => by omega⟩ (by omega) (by omega)
  · obtain ⟨M2, A2, F2, e2, v2⟩ := hb
    have C2 := A2.md
    have T2 := T.fr (F2.mono (by decide) (by decide))
    have go : ws_ (f (q + i)) = true → f_Md_reads_J39 (f_Md_reads_L0 K 75 n) 75 b = f_Md_reads_L0 K 75 n (hput b 75 9 (q + (i + 1 : Nat))) ∧ ∃ M3, At (hput b 75 9 (q + (i + 1 : Nat))) c p L M3 ∧ Fs [] 75 [9] M M3 ∧ M3 75 9 = q + (i + 1 : Nat) ∧ ∀ j, q ≤ j → j < q + (i + 1 : Nat) → j < len ∧ ws_ (f j) = true := fun hw => by
      refine ⟨?_, _, A2.s9 9 _ (by decide +kernel), F2.ps (by decide), mup_eq _ _ _ _, fun j g0 g1 => ?_⟩
      · unfold f_Md_reads_J39
        simp only [C2]
        rw [chk_t trivial, chk_t trivial, e2, wth, w32_id (by omega) (by omega), show q + (i : Int) + 1 = q + ((i + 1 : Nat) : Int) by omega]
      · by_cases e : j = q + i
        · rw [e]; exact ⟨by omega, hw⟩
        · exact v2 j g0 (by omega)
    show (∃ h' M', f_Md_reads_L0 K 75 (n + 1) b = K h' ∧ _) ∨ ∃ b', _ ∧ f_Md_reads_L0 K 75 (n + 1) b = _
    rw [f_Md_reads_L0]
    simp only [C2]
    rw [chk_t trivial, chk_t trivial, T2.1, e2, if_neg (by omega), chk_t trivial, chk_t trivial, chk_t trivial, chk_t (by omega), T2.2 _ (by omega) (by omega)]
    by_cases g1 : f (q + i) = 32
    · right
      obtain ⟨a, b1⟩ := go (by unfold ws_; rw [decide_eq_true g1, Bool.true_or])
      rw [if_pos g1]; exact ⟨_, b1, a⟩
    · rw [if_neg g1, chk_t trivial, chk_t trivial, chk_t trivial, chk_t (by omega)]
      by_cases g2 : f (q + i) = 10
      · right
        obtain ⟨a, b1⟩ := go (by unfold ws_; rw [decide_eq_true g2, Bool.or_true])
        rw [if_pos g2]; exact ⟨_, b1, a⟩
      · left
        rw [if_neg g2]
        refine ⟨b, M2, rfl, A2, F2, ?_⟩
        rw [e2]
        exact RE.uniq (P := ws_) (f := f) (len := len) (p := q) ⟨⟨by omega, v2⟩, Or.inr (by unfold ws_; rw [decide_eq_false g1, decide_eq_false g2]; rfl)⟩ (xtB_RE X q0)
  · obtain ⟨M2, A2, F2, e2, v2⟩ := hb
    have C2 := A2.md
    have T2 := T.fr (F2.mono (by decide) (by decide))
    show ∃ h' M', f_Md_reads_L0 K 75 (n + 1) b = K h' ∧ _
    refine ⟨b, M2, ?_, A2, F2, ?_⟩
    · rw [f_Md_reads_L0]
      simp only [C2]
      rw [chk_t trivial, chk_t trivial, T2.1, e2, if_pos (by omega)]
    · rw [e2]
      exact RE.uniq (P := ws_) (f := f) (len := len) (p := q) ⟨⟨by omega, v2⟩, Or.inl (by omega)⟩ (xtB_RE X q0)
theorem s_reads94 (A : At h c p L M) (X : TX f len) (T : RTt M f len) {q : Int} (q0 : 0 ≤ q) (q1 : q ≤ len) (h9 : M 75 9 = xtB f len q) {K : mH → Option mR} : ∃ h' M', f_Md_reads_L94 K 75 1000000 h = K h' ∧ At h' c p L M' ∧ Fs [] 75 [9] M M' ∧ M' 75 9 = xrL f len q := by
  have hl := X.1
  have hb := xtB_rng X q0 q1
  have hR := xrL_RE X q0 q1
  generalize xtB f len q = z at hb hR h9
  refine loop_r (F := fun n (b : mH) => f_Md_reads_L94 K 75 n b) (P := fun r => ∃ h' M', r = K h' ∧ At h' c p L M' ∧ Fs [] 75 [9] M M' ∧ M' 75 9 = xrL f len q) (fun i b => ∃ M2, At b c p L M2 ∧ Fs [] 75 [9] M M2 ∧ M2 75 9 = z + i ∧ ∀ j, z ≤ j → j < z + i → j < len ∧ le_ (f j) = true) (len - z).toNat (fun i hi b hb n => ?_) (fun b hb n => ?_) (i := 0) (b := h) ⟨M, A, Fs.rf _ _ _ _, by rw [h9]; omega, fun j g0 g1 => by omega⟩ (by omega) (by omega)
  · obtain ⟨M2, A2, F2, e2, v2⟩ := hb
    have C2 := A2.md
    have T2 := T.fr (F2.mono (by decide) (by decide))
    show (∃ h' M', f_Md_reads_L94 K 75 (n + 1) b = K h' ∧ _) ∨ ∃ b', _ ∧ f_Md_reads_L94 K 75 (n + 1) b = _
    rw [f_Md_reads_L94]
    simp only [C2]
    rw [chk_t trivial, chk_t trivial, e2, s_see A2 X T2 (by omega), bndT_ok (by decide), s_isLetter, bndT_ok (by decide), if_neg (show ¬ len ≤ z + (i : Int) by omega)]
    cases g : le_ (f (z + i))
    · left
      rw [if_pos (show b2i false = 0 from rfl)]
      refine ⟨b, M2, rfl, A2, F2, ?_⟩
      rw [e2]
      exact RE.uniq (P := le_) (f := f) (len := len) (p := z) ⟨⟨by omega, v2⟩, Or.inr g⟩ hR
    · right
      rw [if_neg (show ¬ b2i true = 0 by decide)]
      simp only [C2]
      rw [chk_t trivial, chk_t trivial, e2, wth, w32_id (by omega) (by omega), show z + (i : Int) + 1 = z + ((i + 1 : Nat) : Int) by omega]
      refine ⟨hput b 75 9 (z + ((i + 1 : Nat) : Int)), ⟨_, A2.s9 9 _ (by decide +kernel), F2.ps (by decide), mup_eq _ _ _ _, fun j g0 g1 => ?_⟩, rfl⟩
      by_cases e : j = z + i
      · rw [e]; exact ⟨by omega, g⟩
      · exact v2 j g0 (by omega)
  · obtain ⟨M2, A2, F2, e2, v2⟩ := hb
    have C2 := A2.md
    have T2 := T.fr (F2.mono (by decide) (by decide))
    show ∃ h' M', f_Md_reads_L94 K 75 (n + 1) b = K h' ∧ _
    refine ⟨b, M2, ?_, A2, F2, ?_⟩
    · rw [f_Md_reads_L94]
      simp only [C2]
      rw [chk_t trivial, chk_t trivial, e2, s_see A2 X T2 (by omega), bndT_ok (by decide), s_isLetter, bndT_ok (by decide), if_pos (show len ≤ z + (((len - z).toNat : Nat) : Int) by omega), if_pos (show b2i (le_ 0) = 0 by decide)]
    · rw [e2]
      exact RE.uniq (P := le_) (f := f) (len := len) (p := z) ⟨⟨by omega, v2⟩, Or.inl (by omega)⟩ hR
theorem s_reads141 (A : At h c p L M) (X : TX f len) (T : RTt M f len) {q : Int} (q0 : 0 ≤ q) (q1 : q ≤ len) (h9 : M 75 9 = xtB f len q) (h10 : M 75 10 = xtB f len q) (h12 : M 75 12 = 0) {K : mH → Option mR} : ∃ h' M', f_Md_reads_L141 K 75 1000000 h = K h' ∧ At h' c p L M' ∧ Fs [] 75 [9, 12] M M' ∧ M' 75 9 = xrD f len q ∧ (xrD f len q - xtB f len q ≤ 3 → M' 75 12 = xtV f len q) := by
  have hl := X.1
  have hb := xtB_rng X q0 q1
  have hR := xrD_RE X q0 q1
  unfold xtV
  generalize xtB f len q = z at hb hR h9 h10
  refine loop_r (F := fun n (b : mH) => f_Md_reads_L141 K 75 n b) (P := fun r => ∃ h' M', r = K h' ∧ At h' c p L M' ∧ Fs [] 75 [9, 12] M M' ∧ M' 75 9 = xrD f len q ∧ (xrD f len q - z ≤ 3 → M' 75 12 = dv_ f z (xrD f len q - z).toNat)) (fun i b => ∃ M2, At b c p L M2 ∧ Fs [] 75 [9, 12] M M2 ∧ M2 75 9 = z + i ∧ M2 75 12 = dv_ f z (if i ≤ 3 then i else 3) ∧ ∀ j, z ≤ j → j < z + i → j < len ∧ di_ (f j) = true) (len - z).toNat (fun i hi b hb n => ?_) (fun b hb n => ?_) (i := 0) (b := h) ⟨M, A, Fs.rf _ _ _ _, by rw [h9]; omega, h12, fun j g0 g1 => by omega⟩ (by omega) (by omega)
  · obtain ⟨M2, A2, F2, e2, e3, v2⟩ := hb
    have C2 := A2.md
    have T2 := T.fr (F2.mono (by decide) (by decide))
    have e10 : M2 75 10 = z := by rw [F2.2 10 (by decide)]; exact h10
    show (∃ h' M', f_Md_reads_L141 K 75 (n + 1) b = K h' ∧ _) ∨ ∃ b', _ ∧ f_Md_reads_L141 K 75 (n + 1) b = _
    rw [f_Md_reads_L141]
    simp only [C2]
    rw [chk_t trivial, chk_t trivial, e2, s_see A2 X T2 (by omega), bndT_ok (by decide), s_isDigit, bndT_ok (by decide), if_neg (show ¬ len ≤ z + (i : Int) by omega)]
    cases g : di_ (f (z + i))
    · left
      rw [if_pos (show b2i false = 0 from rfl)]
      have er := RE.uniq (P := di_) (f := f) (len := len) (p := z) ⟨⟨by omega, v2⟩, Or.inr g⟩ hR
      refine ⟨b, M2, rfl, A2, F2, ?_, fun h3 => ?_⟩
      · rw [e2]; exact er
      · rw [e3, ← er, if_pos (by omega), show (z + (i : Int) - z).toNat = i by omega]
    · right
      rw [if_neg (show ¬ b2i true = 0 by decide)]
      simp only [C2]
      rw [chk_t trivial, chk_t trivial, e2, e10, w32_id (x := z + (i : Int) - z) (by omega) (by omega)]
      have fin : ∀ y : Int, y = dv_ f z (if i + 1 ≤ 3 then i + 1 else 3) → ∃ b', (∃ M2, At b' c p L M2 ∧ Fs [] 75 [9, 12] M M2 ∧ M2 75 9 = z + ((i + 1 : Nat) : Int) ∧ M2 75 12 = dv_ f z (if i + 1 ≤ 3 then i + 1 else 3) ∧ ∀ j, z ≤ j → j < z + ((i + 1 : Nat) : Int) → j < len ∧ di_ (f j) = true) ∧ f_Md_reads_J196 (f_Md_reads_L141 K 75 n) 75 75 y b = f_Md_reads_L141 K 75 n b' := fun y hy => by
        have A3 := A2.s9 12 y (by decide +kernel)
        have C3 := A3.md
        refine ⟨hput (hput b 75 12 y) 75 9 (z + ((i + 1 : Nat) : Int)), ⟨_, A3.s9 9 _ (by decide +kernel), (F2.ps (by decide)).ps (by decide), mup_eq _ _ _ _, by rw [mup_ne (Or.inr (by decide)), mup_eq, hy], fun j g0 g1 => ?_⟩, ?_⟩
        · by_cases e : j = z + i
          · rw [e]; exact ⟨by omega, g⟩
          · exact v2 j g0 (by omega)
        · unfold f_Md_reads_J196
          rw [chk_t (MH.of A2).T, wth]
          simp only [C3]
          rw [chk_t trivial, chk_t trivial, mup_ne (Or.inr (by decide)), e2, wth, w32_id (by omega) (by omega), show z + (i : Int) + 1 = z + ((i + 1 : Nat) : Int) by omega]
      by_cases g3 : (3 : Int) ≤ z + (i : Int) - z
      · rw [if_pos g3, chk_t trivial]
        exact fin _ (by
          rw [e3, if_neg (show ¬ i + 1 ≤ 3 by omega)]
          by_cases q : i ≤ 3
          · rw [if_pos q, show i = 3 by omega]
          · rw [if_neg q])
      · have d1 := dv_rng (f := f) (b := z) (n := i) (by omega) (fun j g0 g1 => (v2 j g0 g1).2)
        have dg : 48 ≤ f (z + i) ∧ f (z + i) ≤ 57 := by
          unfold di_ at g
          rw [Bool.and_eq_true] at g
          exact ⟨of_decide_eq_true g.1, of_decide_eq_true g.2⟩
        have e3 : M2 75 12 = dv_ f z i := by rw [e3, if_pos (by omega)]
        rw [if_neg g3, chk_t trivial, chk_t trivial, chk_t trivial, chk_t trivial, chk_t (by omega), e3, T2.2 _ (by omega) (by omega), w32_id (x := 10 * dv_ f z i) (by omega) (by omega), w32_id (x := 10 * dv_ f z i + f (z + i)) (by omega) (by omega), w32_id (by omega) (by omega)]
        exact fin _ (by rw [if_pos (by omega)]; rfl)
  · obtain ⟨M2, A2, F2, e2, e3, v2⟩ := hb
    have C2 := A2.md
    have T2 := T.fr (F2.mono (by decide) (by decide))
    show ∃ h' M', f_Md_reads_L141 K 75 (n + 1) b = K h' ∧ _
    have er := RE.uniq (P := di_) (f := f) (len := len) (p := z) ⟨⟨by omega, v2⟩, Or.inl (by omega)⟩ hR
    refine ⟨b, M2, ?_, A2, F2, ?_, fun h3 => ?_⟩
    · rw [f_Md_reads_L141]
      simp only [C2]
      rw [chk_t trivial, chk_t trivial, e2, s_see A2 X T2 (by omega), bndT_ok (by decide), s_isDigit, bndT_ok (by decide), if_pos (show len ≤ z + (((len - z).toNat : Nat) : Int) by omega), if_pos (show b2i (di_ 0) = 0 by decide)]
    · rw [e2]; exact er
    · rw [e3, ← er, if_pos (by omega), show (z + (((len - z).toNat : Nat) : Int) - z).toNat = (len - z).toNat by omega]
theorem s_reads (A : At h c p L M) (X : TX f len) (T : RTt M f len) {q : Int} (hq : 0 ≤ q ∧ q ≤ len) (h9 : M 75 9 = q) (h13 : M 75 13 = 0) : ∃ h' M', f_Md_reads h 75 = some ((3, 0), h') ∧ At h' c p L M' ∧ FT9 M M' ∧ RTx M' f len (.inr q) := by
  have hl := X.1
  have hb := xtB_rng X hq.1 hq.2
  unfold f_Md_reads
  obtain ⟨h1, M1, f1, A1, F1, e1⟩ := s_reads0 A X T hq.1 hq.2 h9 (K := fun h1 => f_Md_reads_J52 75 h1)
  rw [f1]
  have F1' : FT9 M M1 := F1.mono (by decide) (by decide)
  have A2 := A1.s9 10 (xtB f len q) (by decide +kernel)
  have F2 : FT9 M (mup M1 75 10 (xtB f len q)) := F1'.ps (by decide)
  have C1 := A1.md
  have C2 := A2.md
  have T2 := T.fr F2.fr
  have e2 : mup M1 75 10 (xtB f len q) 75 9 = xtB f len q := by rw [mup_ne (Or.inr (by decide))]; exact e1
  have e3 : mup M1 75 10 (xtB f len q) 75 10 = xtB f len q := mup_eq _ _ _ _
  unfold f_Md_reads_J52
  simp only [C1]
  rw [chk_t trivial, chk_t trivial, e1, wth]
  simp only [C2]
  rw [chk_t trivial, chk_t trivial, e2, T2.1]
  generalize mup M1 75 10 (xtB f len q) = N at A2 F2 C2 T2 e2 e3
  have n13 : N 75 13 = 0 := by rw [F2.2 13 (by decide)]; exact h13
  have fin : ∀ (h3 : mH) (M3 : aM) (k : Int), At h3 c p L M3 → FT9 M M3 → M3 75 9 = xtE f len q → M3 75 10 = xtB f len q → k = xtK f len q → (k = 2 → M3 75 12 = xtV f len q) → At (hput h3 75 11 k) c p L (mup M3 75 11 k) ∧ FT9 M (mup M3 75 11 k) ∧ RTx (mup M3 75 11 k) f len (.inr q) := fun h3 M3 k A3 F3 q9 q10 hk q12 => by
    refine ⟨A3.s9 11 k (by decide +kernel), F3.ps (by decide), hq, ?_, ?_, ?_, ?_, fun e => ?_⟩
    · rw [mup_ne (Or.inr (by decide)), F3.2 13 (by decide)]; exact h13
    · rw [mup_ne (Or.inr (by decide))]; exact q10
    · rw [mup_eq]; exact hk
    · rw [mup_ne (Or.inr (by decide))]; exact q9
    · rw [mup_ne (Or.inr (by decide))]; exact q12 (hk.trans e)
  by_cases g : xtB f len q < len
  · rw [if_pos g, chk_t trivial, chk_t trivial, chk_t trivial, chk_t (by omega), T2.2 _ (by omega) g, wtv, s_isLetter, bndT_ok (by decide)]
    cases g1 : le_ (f (xtB f len q))
    · rw [if_pos (show b2i false = 0 from rfl), s_isDigit, bndT_ok (by decide)]
      cases g2 : di_ (f (xtB f len q))
      · rw [if_pos (show b2i false = 0 from rfl)]
        have j249 : ∀ k : Int, k = xtK f len q → k ≠ 2 → ∃ h' M', f_Md_reads_J249 75 75 k (hput h1 75 10 (xtB f len q)) = some ((3, 0), h') ∧ At h' c p L M' ∧ FT9 M M' ∧ RTx M' f len (.inr q) := fun k hk hk2 => by
          have A3 := A2.s9 11 k (by decide +kernel)
          have C3 := A3.md
          have A4 := A3.s9 9 (xtB f len q + 1) (by decide +kernel)
          unfold f_Md_reads_J249
          rw [chk_t (MH.of A2).T, wth]
          simp only [C3]
          rw [chk_t trivial, chk_t trivial, mup_ne (Or.inr (by decide)), e2, wth, w32_id (by omega) (by omega)]
          refine ⟨_, _, rfl, A4, (F2.ps (by decide)).ps (by decide), hq, ?_, ?_, ?_, ?_, fun e => absurd (hk.trans e) hk2⟩
          · rw [mup_ne (Or.inr (by decide)), mup_ne (Or.inr (by decide))]; exact n13
          · rw [mup_ne (Or.inr (by decide)), mup_ne (Or.inr (by decide))]; exact e3
          · rw [mup_ne (Or.inr (by decide)), mup_eq]; exact hk
          · rw [mup_eq]; unfold xtE; rw [if_neg (by omega), g1, if_neg (by decide), g2, if_neg (by decide)]
        by_cases g3 : f (xtB f len q) = 59
        · rw [if_pos g3]
          exact j249 3 (by unfold xtK; rw [if_neg (by omega), g1, if_neg (by decide), g2, if_neg (by decide), if_pos g3]) (by decide)
        · rw [if_neg g3]
          exact j249 4 (by unfold xtK; rw [if_neg (by omega), g1, if_neg (by decide), g2, if_neg (by decide), if_neg g3]) (by decide)
      · rw [if_neg (show ¬ b2i true = 0 by decide)]
        have A3 := A2.s9 12 0 (by decide +kernel)
        have F3 : FT9 M (mup N 75 12 0) := F2.ps (by decide)
        obtain ⟨h4, M4, f4, A4, F4, e4, v4⟩ := s_reads141 A3 X (T.fr F3.fr) hq.1 hq.2 (by rw [mup_ne (Or.inr (by decide))]; exact e2) (by rw [mup_ne (Or.inr (by decide))]; exact e3) (mup_eq _ _ _ _) (K := fun h8 => chk (hpT h8 75 = 12) (chk (hpT h8 75 = 12) ((if w32 ((hpV h8 75 9) - (hpV h8 75 10)) ≤ 3 then f_Md_reads_J231 75 2 h8 else f_Md_reads_J231 75 4 h8))))
        have C4 := A4.md
        have F4' : FT9 M M4 := F3.tr (F4.mono (by decide) (by decide))
        have q10 : M4 75 10 = xtB f len q := by rw [F4.2 10 (by decide), mup_ne (Or.inr (by decide))]; exact e3
        have hR := xrD_RE X hq.1 hq.2
        have hRe := hR.end hb.2
        have hR1 := hR.1.1
        rw [chk_t (MH.of A2).T, wth, f4]
        simp only [C4]
        rw [chk_t trivial, chk_t trivial, e4, q10, w32_id (by omega) (by omega)]
        have eE : xtE f len q = xrD f len q := by unfold xtE; rw [if_neg (by omega), g1, if_neg (by decide), g2, if_pos rfl]
        unfold f_Md_reads_J231
        rw [chk_t (MH.of A4).T, chk_t (MH.of A4).T]
        by_cases g3 : xrD f len q - xtB f len q ≤ 3
        · rw [if_pos g3, wth]
          obtain ⟨a, b, d⟩ := fin h4 M4 2 A4 F4' (by rw [eE]; exact e4) q10 (by unfold xtK; rw [if_neg (by omega), g1, if_neg (by decide), g2, if_pos rfl, if_pos g3]) (fun _ => v4 g3)
          exact ⟨_, _, rfl, a, b, d⟩
        · rw [if_neg g3, wth]
          obtain ⟨a, b, d⟩ := fin h4 M4 4 A4 F4' (by rw [eE]; exact e4) q10 (by unfold xtK; rw [if_neg (by omega), g1, if_neg (by decide), g2, if_pos rfl, if_neg g3]) (fun e => absurd e (by decide))
          exact ⟨_, _, rfl, a, b, d⟩
    · rw [if_neg (show ¬ b2i true = 0 by decide)]
      obtain ⟨h4, M4, f4, A4, F4, e4⟩ := s_reads94 A2 X T2 hq.1 hq.2 e2 (K := fun h9 => chk (hpT h9 75 = 12) (wth (hput h9 75 11 1) (fun h10 => some ((3, 0), h10))))
      have F4' : FT9 M M4 := F2.tr (F4.mono (by decide) (by decide))
      rw [f4, chk_t (MH.of A4).T, wth]
      obtain ⟨a, b, d⟩ := fin h4 M4 1 A4 F4' (by unfold xtE; rw [if_neg (by omega), g1, if_pos rfl]; exact e4) (by rw [F4.2 10 (by decide)]; exact e3) (by unfold xtK; rw [if_neg (by omega), g1, if_pos rfl]) (fun e => absurd e (by decide))
      exact ⟨_, _, rfl, a, b, d⟩
  · rw [if_neg g, chk_t trivial, wth]
    obtain ⟨a, b, d⟩ := fin _ N 0 A2 F2 (by unfold xtE; rw [if_pos (by omega)]; exact e2) e3 (by unfold xtK; rw [if_pos (by omega)]) (fun e => absurd e (by decide))
    exact ⟨_, _, rfl, a, b, d⟩
end
