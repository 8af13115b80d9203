/-! THE REFERENCE'S PARTS OF A LINE -/
def iW (f : Int → Int) (len : Int) (x : tP Int) (n : Nat) : Bool := match x with
  | .inl _ => false
  | .inr q => isW f len q n
def nx_ (y : tP (Int × Int)) : tP Int := bd y fun a => .inr a.2
def nv_ (y : tP (Int × Int)) (lo : Int) : Int := match y with
  | .inl _ => lo
  | .inr a => a.1
def te_ (f : Int → Int) (len : Int) (x : tP Int) : tP Int := bd x fun q => .inr (xtE f len q)
section
variable {h : mH} {c : Int} {p L : Int → Int} {M : aM} {f : Int → Int} {len : Int}
theorem RTx.bad {x : tP Int} (R : RTx M f len x) : (∃ e, x = .inl e ∧ M 75 13 ≠ 0) ∨ ∃ q, x = .inr q ∧ M 75 13 = 0 ∧ 0 ≤ q ∧ q ≤ len := by
  match x, R with
  | .inl e, R => exact Or.inl ⟨e, rfl, by rw [R.1]; exact R.2.1⟩
  | .inr q, R => exact Or.inr ⟨q, rfl, R.2.1, R.1.1, R.1.2⟩
theorem s_blames (A : At h c p L M) {x : tP Int} (R : RTx M f len x) {k : Int} (hk : k ≠ 0) : ∃ h' M', f_Md_blames h 75 k = some ((3, 0), h') ∧ At h' c p L M' ∧ Fs [] 75 [13, 14] M M' ∧ RTx M' f len (bd x fun q => er f len q k) ∧ M' 75 13 ≠ 0 := by
  have C := A.md
  unfold f_Md_blames
  simp only [C]
  rw [chk_t trivial]
  match x, R with
  | .inl e, R =>
    have g : M 75 13 ≠ 0 := by rw [R.1]; exact R.2.1
    rw [if_neg g]
    exact ⟨h, M, rfl, A, Fs.rf _ _ _ _, R, g⟩
  | .inr q, R =>
    obtain ⟨hq, r13, r10, r11, r9, r12⟩ := R
    rw [if_pos r13, chk_t trivial, r11]
    have j22 : ∀ y : Int, y ≠ 0 → y = (if xtK f len q = 4 then 1 else k) → ∃ h' M', f_Md_blames_J22 75 75 y h = some ((3, 0), h') ∧ At h' c p L M' ∧ Fs [] 75 [13, 14] M M' ∧ RTx M' f len (bd (.inr q) fun q => er f len q k) ∧ M' 75 13 ≠ 0 := fun y y0 hy => by
      have A1 := A.s9 13 y (by decide +kernel)
      have C1 := A1.md
      have A2 := A1.s9 14 (xtB f len q) (by decide +kernel)
      unfold f_Md_blames_J22
      rw [chk_t (MH.of A).T, wth]
      simp only [C1]
      rw [chk_t trivial, chk_t trivial, mup_ne (Or.inr (by decide)), r10, wth]
      have e13 : mup (mup M 75 13 y) 75 14 (xtB f len q) 75 13 = y := by rw [mup_ne (Or.inr (by decide)), mup_eq]
      refine ⟨_, _, rfl, A2, ((Fs.rf _ _ _ _).ps (by decide)).ps (by decide), ⟨?_, ?_, ?_⟩, ?_⟩
      · rw [e13]; exact hy
      · show (if xtK f len q = 4 then 1 else k) ≠ 0; rw [← hy]; exact y0
      · exact mup_eq _ _ _ _
      · rw [e13]; exact y0
    by_cases g : xtK f len q = 4
    · rw [if_pos g]; exact j22 1 (by decide) (by rw [if_pos g])
    · rw [if_neg g]; exact j22 k hk (by rw [if_neg g])
theorem s_Sglen (h : mH) {n : Nat} (hn : n < 10) : f_Sg_length h (-((n : Int) + 2)) = some ((0, lnW n), h) := by
  unfold f_Sg_length litN lnW
  rw [show (-(-((n : Int) + 2)) - 2).toNat = n by omega]
theorem s_SgcharAt (h : mH) {n : Nat} (hn : n < 10) {i : Int} (h0 : 0 ≤ i) (h1 : i < lnW n) : f_Sg_charAt h (-((n : Int) + 2)) i = some ((0, chW n i.toNat), h) := by
  unfold f_Sg_charAt litN
  unfold lnW at h1
  rw [show (-(-((n : Int) + 2)) - 2).toNat = n by omega, chk_t ⟨h0, h1⟩]
  rfl
theorem s_isWord39 (A : At h c p L M) (X : TX f len) (T : RTt M f len) {q : Int} (hq : 0 ≤ q ∧ q ≤ len) (h10 : M 75 10 = xtB f len q) {n : Nat} (hn : n < 10) (hl : xtE f len q - xtB f len q = lnW n) : f_Md_isWord_L39 75 (-((n : Int) + 2)) 1000000 h 1 0 = some ((0, b2i (allN (fun i => decide (f (xtB f len q + i) = chW n i.toNat)) (lnW n).toNat)), h) := by
  have C := A.md
  have hx := X.1
  have hb := xtB_rng X hq.1 hq.2
  have he := xtE_rng X hq.1 hq.2
  have ln := lnW_rng ⟨n, hn⟩
  have ln : 2 ≤ lnW n ∧ lnW n ≤ 6 := ln
  have bad : ∀ m i, f_Md_isWord_L39 75 (-((n : Int) + 2)) (m + 1) h 0 i = some ((0, 0), h) := fun m i => by
    rw [f_Md_isWord_L39, if_pos rfl, chk_t (by decide)]
  refine loop_r (F := fun m (b : Int × Int) => f_Md_isWord_L39 75 (-((n : Int) + 2)) m h b.1 b.2) (P := fun r => r = some ((0, b2i (allN (fun i => decide (f (xtB f len q + i) = chW n i.toNat)) (lnW n).toNat)), h)) (fun i b => b.2 = (i : Int) ∧ ((b.1 = 1 ∧ allN (fun i => decide (f (xtB f len q + i) = chW n i.toNat)) i = true) ∨ (b.1 = 0 ∧ allN (fun i => decide (f (xtB f len q + i) = chW n i.toNat)) (lnW n).toNat = false))) (lnW n).toNat (fun i hi b hb2 m => ?_) (fun b hb2 m => ?_) (i := 0) (b := (1, 0)) ⟨rfl, Or.inl ⟨rfl, rfl⟩⟩ (by omega) (by omega)
  · obtain ⟨s, j⟩ := b
    obtain ⟨hj_, hs_⟩ := hb2
    have hj : j = (i : Int) := hj_
    have hs : (s = 1 ∧ allN (fun i => decide (f (xtB f len q + i) = chW n i.toNat)) i = true) ∨ (s = 0 ∧ allN (fun i => decide (f (xtB f len q + i) = chW n i.toNat)) (lnW n).toNat = false) := hs_
    clear hj_ hs_
    subst hj
    show f_Md_isWord_L39 75 (-((n : Int) + 2)) (m + 1) h s i = _ ∨ ∃ b' : Int × Int, _ ∧ f_Md_isWord_L39 75 (-((n : Int) + 2)) (m + 1) h s i = _
    rcases hs with ⟨rfl, hs⟩ | ⟨rfl, hs⟩
    · right
      have j75 : ∀ y : Int, f_Md_isWord_J75 (f_Md_isWord_L39 75 (-((n : Int) + 2)) m) i y h = f_Md_isWord_L39 75 (-((n : Int) + 2)) m h y ((i + 1 : Nat) : Int) := fun y => by
        unfold f_Md_isWord_J75; rw [wtv, w32_n i (by omega)]
      have t81 := T.2 (xtB f len q + i) (by omega) (by omega)
      rw [f_Md_isWord_L39, if_neg (by decide), chk_t (by omega), s_Sglen h hn, bndT_ok (by decide), if_neg (show ¬ lnW n ≤ (i : Int) by omega)]
      simp only [C]
      rw [chk_t trivial, chk_t trivial, chk_t trivial, h10, w32_id (by omega) (by omega), chk_t (by omega), chk_t (by omega), s_SgcharAt h hn (by omega) (by omega), bndT_ok (by decide), t81, j75, j75]
      by_cases g : f (xtB f len q + i) = chW n (i : Int).toNat
      · rw [if_pos g]
        exact ⟨(1, ((i + 1 : Nat) : Int)), ⟨rfl, Or.inl ⟨rfl, by rw [allN, hs, decide_eq_true g]; rfl⟩⟩, rfl⟩
      · rw [if_neg g]
        refine ⟨(0, ((i + 1 : Nat) : Int)), ⟨rfl, Or.inr ⟨rfl, Bool.eq_false_iff.mpr (fun k => ?_)⟩⟩, rfl⟩
        exact g (of_decide_eq_true (allN_iff.mp k i (by omega) (by omega)))
    · left
      rw [bad, hs]; rfl
  · obtain ⟨s, j⟩ := b
    obtain ⟨hj_, hs_⟩ := hb2
    have hj : j = (((lnW n).toNat : Nat) : Int) := hj_
    have hs : (s = 1 ∧ allN (fun i => decide (f (xtB f len q + i) = chW n i.toNat)) (lnW n).toNat = true) ∨ (s = 0 ∧ allN (fun i => decide (f (xtB f len q + i) = chW n i.toNat)) (lnW n).toNat = false) := hs_
    clear hj_ hs_
    subst hj
    show f_Md_isWord_L39 75 (-((n : Int) + 2)) (m + 1) h s _ = _
    rcases hs with ⟨rfl, hs⟩ | ⟨rfl, hs⟩
    · rw [f_Md_isWord_L39, if_neg (by decide), chk_t (by omega), s_Sglen h hn, bndT_ok (by decide), if_pos (show lnW n ≤ (((lnW n).toNat : Nat) : Int) by omega), chk_t (by decide), hs]; rfl
    · rw [bad, hs]; rfl
theorem s_isWord (A : At h c p L M) (X : TX f len) (T : RTt M f len) {x : tP Int} (R : RTx M f len x) {n : Nat} (hn : n < 10) : f_Md_isWord h 75 (-((n : Int) + 2)) = some ((0, b2i (iW f len x n)), h) := by
  have C := A.md
  have hl := X.1
  have j35 : f_Md_isWord_J35 75 (-((n : Int) + 2)) h = some ((0, 0), h) := by
    unfold f_Md_isWord_J35 f_Md_isWord_J36
    rw [show (1000000 : Nat) = 999999 + 1 from rfl, f_Md_isWord_L39, if_pos rfl, chk_t (by decide)]
  unfold f_Md_isWord
  simp only [C]
  rw [chk_t trivial]
  match x, R with
  | .inl e, R =>
    have g : M 75 13 ≠ 0 := by rw [R.1]; exact R.2.1
    rw [if_neg g, j35]; rfl
  | .inr q, R =>
    obtain ⟨hq, r13, r10, r11, r9, r12⟩ := R
    have hb := xtB_rng X hq.1 hq.2
    have he := xtE_rng X hq.1 hq.2
    rw [if_pos r13, chk_t trivial, r11]
    show _ = some ((0, b2i (isW f len q n)), h)
    unfold isW
    by_cases g : xtK f len q = 1
    · rw [if_pos g, decide_eq_true g, Bool.true_and, chk_t trivial, chk_t trivial, chk_t (by omega), s_Sglen h hn, bndT_ok (by decide), r9, r10, w32_id (by omega) (by omega)]
      by_cases g2 : xtE f len q - xtB f len q = lnW n
      · rw [if_pos g2, decide_eq_true g2, Bool.true_and]
        unfold f_Md_isWord_J36
        exact s_isWord39 A X T hq r10 hn g2
      · rw [if_neg g2, decide_eq_false g2, Bool.false_and, j35]; rfl
    · rw [if_neg g, decide_eq_false g, Bool.false_and, j35]; rfl
theorem iW_inr {x : tP Int} {n : Nat} (h : iW f len x n = true) : ∃ q, x = .inr q ∧ isW f len q n = true ∧ xtK f len q = 1 := by
  match x, h with
  | .inr q, h =>
    refine ⟨q, rfl, h, ?_⟩
    have h : isW f len q n = true := h
    unfold isW at h
    rw [Bool.and_eq_true] at h
    exact of_decide_eq_true h.1
theorem s_readsX (A : At h c p L M) (X : TX f len) (T : RTt M f len) {q : Int} (R : RTx M f len (.inr q)) : ∃ h' M', f_Md_reads h 75 = some ((3, 0), h') ∧ At h' c p L M' ∧ FT9 M M' ∧ RTx M' f len (.inr (xtE f len q)) := s_reads A X T (xtE_pos X R.1) R.2.2.2.2.1 R.2.1
theorem s_took (A : At h c p L M) (X : TX f len) (T : RTt M f len) {x : tP Int} (R : RTx M f len x) {n : Nat} (hn : n < 10) : ∃ h' M', f_Md_took h 75 (-((n : Int) + 2)) = some ((0, b2i (iW f len x n)), h') ∧ At h' c p L M' ∧ FT9 M M' ∧ RTx M' f len (if iW f len x n = true then te_ f len x else x) := by
  unfold f_Md_took
  rw [chk_t (MH.of A).T, s_isWord A X T R hn, bndT_ok (by decide)]
  cases g : iW f len x n
  · rw [if_pos (show b2i false = 0 from rfl), chk_t (by decide), if_neg (by decide)]
    exact ⟨h, M, rfl, A, Fs.rf _ _ _ _, R⟩
  · obtain ⟨q, rfl, _, _⟩ := iW_inr g
    obtain ⟨h1, M1, f1, A1, F1, R1⟩ := s_readsX A X T R
    rw [if_neg (show ¬ b2i true = 0 by decide), chk_t (MH.of A).T, f1, bndT_ok (by decide), chk_t (by decide), if_pos rfl]
    exact ⟨h1, M1, rfl, A1, F1, R1⟩
abbrev FT13 : aM → aM → Prop := Fs [] 75 [9, 10, 11, 12, 13, 14]
theorem FT13.fr {M' : aM} (F : FT13 M M') : FR M M' := F.mono (by decide) (by decide)
theorem s_must (A : At h c p L M) (X : TX f len) (T : RTt M f len) {x : tP Int} (R : RTx M f len x) {n : Nat} (hn : n < 10) : ∃ h' M', f_Md_must h 75 (-((n : Int) + 2)) = some ((3, 0), h') ∧ At h' c p L M' ∧ FT13 M M' ∧ RTx M' f len (bd x (sWord f len n)) := by
  obtain ⟨h1, M1, f1, A1, F1, R1⟩ := s_took A X T R hn
  have F1' : FT13 M M1 := F1.mono (by decide) (by decide)
  unfold f_Md_must
  rw [chk_t (MH.of A).T, f1, bndT_ok (by decide)]
  cases g : iW f len x n
  · rw [g, if_neg (by decide)] at R1
    obtain ⟨h2, M2, f2, A2, F2, R2, _⟩ := s_blames A1 R1 (k := 2) (by decide)
    rw [if_pos (show b2i false = 0 from rfl), chk_t (MH.of A1).T, f2, bndT_ok (by decide)]
    refine ⟨h2, M2, rfl, A2, F1'.tr (F2.mono (by decide) (by decide)), ?_⟩
    match x, g, R2 with
    | .inl e, _, R2 => exact R2
    | .inr q, g, R2 =>
      have g : isW f len q n = false := g
      show RTx M2 f len (sWord f len n q)
      unfold sWord; rw [g, if_neg (by decide)]; exact R2
  · rw [g, if_pos rfl] at R1
    obtain ⟨q, rfl, hw, _⟩ := iW_inr g
    rw [if_neg (show ¬ b2i true = 0 by decide)]
    refine ⟨h1, M1, rfl, A1, F1', ?_⟩
    show RTx M1 f len (sWord f len n q)
    unfold sWord; rw [if_pos hw]; exact R1
theorem s_number (A : At h c p L M) (X : TX f len) (T : RTt M f len) {x : tP Int} (R : RTx M f len x) (lo hi : Int) : ∃ h' M', f_Md_number h 75 lo hi = some ((0, nv_ (bd x (sNum f len lo hi)) lo), h') ∧ At h' c p L M' ∧ FT13 M M' ∧ RTx M' f len (nx_ (bd x (sNum f len lo hi))) := by
  have C := A.md
  have bad36 : ∀ h1 M1 e, At h1 c p L M1 → RTx M1 f len (.inl e) → f_Md_number_J36 75 lo h1 = some ((0, lo), h1) := fun h1 M1 e A1 R1 => by
    have C1 := A1.md
    have g : M1 75 13 ≠ 0 := by rw [R1.1]; exact R1.2.1
    unfold f_Md_number_J36 f_Md_number_J52
    simp only [C1]
    rw [chk_t trivial, wtv, chk_t trivial, if_neg g, chk_t trivial, if_neg g]
  have blm : ∀ k : Int, k ≠ 0 → (∀ q, x = .inr q → sNum f len lo hi q = er f len q k) → ∃ h' M', (chk (hpT h 75 = 12) (bndT 3 (f_Md_blames h 75 k) (fun _ h3 => f_Md_number_J36 75 lo h3))) = some ((0, nv_ (bd x (sNum f len lo hi)) lo), h') ∧ At h' c p L M' ∧ FT13 M M' ∧ RTx M' f len (nx_ (bd x (sNum f len lo hi))) := fun k k0 hk => by
    obtain ⟨h1, M1, f1, A1, F1, R1, n1⟩ := s_blames A R k0
    obtain ⟨e, he1, he2⟩ : ∃ e, bd x (fun q => (er f len q k : tP Int)) = .inl e ∧ bd x (sNum f len lo hi) = .inl e := by
      match x, hk with
      | .inl e, _ => exact ⟨e, rfl, rfl⟩
      | .inr q, hk => exact ⟨_, rfl, by show sNum f len lo hi q = _; rw [hk q rfl]; rfl⟩
    rw [he1] at R1
    rw [he2, chk_t (MH.of A).T, f1, bndT_ok (by decide), bad36 h1 M1 e A1 R1]
    exact ⟨h1, M1, rfl, A1, F1.mono (by decide) (by decide), R1⟩
  unfold f_Md_number
  simp only [C]
  rw [chk_t trivial]
  match x, R, blm with
  | .inl e, R, blm =>
    by_cases g : M 75 11 = 2
    · rw [if_pos g, chk_t trivial, s_Md_amid, bndT_ok (by decide)]
      by_cases g2 : lo ≤ M 75 12 ∧ M 75 12 ≤ hi
      · rw [b2d g2, if_neg (by decide), bad36 h M e A R]
        exact ⟨h, M, rfl, A, Fs.rf _ _ _ _, R⟩
      · rw [b2n g2, if_pos rfl]
        exact blm 3 (by decide) (fun q hq => by cases hq)
    · rw [if_neg g]
      have := blm 2 (by decide) (fun q hq => by cases hq)
      rw [chk_t (MH.of A).T] at this
      rw [chk_t trivial]; exact this
  | .inr q, R, blm =>
    obtain ⟨hq, r13, r10, r11, r9, r12⟩ := id R
    rw [r11]
    by_cases g : xtK f len q = 2
    · have v12 := r12 g
      rw [if_pos g, chk_t trivial, s_Md_amid, bndT_ok (by decide), v12]
      by_cases g2 : lo ≤ xtV f len q ∧ xtV f len q ≤ hi
      · obtain ⟨h1, M1, f1, A1, F1, R1⟩ := s_readsX A X T R
        have C1 := A1.md
        have es : bd (.inr q) (sNum f len lo hi) = .inr (xtV f len q, xtE f len q) := by
          show sNum f len lo hi q = _
          unfold sNum; rw [if_pos g, if_pos g2]
        rw [b2d g2, if_neg (by decide), es]
        unfold f_Md_number_J36 f_Md_number_J52
        simp only [C]
        rw [chk_t trivial, wtv, chk_t trivial, if_pos r13, chk_t trivial, f1, bndT_ok (by decide)]
        simp only [C1]
        rw [chk_t trivial, R1.2.1, if_pos rfl, v12]
        exact ⟨h1, M1, rfl, A1, F1.mono (by decide) (by decide), R1⟩
      · rw [b2n g2, if_pos rfl]
        exact blm 3 (by decide) (fun q' hq' => by cases hq'; unfold sNum; rw [if_pos g, if_neg g2])
    · rw [if_neg g]
      have := blm 2 (by decide) (fun q' hq' => by cases hq'; unfold sNum; rw [if_neg g])
      rw [chk_t (MH.of A).T] at this
      rw [chk_t trivial]; exact this
end
