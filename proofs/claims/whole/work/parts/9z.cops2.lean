/-! THE CLASS'S PARTS OF A LINE: words, numbers -/
section
variable {h : mH} {c : Int} {p L : Int → Int} {M : aM} {f : Int → Int} {len : Int}
theorem CTx.ne0 {e : Int × Int} (R : CTx M f len (.inl e)) : M 3 6 ≠ 0 := by rw [R.1]; exact R.2.1
theorem CPx.ne0 {e : Int × Int} (R : CPx M f len (.inl e)) : M 3 6 ≠ 0 := by rw [R.1]; exact R.2.1
theorem CTx.next {q : Int} (X : TX f len) (R : CTx M f len (.inr q)) (hk : xtK f len q ≠ 4) : CPx M f len (.inr (xtE f len q)) := by
  obtain ⟨hq, _, R⟩ := R
  have R := R hk
  exact ⟨xtE_pos X hq, R.1, R.2.1, R.2.2.2.2.1⟩
theorem CTx.bad {q : Int} (R : CTx M f len (.inr q)) (hk : xtK f len q = 4) (k : Int) : CTx M f len (er f len q k : tP Int) := by
  have := R.2.1 hk
  unfold er
  rw [if_pos hk]
  exact ⟨this.1, (by decide : (1 : Int) ≠ 0), this.2⟩
/-- a fault is the same, wherever it is met -/
theorem CTx.pp {e : Int × Int} (R : CTx M f len (.inl e)) : CPx M f len (.inl e) := R
theorem CPx.tt {e : Int × Int} (R : CPx M f len (.inl e)) : CTx M f len (.inl e) := R
theorem s_cBlameB (A : At h c p L M) (k : Int) (g : M 3 6 ≠ 0) : f_Reader_blame h 3 k = some ((3, 0), h) := by
  have C := A.rd
  unfold f_Reader_blame
  simp only [C]
  rw [chk_t trivial, if_neg g]
theorem s_cBlame0 (A : At h c p L M) {k b : Int} (hk : k ≠ 0) (g : M 3 6 = 0) (h3 : M 3 3 = b) : ∃ h' M', f_Reader_blame h 3 k = some ((3, 0), h') ∧ At h' c p L M' ∧ Fs [] 3 [6, 7] M M' ∧ CTx M' f len (.inl (k, b)) := by
  have C := A.rd
  have A1 := A.s3 6 k (by decide +kernel)
  have C1 := A1.rd
  have A2 := A1.s3 7 b (by decide +kernel)
  unfold f_Reader_blame
  simp only [C]
  rw [chk_t trivial, if_pos g, chk_t trivial, wth]
  simp only [C1]
  rw [chk_t trivial, chk_t trivial, mup_ne (Or.inr (by decide)), h3, wth]
  exact ⟨_, _, rfl, A2, ((Fs.rf _ _ _ _).ps (by decide)).ps (by decide), by rw [mup_ne (Or.inr (by decide)), mup_eq], hk, mup_eq _ _ _ _⟩
theorem s_cBlame (A : At h c p L M) {x : tP Int} (R : CTx M f len x) {k : Int} (hk : k ≠ 0) : ∃ h' M', f_Reader_blame h 3 k = some ((3, 0), h') ∧ At h' c p L M' ∧ Fs [] 3 [6, 7] M M' ∧ CTx M' f len (bd x fun q => er f len q k) := by
  rcases tP_cases x with ⟨e, rfl⟩ | ⟨q, rfl⟩
  · exact ⟨h, M, s_cBlameB A k R.ne0, A, Fs.rf _ _ _ _, R⟩
  · rw [bd_r]
    by_cases g : xtK f len q = 4
    · have r := R.2.1 g
      exact ⟨h, M, s_cBlameB A k (by rw [r.1]; decide), A, Fs.rf _ _ _ _, R.bad g k⟩
    · have r := R.2.2 g
      obtain ⟨h1, M1, f1, A1, F1, R1⟩ := s_cBlame0 (f := f) (len := len) A hk r.1 r.2.2.1
      refine ⟨h1, M1, f1, A1, F1, ?_⟩
      unfold er
      rw [if_neg g]; exact R1
theorem f67_3 {M' : aM} (F : Fs [] 3 [6, 7] M M') : FC3 M M' := F.mono (by decide) (by decide)
theorem s_spells35 (A : At h c p L M) (X : TX f len) (T : CTt M f len) {q : Int} (hq : 0 ≤ q ∧ q ≤ len) (h3 : M 3 3 = xtB f len q) {n : Nat} (hn : n < 10) (hl : xtE f len q - xtB f len q = lnW n) : f_Reader_spells_L35 3 (-((n : Int) + 2)) 1000000 h 0 = some ((0, b2i (allN (fun i => decide (f (xtB f len q + i) = chW n i.toNat)) (lnW n).toNat)), h) := by
  have C := A.rd
  have N := A.nb
  have hx := X.1
  have hb := xtB_rng X hq.1 hq.2
  have he := xtE_rng X hq.1 hq.2
  have ln : 2 ≤ lnW n ∧ lnW n ≤ 6 := lnW_rng ⟨n, hn⟩
  refine loop_r (F := fun m (b : Int) => f_Reader_spells_L35 3 (-((n : Int) + 2)) m h b) (P := fun r => r = some ((0, b2i (allN (fun i => decide (f (xtB f len q + i) = chW n i.toNat)) (lnW n).toNat)), h)) (fun i b => b = (i : Int) ∧ allN (fun i => decide (f (xtB f len q + i) = chW n i.toNat)) i = true) (lnW n).toNat (fun i hi b hb2 m => ?_) (fun b hb2 m => ?_) (i := 0) (b := 0) ⟨rfl, rfl⟩ (by omega) (by omega)
  · obtain ⟨rfl, hs⟩ := hb2
    have t2 := T.2.2 (xtB f len q + i) (by omega) (by omega)
    have fr := X.2 (xtB f len q + i) (by omega) (by omega)
    have wd := w8_wd fr.1 fr.2
    have cw : 0 ≤ chW n (i : Int).toNat ∧ chW n (i : Int).toNat < 128 := chW_rng ⟨n, hn⟩ ⟨(i : Int).toNat, by omega⟩
    show f_Reader_spells_L35 3 (-((n : Int) + 2)) (m + 1) h i = _ ∨ ∃ b', _ ∧ f_Reader_spells_L35 3 (-((n : Int) + 2)) (m + 1) h i = _
    rw [f_Reader_spells_L35, chk_t (by omega), s_Sglen h hn, bndT_ok (by decide), if_neg (show ¬ lnW n ≤ (i : Int) by omega)]
    simp only [C]
    rw [T.1]
    simp only [N]
    rw [chk_t trivial, chk_t trivial, chk_t trivial, h3, w32_id (by omega) (by omega), chk_t (by omega), chk_t (by omega), s_SgcharAt h hn (by omega) (by omega), bndT_ok (by decide), t2]
    by_cases g : f (xtB f len q + i) = chW n (i : Int).toNat
    · right
      rw [if_pos (by omega), wtv, w32_n i (by omega)]
      exact ⟨_, ⟨rfl, by rw [allN, hs, decide_eq_true g]; rfl⟩, rfl⟩
    · left
      rw [if_neg (by omega), chk_t (by decide), show allN (fun i => decide (f (xtB f len q + i) = chW n i.toNat)) (lnW n).toNat = false from Bool.eq_false_iff.mpr (fun k => g (of_decide_eq_true (allN_iff.mp k i (by omega) (by omega))))]
      rfl
  · obtain ⟨rfl, hs⟩ := hb2
    show f_Reader_spells_L35 3 (-((n : Int) + 2)) (m + 1) h _ = _
    rw [f_Reader_spells_L35, chk_t (by omega), s_Sglen h hn, bndT_ok (by decide), if_pos (show lnW n ≤ (((lnW n).toNat : Nat) : Int) by omega), chk_t (by decide), hs]; rfl
theorem s_spells (A : At h c p L M) (X : TX f len) (T : CTt M f len) {x : tP Int} (R : CTx M f len x) {n : Nat} (hn : n < 10) : f_Reader_spells h 3 (-((n : Int) + 2)) = some ((0, b2i (iW f len x n)), h) := by
  have C := A.rd
  have hl := X.1
  unfold f_Reader_spells
  simp only [C]
  rw [chk_t trivial]
  rcases tP_cases x with ⟨e, rfl⟩ | ⟨q, rfl⟩
  · rw [if_neg R.ne0, chk_t (by decide)]; rfl
  · show _ = some ((0, b2i (isW f len q n)), h)
    obtain ⟨hq, r4, R⟩ := R
    have hb := xtB_rng X hq.1 hq.2
    have he := xtE_rng X hq.1 hq.2
    by_cases g4 : xtK f len q = 4
    · have r := r4 g4
      rw [if_neg (by rw [r.1]; decide), chk_t (by decide)]
      unfold isW
      rw [decide_eq_false (show ¬ xtK f len q = 1 by omega)]; rfl
    · obtain ⟨r6, r7, r3, rk, r2, r5⟩ := R g4
      rw [if_pos r6, chk_t trivial, rk]
      unfold isW
      by_cases g : xtK f len q = 1
      · have e2 : ckK (xtK f len q) = 2 := by rw [g]; rfl
        rw [if_pos e2, decide_eq_true g, Bool.true_and, chk_t trivial, chk_t trivial, chk_t (by omega), s_Sglen h hn, bndT_ok (by decide), r2, r3, w32_id (by omega) (by omega)]
        by_cases g2 : xtE f len q - xtB f len q = lnW n
        · rw [if_pos g2, decide_eq_true g2, Bool.true_and]
          exact s_spells35 A X T hq r3 hn g2
        · rw [if_neg g2, decide_eq_false g2, Bool.false_and, chk_t (by decide)]; rfl
      · have e2 : ckK (xtK f len q) ≠ 2 := by
          unfold ckK
          have := tK_rng f len q
          by_cases k0 : xtK f len q = 0
          · rw [if_pos k0]; decide
          · rw [if_neg k0, if_neg g]
            by_cases k2 : xtK f len q = 2
            · rw [if_pos k2]; decide
            · rw [if_neg k2]
              by_cases k3 : xtK f len q = 3
              · rw [if_pos k3]; decide
              · rw [if_neg k3]; decide
        rw [if_neg e2, decide_eq_false g, Bool.false_and, chk_t (by decide)]; rfl
theorem ckK_3 {k : Int} (h : 0 ≤ k ∧ k ≤ 4) : ckK k = 3 ↔ k = 2 := by
  unfold ckK
  rcases (show k = 0 ∨ k = 1 ∨ k = 2 ∨ k = 3 ∨ k = 4 by omega) with rfl | rfl | rfl | rfl | rfl <;> decide
theorem ckK_4 {k : Int} (h : 0 ≤ k ∧ k ≤ 4) : ckK k = 4 ↔ k = 3 := by
  unfold ckK
  rcases (show k = 0 ∨ k = 1 ∨ k = 2 ∨ k = 3 ∨ k = 4 by omega) with rfl | rfl | rfl | rfl | rfl <;> decide
theorem ckK_0 {k : Int} (h : 0 ≤ k ∧ k ≤ 4) : ckK k = 0 ↔ k = 0 := by
  unfold ckK
  rcases (show k = 0 ∨ k = 1 ∨ k = 2 ∨ k = 3 ∨ k = 4 by omega) with rfl | rfl | rfl | rfl | rfl <;> decide
theorem s_readNumber (A : At h c p L M) (X : TX f len) (T : CTt M f len) {x : tP Int} (R : CPx M f len x) (lo hi : Int) : ∃ h' M', f_Reader_readNumber h 3 lo hi = some ((0, nv_ (bd x (sNum f len lo hi)) 0), h') ∧ At h' c p L M' ∧ FC3 M M' ∧ CPx M' f len (nx_ (bd x (sNum f len lo hi))) ∧ ∀ q a, x = .inr q → sNum f len lo hi q = .inr a → M' 3 3 = xtB f len q := by
  obtain ⟨h1, M1, f1, A1, F1, R1⟩ := s_cToken A X T R
  have C1 := A1.rd
  have j41b : ∀ h2 M2, At h2 c p L M2 → M2 3 6 ≠ 0 → f_Reader_readNumber_J41 3 h2 = some ((0, 0), h2) := fun h2 M2 A2 g => by
    have C2 := A2.rd
    unfold f_Reader_readNumber_J41
    simp only [C2]
    rw [chk_t trivial, if_neg g]
  have blm : ∀ k : Int, k ≠ 0 → (∀ q, x = .inr q → sNum f len lo hi q = er f len q k) → ∃ h' M', (chk (hpT h1 3 = 9) (bndT 3 (f_Reader_blame h1 3 k) (fun _ h3 => f_Reader_readNumber_J41 3 h3))) = some ((0, nv_ (bd x (sNum f len lo hi)) 0), h') ∧ At h' c p L M' ∧ FC3 M M' ∧ CPx M' f len (nx_ (bd x (sNum f len lo hi))) ∧ ∀ q a, x = .inr q → sNum f len lo hi q = .inr a → M' 3 3 = xtB f len q := fun k k0 hk => by
    obtain ⟨h2, M2, f2, A2, F2, R2⟩ := s_cBlame A1 R1 k0
    obtain ⟨e, he1, he2⟩ : ∃ e, bd x (fun q => (er f len q k : tP Int)) = .inl e ∧ bd x (sNum f len lo hi) = .inl e := by
      rcases tP_cases x with ⟨e, rfl⟩ | ⟨q, rfl⟩
      · exact ⟨e, rfl, rfl⟩
      · exact ⟨_, rfl, by rw [bd_r, hk q rfl]; rfl⟩
    rw [he1] at R2
    rw [he2, chk_t A1.rd.1, f2, bndT_ok (by decide), j41b h2 M2 A2 R2.ne0]
    refine ⟨h2, M2, rfl, A2, F1.tr (f67_3 F2), R2, fun q a hq ha => ?_⟩
    rw [hk q hq] at ha; cases ha
  unfold f_Reader_readNumber
  rw [chk_t A.rd.1, f1, bndT_ok (by decide)]
  simp only [C1]
  rw [chk_t trivial]
  rcases tP_cases x with ⟨e, rfl⟩ | ⟨q, rfl⟩
  · have g6 : M1 3 6 ≠ 0 := R1.ne0
    have done : ∃ h' M', some ((0, (0 : Int)), h1) = some ((0, nv_ (bd (.inl e) (sNum f len lo hi)) 0), h') ∧ At h' c p L M' ∧ FC3 M M' ∧ CPx M' f len (nx_ (bd (.inl e) (sNum f len lo hi))) ∧ ∀ q a, (.inl e : tP Int) = .inr q → sNum f len lo hi q = .inr a → M' 3 3 = xtB f len q := ⟨h1, M1, rfl, A1, F1, R1, fun q a h => by cases h⟩
    have bk : ∀ k : Int, bndT 3 (f_Reader_blame h1 3 k) (fun _ h3 => f_Reader_readNumber_J41 3 h3) = some ((0, 0), h1) := fun k => by
      rw [s_cBlameB A1 k g6, bndT_ok (by decide), j41b h1 M1 A1 g6]
    have e36 : f_Reader_readNumber_J36 3 h1 = some ((0, 0), h1) := by
      unfold f_Reader_readNumber_J36
      rw [chk_t A1.rd.1, bk]
    rw [e36, j41b h1 M1 A1 g6, bk]
    by_cases k1 : M1 3 4 = 3
    · rw [if_pos k1, chk_t trivial]
      by_cases k2 : M1 3 5 < lo
      · rw [if_pos k2]; exact done
      · rw [if_neg k2, chk_t trivial]
        by_cases k3 : M1 3 5 ≤ hi
        · rw [if_pos k3]; exact done
        · rw [if_neg k3]; exact done
    · rw [if_neg k1, chk_t trivial]; exact done
  · obtain ⟨hq, r4, RR⟩ := id R1
    by_cases g4 : xtK f len q = 4
    · have r := r4 g4
      have g6 : M1 3 6 ≠ 0 := by rw [r.1]; decide
      have es : sNum f len lo hi q = .inl (1, xtB f len q) := by
        unfold sNum er
        rw [if_neg (by omega), if_pos g4]
      have done : ∃ h' M', some ((0, (0 : Int)), h1) = some ((0, nv_ (bd (.inr q) (sNum f len lo hi)) 0), h') ∧ At h' c p L M' ∧ FC3 M M' ∧ CPx M' f len (nx_ (bd (.inr q) (sNum f len lo hi))) ∧ ∀ q' a, (.inr q : tP Int) = .inr q' → sNum f len lo hi q' = .inr a → M' 3 3 = xtB f len q' := by
        rw [bd_r, es]
        refine ⟨h1, M1, rfl, A1, F1, ⟨r.1, (by decide : (1 : Int) ≠ 0), r.2⟩, fun q' a h ha => ?_⟩
        cases h
        rw [es] at ha; cases ha
      have bk : ∀ k : Int, bndT 3 (f_Reader_blame h1 3 k) (fun _ h3 => f_Reader_readNumber_J41 3 h3) = some ((0, 0), h1) := fun k => by
        rw [s_cBlameB A1 k g6, bndT_ok (by decide), j41b h1 M1 A1 g6]
      have e36 : f_Reader_readNumber_J36 3 h1 = some ((0, 0), h1) := by
        unfold f_Reader_readNumber_J36
        rw [chk_t A1.rd.1, bk]
      rw [e36, j41b h1 M1 A1 g6, bk]
      by_cases k1 : M1 3 4 = 3
      · rw [if_pos k1, chk_t trivial]
        by_cases k2 : M1 3 5 < lo
        · rw [if_pos k2]; exact done
        · rw [if_neg k2, chk_t trivial]
          by_cases k3 : M1 3 5 ≤ hi
          · rw [if_pos k3]; exact done
          · rw [if_neg k3]; exact done
      · rw [if_neg k1, chk_t trivial]; exact done
    · obtain ⟨r6, r7, r3, rk, r2, r5⟩ := RR g4
      rw [rk]
      by_cases g : xtK f len q = 2
      · have v5 := r5 g
        rw [if_pos ((ckK_3 (tK_rng f len q)).mpr g), chk_t trivial, v5]
        by_cases k2 : xtV f len q < lo
        · rw [if_pos k2]
          unfold f_Reader_readNumber_J36; exact blm 3 (by decide) (fun q' hq' => by cases hq'; unfold sNum; rw [if_pos g, if_neg (by omega)])
        · rw [if_neg k2, chk_t trivial]
          by_cases k3 : xtV f len q ≤ hi
          · have es : bd (.inr q) (sNum f len lo hi) = .inr (xtV f len q, xtE f len q) := by
              show sNum f len lo hi q = _
              unfold sNum; rw [if_pos g, if_pos ⟨by omega, k3⟩]
            rw [if_pos k3, es]
            unfold f_Reader_readNumber_J41
            simp only [C1]
            rw [chk_t trivial, if_pos r6, chk_t trivial, v5]
            exact ⟨h1, M1, rfl, A1, F1, ⟨xtE_pos X hq, r6, r7, r2⟩, fun q' a h _ => by cases h; exact r3⟩
          · rw [if_neg k3]
            unfold f_Reader_readNumber_J36; exact blm 3 (by decide) (fun q' hq' => by cases hq'; unfold sNum; rw [if_pos g, if_neg (by omega)])
      · rw [if_neg (fun k => g ((ckK_3 (tK_rng f len q)).mp k))]
        have := blm 2 (by decide) (fun q' hq' => by cases hq'; unfold sNum; rw [if_neg g])
        rw [chk_t A1.rd.1] at this
        rw [chk_t trivial]; exact this
theorem s_readWord (A : At h c p L M) (X : TX f len) (T : CTt M f len) {x : tP Int} (R : CPx M f len x) {n : Nat} (hn : n < 10) : ∃ h' M', f_Reader_readWord h 3 (-((n : Int) + 2)) = some ((3, 0), h') ∧ At h' c p L M' ∧ FC3 M M' ∧ CPx M' f len (bd x (sWord f len n)) := by
  obtain ⟨h1, M1, f1, A1, F1, R1⟩ := s_cToken A X T R
  unfold f_Reader_readWord
  rw [chk_t A.rd.1, f1, bndT_ok (by decide), chk_t A1.rd.1, s_spells A1 X (T.fr F1) R1 hn, bndT_ok (by decide)]
  cases g : iW f len x n
  · obtain ⟨h2, M2, f2, A2, F2, R2⟩ := s_cBlame A1 R1 (k := 2) (by decide)
    rw [if_pos (show b2i false = 0 from rfl), chk_t A1.rd.1, f2, bndT_ok (by decide)]
    refine ⟨h2, M2, rfl, A2, F1.tr (f67_3 F2), ?_⟩
    rcases tP_cases x with ⟨e, rfl⟩ | ⟨q, rfl⟩
    · exact R2
    · have g : isW f len q n = false := g
      rw [bd_r]
      unfold sWord
      rw [g, if_neg (by decide)]; exact R2
  · obtain ⟨q, rfl, hw, hk⟩ := iW_inr g
    rw [if_neg (show ¬ b2i true = 0 by decide)]
    refine ⟨h1, M1, rfl, A1, F1, ?_⟩
    rw [bd_r]
    unfold sWord
    rw [if_pos hw]
    exact R1.next X (by omega)
end
