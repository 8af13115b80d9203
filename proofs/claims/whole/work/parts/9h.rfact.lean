/-! FACTS, THE REFERENCE -/
section
variable {h : mH} {c : Int} {p L : Int → Int} {M : aM} {t : tT}
def fct (t : tT) (x s : Int) : Bool := decide (dg t s (x / 100) = x % 10) == decide (x / 10 % 10 = 0)
theorem b2i_eq (a b : Bool) : (b2i a = b2i b) ↔ (a == b) = true := by cases a <;> cases b <;> decide
theorem s_isFact (A : At h c p L M) (I : RI M t) {x s : Int} (x0 : 0 ≤ x) (x1 : x < 900) (hb : x / 100 < nb t) (s0 : 0 ≤ s) (s1 : s < 2147483648) : f_Md_isFact h 75 x s = some ((0, b2i (fct t x s)), h) := by
  have B := I.mh A
  have e1 : Int.tdiv x 100 = x / 100 := Int.tdiv_eq_ediv_of_nonneg x0
  have e2 : Int.tmod x 10 = x % 10 := Int.tmod_eq_emod_of_nonneg x0
  have e3 : Int.tdiv x 10 = x / 10 := Int.tdiv_eq_ediv_of_nonneg x0
  have e4 : Int.tmod (x / 10) 10 = x / 10 % 10 := Int.tmod_eq_emod_of_nonneg (by omega)
  have j36 : ∀ a b : Bool, f_Md_isFact_J36 (b2i a) (b2i b) h = some ((0, b2i (a == b)), h) := fun a b => by
    cases a <;> cases b <;> rfl
  have j21 : ∀ a : Bool, f_Md_isFact_J21 x (b2i a) h = some ((0, b2i (a == decide (x / 10 % 10 = 0))), h) := fun a => by
    unfold f_Md_isFact_J21
    rw [chk_t (by decide), chk_t (by decide), e3, w32_id (by omega) (by omega), e4]
    by_cases g : x / 10 % 10 = 0
    · rw [if_pos g, decide_eq_true g]; exact j36 a true
    · rw [if_neg g, decide_eq_false g]; exact j36 a false
  unfold f_Md_isFact fct
  rw [chk_t (by decide), chk_t B.T, e1, w32_id (by omega) (by omega), s_Md_placeOf B I.2.1 s0 s1 (by omega) hb, bndT_ok (by decide), chk_t (by decide), e2]
  by_cases g : dg t s (x / 100) = x % 10
  · rw [if_pos g, decide_eq_true g]; exact j21 true
  · rw [if_neg g, decide_eq_false g]; exact j21 false
theorem s_isAsTold (A : At h c p L M) (I : RI M t) (hS2 : nS t ≤ 20000) {τ x : Int} (t0 : 0 ≤ τ) (t1 : τ < 4) (x0 : 0 ≤ x) (x1 : x < 900) (hb : x / 100 < nb t) {N : Int → Int} {m : Nat} (hN : ∀ i : Int, 0 ≤ i → i < m → M 98 (40 * τ + i) = N i) (hm : M 97 τ = (m : Int)) (hm2 : m ≤ 40) (hB : ∀ i : Int, 0 ≤ i → i < m → 0 ≤ N i ∧ N i < 2 * nS t) : f_Md_isAsTold h 75 τ x = some ((0, b2i (allN (fun i => fct t x (N i / 2) == decide (N i % 2 = 1)) m)), h) := by
  have C := A.md
  unfold f_Md_isAsTold
  refine loop_r (F := fun n (b : Int) => f_Md_isAsTold_L2 75 τ x n h b) (P := fun o => o = some ((0, b2i (allN (fun i => fct t x (N i / 2) == decide (N i % 2 = 1)) m)), h)) (fun i b => b = (i : Int) ∧ allN (fun i => fct t x (N i / 2) == decide (N i % 2 = 1)) i = true) m (fun i hi b hb' n => ?_) (fun b hb' n => ?_) (i := 0) (b := 0) ⟨rfl, rfl⟩ (by omega) (by omega)
  · obtain ⟨hr, ha⟩ := hb'
    subst hr
    have hBi := hB i (by omega) (by omega)
    have hx : w32 (w32 (40 * τ) + (i : Int)) = 40 * τ + i := by rw [w32_id (x := 40 * τ) (by omega) (by omega), w32_id (by omega) (by omega)]
    have e1 : Int.tdiv (N i) 2 = N i / 2 := Int.tdiv_eq_ediv_of_nonneg hBi.1
    have e2 : Int.tmod (N i) 2 = N i % 2 := Int.tmod_eq_emod_of_nonneg hBi.1
    have j53 : ∀ w : Bool, w = decide (N i % 2 = 1) → f_Md_isAsTold_J53 (f_Md_isAsTold_L2 75 τ x n) i (b2i (fct t x (N i / 2))) (b2i w) h = some ((0, b2i (allN (fun i => fct t x (N i / 2) == decide (N i % 2 = 1)) m)), h) ∨ ∃ b' : Int, (b' = ((i + 1 : Nat) : Int) ∧ allN (fun i => fct t x (N i / 2) == decide (N i % 2 = 1)) (i + 1) = true) ∧ f_Md_isAsTold_J53 (f_Md_isAsTold_L2 75 τ x n) i (b2i (fct t x (N i / 2))) (b2i w) h = f_Md_isAsTold_L2 75 τ x n h b' := fun w hw => by
      unfold f_Md_isAsTold_J53
      by_cases g : b2i (fct t x (N i / 2)) = b2i w
      · right
        rw [if_pos g, wtv, w32_n i (by omega)]
        refine ⟨_, ⟨rfl, ?_⟩, rfl⟩
        rw [allN, ha, Bool.true_and]
        have q := (b2i_eq _ _).mp g
        rw [hw] at q; exact q
      · left
        rw [if_neg g, chk_t (by decide)]
        have : allN (fun i => fct t x (N i / 2) == decide (N i % 2 = 1)) m = false := Bool.eq_false_iff.mpr (fun k => by
          have k := allN_iff.mp k i (by omega) (by omega)
          exact g ((b2i_eq _ _).mpr (by rw [hw]; exact k)))
        rw [this]; rfl
    show f_Md_isAsTold_L2 75 τ x (n + 1) h i = _ ∨ ∃ b' : Int, _ ∧ f_Md_isAsTold_L2 75 τ x (n + 1) h i = _
    rw [f_Md_isAsTold_L2, hx]
    simp only [C]
    rw [chk_t trivial, chk_t trivial, chk_t (by omega), hm, if_neg (by omega), chk_t trivial, chk_t trivial, chk_t (by omega), wtv, chk_t (by decide), chk_t trivial, hN i (by omega) (by omega), e1, w64_id (by omega) (by omega), w32_id (x := N i / 2) (by omega) (by omega), s_isFact A I x0 x1 hb (by omega) (by omega), bndT_ok (by decide), chk_t (by decide), e2]
    by_cases g : N i % 2 = 1
    · rw [if_pos (qlcmp_eq.mpr g)]; exact j53 true (decide_eq_true g).symm
    · rw [if_neg (fun q => g (qlcmp_eq.mp q))]; exact j53 false (decide_eq_false g).symm
  · obtain ⟨hr, ha⟩ := hb'
    subst hr
    show f_Md_isAsTold_L2 75 τ x (n + 1) h (m : Int) = _
    rw [f_Md_isAsTold_L2]
    simp only [C]
    rw [chk_t trivial, chk_t trivial, chk_t (by omega), hm, if_pos (by omega), chk_t (by decide), ha]
    rfl
/-- the facts that fit stand in their cells -/
def FQR (M : aM) (S : tF) : Prop := M 75 34 = S.2 ∧ ∀ j, 0 ≤ j → j < S.2 → M 93 j = S.1 j
theorem s_try75 (A : At h c p L M) (I : RI M t) {S : tF} (V : FV t S) (Q : FQR M S) (hS : S.2 ≤ 72) {K : mH → Int → Option mR} {s : Int} (s0 : 0 ≤ s) (s1 : s < 2147483648) : f_Md_tries_L75 K 75 s 1000000 h 0 0 = K h (hs t S s) := by
  have C := A.md
  have V0 := V.1
  refine loop_r (F := fun n (b : Int × Int) => f_Md_tries_L75 K 75 s n h b.1 b.2) (P := fun o => o = K h (hs t S s)) (fun i b => b = (cnN (fun k => decide (dg t s (S.1 k / 100) = S.1 k % 10) == decide (S.1 k / 10 % 10 = 0)) i, (i : Int))) S.2.toNat (fun i hi b hb n => ?_) (fun b hb n => ?_) (i := 0) (b := (0, 0)) rfl (by omega) (by omega)
  · subst hb
    right
    have v := V.2 i (by omega) (by omega)
    have hr := cnN_rng (fun k => decide (dg t s (S.1 k / 100) = S.1 k % 10) == decide (S.1 k / 10 % 10 = 0)) i
    have hc : cnN (fun k => decide (dg t s (S.1 k / 100) = S.1 k % 10) == decide (S.1 k / 10 % 10 = 0)) (i + 1) = cnN (fun k => decide (dg t s (S.1 k / 100) = S.1 k % 10) == decide (S.1 k / 10 % 10 = 0)) i + (if fct t (S.1 i) s = true then 1 else 0) := rfl
    refine ⟨(cnN (fun k => decide (dg t s (S.1 k / 100) = S.1 k % 10) == decide (S.1 k / 10 % 10 = 0)) (i + 1), ((i + 1 : Nat) : Int)), rfl, ?_⟩
    show f_Md_tries_L75 K 75 s (n + 1) h (cnN (fun k => decide (dg t s (S.1 k / 100) = S.1 k % 10) == decide (S.1 k / 10 % 10 = 0)) i) i = f_Md_tries_L75 K 75 s n h (cnN (fun k => decide (dg t s (S.1 k / 100) = S.1 k % 10) == decide (S.1 k / 10 % 10 = 0)) (i + 1)) ((i + 1 : Nat) : Int)
    rw [f_Md_tries_L75]
    simp only [C]
    rw [chk_t trivial, Q.1, if_neg (by omega), chk_t trivial, chk_t trivial, chk_t (by omega), chk_t trivial, Q.2 i (by omega) (by omega), s_isFact A I v.1 v.2.1 v.2.2.1 s0 s1, bndT_ok (by decide), hc]
    unfold f_Md_tries_J107
    cases g : fct t (S.1 i) s
    · rw [if_pos (show b2i false = 0 from rfl), if_neg (by decide), wtv, wtv, Int.add_zero, w32_id (x := cnN _ i) (by omega) (by omega), w32_n i (by omega)]
    · rw [if_neg (by decide), if_pos rfl, wtv, wtv, w32_id (x := cnN _ i + 1) (by omega) (by omega), w32_n i (by omega)]
  · subst hb
    show f_Md_tries_L75 K 75 s (n + 1) h _ _ = _
    rw [f_Md_tries_L75]
    simp only [C]
    rw [chk_t trivial, Q.1, if_pos (by omega)]
    rfl
/-- one fact asked -/
theorem fOK_fct {N : Int → Int} {m : Nat} {c nt a x : Int} (h1 : x / 100 = c) (h2 : x % 10 = a) (h3 : x / 10 % 10 = nt) : allN (fun i => fct t x (N i / 2) == decide (N i % 2 = 1)) m = fOK t N m c nt a := by
  subst h1; subst h2; subst h3; rfl
/-- the places of one bar, as they are or not -/
theorem s_lf126 (A : At h c p L M) (I : RI M t) (hS2 : nS t ≤ 20000) {K : mH → Option mR} {τ o v : Int} (t0 : 0 ≤ τ) (t1 : τ < 4) (o0 : 0 ≤ o) (o1 : o < nb t) (v0 : 0 ≤ v) (v1 : v ≤ 1) {N : Int → Int} {m : Nat} (hN : ∀ i : Int, M 98 (40 * τ + i) = N i) (hm : M 97 τ = (m : Int)) (hm2 : m ≤ 40) (hB : ∀ i : Int, 0 ≤ i → i < m → 0 ≤ N i ∧ N i < 2 * nS t) {S : tF} (hS : 0 ≤ S.2 ∧ S.2 ≤ 8 * o) (Q : FQR M (fI t N m o S (v * pl t o).toNat)) : ∃ h' M', f_Md_laysFacts_L126 K 75 τ o v 1000000 h 0 = K h' ∧ At h' c p L M' ∧ Fs [93] 75 [34] M M' ∧ FQR M' (fI t N m o S ((v + 1) * pl t o).toNat) := by
  have W := I.2.1
  have hpl := W.2.2.2.2.2.1 o o0 o1
  have hnb := W.1
  have hvp : 0 ≤ v * pl t o := Int.mul_nonneg v0 (by omega)
  have hve : v = 0 ∨ v = 1 := by omega
  have hvv : (v + 1) * pl t o = v * pl t o + pl t o := by rw [Int.add_mul, Int.one_mul]
  have hvl : v * pl t o ≤ pl t o := by rcases hve with rfl | rfl <;> omega
  refine loop_am (F := fun n h i => f_Md_laysFacts_L126 K 75 τ o v n h i) (P := fun r => ∃ h' M', r = K h' ∧ At h' c p L M' ∧ Fs [93] 75 [34] M M' ∧ FQR M' (fI t N m o S ((v + 1) * pl t o).toNat)) (fun i M' => Fs [93] 75 [34] M M' ∧ FQR M' (fI t N m o S ((v * pl t o).toNat + i))) (pl t o).toNat (by omega) (fun i hi h2 M2 A2 H2 n => Or.inr ?_) (fun h2 M2 A2 H2 n => ?_) A ⟨Fs.rf _ _ _ _, by rw [Nat.add_zero]; exact Q⟩
  · obtain ⟨F2, Q2⟩ := H2
    have I2 := I.fm (F2.mono (by decide) (by decide))
    have B2 := I2.mh A2
    have C2 := A2.md
    have hk : (((v * pl t o).toNat + i : Nat) : Int) = v * pl t o + i := by omega
    have hnt : fnt t o (((v * pl t o).toNat + i : Nat) : Int) = v := by
      unfold fnt; rw [hk]
      rcases hve with rfl | rfl
      · rw [if_pos (by omega)]
      · rw [if_neg (by omega)]
    have hc := (fcd_of W o0 o1 (k := (((v * pl t o).toNat + i : Nat) : Int)) (by omega) (by omega))
    have hr := fI_rng t N m o S ((v * pl t o).toNat + i)
    have hx : w32 (w32 (w32 (100 * o) + w32 (10 * v)) + (i : Int)) = 100 * o + 10 * v + i := by
      rw [w32_id (x := 100 * o) (by omega) (by omega), w32_id (x := 10 * v) (by omega) (by omega), w32_id (x := 100 * o + 10 * v) (by omega) (by omega), w32_id (by omega) (by omega)]
    have hs : fI t N m o S ((v * pl t o).toNat + (i + 1)) = fA (fI t N m o S ((v * pl t o).toNat + i)) (fOK t N m o v i) (100 * o + 10 * v + i) := by
      show fA _ (fOK t N m o (fnt t o (((v * pl t o).toNat + i : Nat) : Int)) ((((v * pl t o).toNat + i : Nat) : Int) - fnt t o (((v * pl t o).toNat + i : Nat) : Int) * pl t o)) (100 * o + 10 * fnt t o (((v * pl t o).toNat + i : Nat) : Int) + ((((v * pl t o).toNat + i : Nat) : Int) - fnt t o (((v * pl t o).toNat + i : Nat) : Int) * pl t o)) = _
      rw [hnt, hk, show v * pl t o + (i : Int) - v * pl t o = i by omega]
      rfl
    rw [hnt, hk, show v * pl t o + (i : Int) - v * pl t o = i by omega] at hc
    generalize hX : 100 * o + 10 * v + (i : Int) = X at hc hx hs
    have fk := s_isAsTold A2 I2 hS2 (x := X) t0 t1 (by omega) (by omega) (by rw [hc.2.1]; omega) (N := N) (m := m) (fun j _ _ => by rw [F2.1 98 (by decide) (by decide)]; exact hN j) (by rw [F2.1 97 (by decide) (by decide)]; exact hm) hm2 hB
    rw [fOK_fct hc.2.1 hc.2.2.2 hc.2.2.1] at fk
    have j186 : ∀ h, f_Md_laysFacts_J186 (f_Md_laysFacts_L126 K 75 τ o v n) i h = f_Md_laysFacts_L126 K 75 τ o v n h ((i + 1 : Nat) : Int) := fun h => by
      unfold f_Md_laysFacts_J186; rw [wtv, w32_n i (by omega)]
    rw [f_Md_laysFacts_L126, chk_t B2.T, s_Md_pl B2 W o0 o1, bndT_ok (by decide), if_neg (by omega), wtv, chk_t B2.T, hx, fk, bndT_ok (by decide), hs]
    by_cases g : fOK t N m o v i = true
    · rw [g, if_neg (by decide)]
      have hv34 : M2 75 34 = (fI t N m o S ((v * pl t o).toNat + i)).2 := Q2.1
      have A3 := A2.aput (v := 93) ((fI t N m o S ((v * pl t o).toNat + i)).2) X (by decide) (by decide) (by decide) (by decide +kernel) (by decide) (by decide)
      have C3 := A3.md
      have A4 := A3.fput (v := 75) (i := 34) ((fI t N m o S ((v * pl t o).toNat + i)).2 + 1) (by decide) (by decide) (by decide) (by decide +kernel) (by decide)
      simp only [C2]
      rw [hv34, chk_t trivial, chk_t trivial, chk_t trivial, chk_t (by omega), wth]
      simp only [C3]
      rw [chk_t trivial, chk_t trivial, mup_ne (Or.inl (by decide)), hv34, w32_id (by omega) (by omega), wth, j186]
      refine ⟨_, _, A4, ⟨(F2.pu (by decide) (by decide)).ps (by decide), ?_, fun j g0 g1 => ?_⟩, rfl⟩
      · rw [mup_eq]; rfl
      · have g1 : j < (fI t N m o S ((v * pl t o).toNat + i)).2 + 1 := g1
        rw [mup_ne (Or.inl (by decide))]
        show _ = u1 (fI t N m o S ((v * pl t o).toNat + i)).1 (fI t N m o S ((v * pl t o).toNat + i)).2 X j
        by_cases e : j = (fI t N m o S ((v * pl t o).toNat + i)).2
        · rw [e, mup_eq, u1_eq]
        · rw [mup_ne (Or.inr e), u1_ne e]; exact Q2.2 j g0 (by omega)
    · rw [Bool.eq_false_iff.mpr g, if_pos (show b2i false = 0 from rfl), j186]
      exact ⟨h2, M2, A2, ⟨F2, by unfold fA; rw [if_neg (by decide)]; exact Q2⟩, rfl⟩
  · obtain ⟨F2, Q2⟩ := H2
    have I2 := I.fm (F2.mono (by decide) (by decide))
    have B2 := I2.mh A2
    refine ⟨h2, M2, ?_, A2, F2, ?_⟩
    · rw [f_Md_laysFacts_L126, chk_t B2.T, s_Md_pl B2 W o0 o1, bndT_ok (by decide), if_pos (by omega)]
    · rw [hvv, show (v * pl t o + pl t o).toNat = (v * pl t o).toNat + (pl t o).toNat by omega]; exact Q2
/-- all facts that fit -/
theorem s_lf99 (A : At h c p L M) (I : RI M t) (hS2 : nS t ≤ 20000) {τ w : Int} (t0 : 0 ≤ τ) (t1 : τ < 4) (w0 : 0 ≤ w) (w1 : w < 2147483648) {N : Int → Int} {m : Nat} (hN : ∀ i : Int, M 98 (40 * τ + i) = N i) (hm : M 97 τ = (m : Int)) (hm2 : m ≤ 40) (hB : ∀ i : Int, 0 ≤ i → i < m → 0 ≤ N i ∧ N i < 2 * nS t) (h34 : M 75 34 = 0) : ∃ h' M', f_Md_laysFacts_L99 75 w τ 1000000 h 0 = some ((0, 0), h') ∧ At h' c p L M' ∧ Fs [93] 75 [34] M M' ∧ FQR M' (fFS t N m (w / 2)) := by
  have W := I.2.1
  have hnb := W.1
  have e2 : w32 (Int.tdiv w 2) = w / 2 := by rw [Int.tdiv_eq_ediv_of_nonneg w0, w32_id (by omega) (by omega)]
  refine loop_am (F := fun n h i => f_Md_laysFacts_L99 75 w τ n h i) (P := fun r => ∃ h' M', r = some ((0, 0), h') ∧ At h' c p L M' ∧ Fs [93] 75 [34] M M' ∧ FQR M' (fFS t N m (w / 2))) (fun i M' => Fs [93] 75 [34] M M' ∧ FQR M' (fC t N m (w / 2) i)) (nb t).toNat (by omega) (fun i hi h2 M2 A2 H2 n => Or.inr ?_) (fun h2 M2 A2 H2 n => ?_) A ⟨Fs.rf _ _ _ _, h34, fun j g0 g1 => absurd (show j < 0 from g1) (by omega)⟩
  · obtain ⟨F2, Q2⟩ := H2
    have I2 := I.fm (F2.mono (by decide) (by decide))
    have B2 := I2.mh A2
    have hpl := W.2.2.2.2.2.1 i (by omega) (by omega)
    have hr := fC_rng W N m (w / 2) i (by omega)
    have j198 : ∀ h, f_Md_laysFacts_J198 (f_Md_laysFacts_L99 75 w τ n) i h = f_Md_laysFacts_L99 75 w τ n h ((i + 1 : Nat) : Int) := fun h => by
      unfold f_Md_laysFacts_J198; rw [wtv, w32_n i (by omega)]
    rw [f_Md_laysFacts_L99, chk_t B2.T, s_Md_bars B2, bndT_ok (by decide), if_neg (by omega)]
    by_cases g : (i : Int) = w / 2
    · refine ⟨h2, M2, A2, ⟨F2, by show FQR M2 (if (i : Int) = w / 2 then _ else _); rw [if_pos g]; exact Q2⟩, ?_⟩
      show f_Md_laysFacts_L110 _ 75 w τ i (999999 + 1) h2 0 = _
      rw [f_Md_laysFacts_L110, if_neg (by decide), chk_t (by decide), e2, if_pos g, j198]
    · have := loop_am (c := c) (p := p) (L := L) (F := fun n2 h v => f_Md_laysFacts_L110 (fun h3 => f_Md_laysFacts_J198 (f_Md_laysFacts_L99 75 w τ n) i h3) 75 w τ i n2 h v) (P := fun r => ∃ h' M', r = f_Md_laysFacts_L99 75 w τ n h' ((i + 1 : Nat) : Int) ∧ At h' c p L M' ∧ Fs [93] 75 [34] M M' ∧ FQR M' (fI t N m i (fC t N m (w / 2) i) (2 * pl t i).toNat)) (fun v M' => Fs [93] 75 [34] M M' ∧ FQR M' (fI t N m i (fC t N m (w / 2) i) ((v : Int) * pl t i).toNat)) 2 (by omega) (fun v hv h3 M3 A3 H3 n3 => Or.inr ?_) (fun h3 M3 A3 H3 n3 => ?_) A2 ⟨F2, by rw [show (((0 : Nat) : Int) * pl t i).toNat = 0 by simp]; exact Q2⟩
      · obtain ⟨h3, M3, f3, A3, F3, Q3⟩ := this
        refine ⟨h3, M3, A3, ⟨F3, ?_⟩, f3⟩
        show FQR M3 (if (i : Int) = w / 2 then _ else _)
        rw [if_neg g]; exact Q3
      · obtain ⟨F3, Q3⟩ := H3
        have I3 := I.fm (F3.mono (by decide) (by decide))
        obtain ⟨h4, M4, f4, A4, F4, Q4⟩ := s_lf126 A3 I3 hS2 (K := fun h1 => wtv (w32 ((v : Int) + 1)) (fun x2 => (f_Md_laysFacts_L110 (fun h3 => f_Md_laysFacts_J198 (f_Md_laysFacts_L99 75 w τ n) i h3) 75 w τ i n3) h1 x2)) (o := (i : Int)) (v := (v : Int)) t0 t1 (by omega) (by omega) (by omega) (by omega) (N := N) (m := m) (fun j => by rw [F3.1 98 (by decide) (by decide)]; exact hN j) (by rw [F3.1 97 (by decide) (by decide)]; exact hm) hm2 hB ⟨hr.1, hr.2⟩ Q3
        rw [f_Md_laysFacts_L110, if_neg (by omega), chk_t (by decide), e2, if_neg g, f4, wtv, w32_n v (by omega)]
        exact ⟨h4, M4, A4, ⟨F3.tr F4, Q4⟩, rfl⟩
      · obtain ⟨F3, Q3⟩ := H3
        refine ⟨h3, M3, ?_, A3, F3, Q3⟩
        rw [f_Md_laysFacts_L110, if_pos (by decide), j198]
  · obtain ⟨F2, Q2⟩ := H2
    have I2 := I.fm (F2.mono (by decide) (by decide))
    have B2 := I2.mh A2
    refine ⟨h2, M2, ?_, A2, F2, Q2⟩
    rw [f_Md_laysFacts_L99, chk_t B2.T, s_Md_bars B2, bndT_ok (by decide), if_pos (by omega)]
def lfK (t : tT) (M : aM) (w τ : Int) : Int := if (0 ≤ w / 2 ∧ w / 2 < nb t) ∧ 0 ≤ τ ∧ τ < 4 then (if M 96 τ ≠ -1 ∧ nS t ≤ 20000 then (if abN t (fun i => M 98 (40 * τ + i)) (M 97 τ).toNat = true then 0 else 3) else 2) else 1
theorem s_laysFacts (A : At h c p L M) (I : RI M t) {w τ : Int} (hw : -2147483648 ≤ w ∧ w < 2147483648) (ht : 0 ≤ τ → τ < 4 → M 96 τ ≠ -1 → (0 ≤ M 97 τ ∧ M 97 τ ≤ 40) ∧ TL (fun i => M 98 (40 * τ + i)) (M 97 τ)) : ∃ h' M', f_Md_laysFacts h 75 w τ = some ((0, lfK t M w τ), h') ∧ At h' c p L M' ∧ Fs [93] 75 [34] M M' ∧ (lfK t M w τ = 0 → nS t ≤ 20000 ∧ FQR M' (fFS t (fun i => M 98 (40 * τ + i)) (M 97 τ).toNat (w / 2))) := by
  have W := I.2.1
  have hnb := W.1
  have hSS := nS_rng W
  have B := I.mh A
  have C := A.md
  have no : ∀ {k : Int}, k ≠ 0 → lfK t M w τ = k → ∃ h' M', some ((0, k), h) = some ((0, lfK t M w τ), h') ∧ At h' c p L M' ∧ Fs [93] 75 [34] M M' ∧ (lfK t M w τ = 0 → nS t ≤ 20000 ∧ FQR M' (fFS t (fun i => M 98 (40 * τ + i)) (M 97 τ).toNat (w / 2))) := fun h0 e => ⟨h, M, by rw [e], A, Fs.rf _ _ _ _, fun e2 => absurd (e.symm.trans e2) h0⟩
  unfold f_Md_laysFacts
  by_cases g0 : w < 0
  · rw [if_pos g0]
    exact no (by decide) (by unfold lfK; rw [if_neg (by omega)])
  · have e2 : w32 (Int.tdiv w 2) = w / 2 := by rw [Int.tdiv_eq_ediv_of_nonneg (by omega), w32_id (by omega) (by omega)]
    rw [if_neg g0, chk_t (by decide), chk_t B.T, e2, s_Md_isBar B W, bndT_ok (by decide)]
    by_cases g1 : 0 ≤ w / 2 ∧ w / 2 < nb t
    · rw [b2d g1, if_neg (by decide)]
      unfold f_Md_isTray
      rw [s_Md_amid, bndT_ok (by decide)]
      by_cases g2 : 0 ≤ τ ∧ τ < 4
      · rw [b2d (show 0 ≤ τ ∧ τ ≤ 3 by omega), chk_t (by decide), bndT_ok (by decide), if_neg (by decide)]
        simp only [C]
        rw [chk_t trivial, chk_t trivial, chk_t (by omega)]
        by_cases g3 : M 96 τ = -1
        · rw [if_pos g3]
          exact no (by decide) (by unfold lfK; rw [if_pos ⟨g1, g2⟩, if_neg (fun q => q.1 g3)])
        · rw [if_neg g3, chk_t trivial, s_Md_spent A I, bndT_ok (by decide)]
          by_cases g4 : nS t ≤ 20000
          · rw [if_pos (show (if nS t ≤ 20000 then (0 : Int) else 1) = 0 by rw [if_pos g4])]
            obtain ⟨⟨m0, m1⟩, T⟩ := ht g2.1 g2.2 g3
            have hmn : M 97 τ = (((M 97 τ).toNat : Nat) : Int) := by omega
            have eK : lfK t M w τ = if abN t (fun i => M 98 (40 * τ + i)) (M 97 τ).toNat = true then 0 else 3 := by unfold lfK; rw [if_pos ⟨g1, g2⟩, if_pos ⟨g3, g4⟩]
            refine loop_am (c := c) (p := p) (L := L) (F := fun n h i => f_Md_laysFacts_L45 (fun h7 => chk (hpT h7 75 = 12) (wth (hput h7 75 34 0) (fun h8 => f_Md_laysFacts_L99 75 w τ 1000000 h8 0))) 75 τ n h i) (P := fun r => ∃ h' M', r = some ((0, lfK t M w τ), h') ∧ At h' c p L M' ∧ Fs [93] 75 [34] M M' ∧ (lfK t M w τ = 0 → nS t ≤ 20000 ∧ FQR M' (fFS t (fun i => M 98 (40 * τ + i)) (M 97 τ).toNat (w / 2)))) (fun i M' => M' = M ∧ abN t (fun i => M 98 (40 * τ + i)) i = true) (M 97 τ).toNat (by omega) (fun i hi h2 M2 A2 H2 n => ?_) (fun h2 M2 A2 H2 n => ?_) A ⟨rfl, rfl⟩
            · obtain ⟨rfl, H2⟩ := H2
              have B2 := I.mh A2
              have C2 := A2.md
              show (∃ h' M', f_Md_laysFacts_L45 _ 75 τ (n + 1) h2 i = _ ∧ _) ∨ ∃ h' M', _ ∧ _ ∧ f_Md_laysFacts_L45 _ 75 τ (n + 1) h2 i = _
              rw [f_Md_laysFacts_L45, show w32 (w32 (40 * τ) + (i : Int)) = 40 * τ + i by rw [w32_id (x := 40 * τ) (by omega) (by omega), w32_id (by omega) (by omega)]]
              simp only [C2]
              rw [chk_t trivial, chk_t trivial, chk_t (by omega), if_neg (by omega), chk_t trivial, chk_t trivial, chk_t (by omega), chk_t trivial, s_Md_stands B2 W, bndT_ok (by decide), s_Md_amid, bndT_ok (by decide), w64_id (x := 2 * nS t) (by omega) (by omega), w64_id (by omega) (by omega)]
              by_cases g5 : 0 ≤ M2 98 (40 * τ + i) ∧ M2 98 (40 * τ + i) < 2 * nS t
              · right
                rw [b2d (show 0 ≤ M2 98 (40 * τ + i) ∧ M2 98 (40 * τ + i) ≤ 2 * nS t - 1 by omega), if_neg (by decide), wtv, w32_n i (by omega)]
                refine ⟨h2, M2, A2, ⟨rfl, ?_⟩, rfl⟩
                unfold abN at H2 ⊢
                rw [allN, H2, decide_eq_true g5.1, decide_eq_true g5.2]; rfl
              · left
                have eK : lfK t M2 w τ = 3 := by
                  rw [eK, if_neg]
                  intro q
                  unfold abN at q
                  have q := allN_iff.mp q i (by omega) (by omega)
                  rw [Bool.and_eq_true] at q
                  exact g5 ⟨of_decide_eq_true q.1, of_decide_eq_true q.2⟩
                rw [b2n (show ¬ (0 ≤ M2 98 (40 * τ + i) ∧ M2 98 (40 * τ + i) ≤ 2 * nS t - 1) by omega), if_pos rfl]
                exact ⟨h2, M2, by rw [eK], A2, Fs.rf _ _ _ _, fun e => absurd (eK.symm.trans e) (by decide)⟩
            · obtain ⟨rfl, H2⟩ := H2
              have B2 := I.mh A2
              have C2 := A2.md
              show ∃ h' M', f_Md_laysFacts_L45 _ 75 τ (n + 1) h2 _ = _ ∧ _
              have A3 := A2.fput (v := 75) (i := 34) 0 (by decide) (by decide) (by decide) (by decide +kernel) (by decide)
              have F3 : Fs [93] 75 [34] M2 (mup M2 75 34 0) := (Fs.rf _ _ _ _).ps (by decide)
              have I3 := I.fm (F3.mono (by decide) (by decide))
              obtain ⟨h4, M4, f4, A4, F4, Q4⟩ := s_lf99 A3 I3 g4 (w := w) g2.1 g2.2 (by omega) hw.2 (N := fun i => M2 98 (40 * τ + i)) (m := (M2 97 τ).toNat) (fun i => mup_ne (Or.inl (by decide))) (by rw [mup_ne (Or.inl (by decide))]; exact hmn) (by omega) (fun i q0 q1 => by
                unfold abN at H2
                have q := allN_iff.mp H2 i q0 q1
                rw [Bool.and_eq_true] at q
                exact ⟨of_decide_eq_true q.1, of_decide_eq_true q.2⟩) (mup_eq _ _ _ _)
              rw [f_Md_laysFacts_L45]
              simp only [C2]
              rw [chk_t trivial, chk_t trivial, chk_t (by omega), if_pos (by omega), chk_t trivial, wth, f4]
              exact ⟨h4, M4, by rw [eK, if_pos H2], A4, F3.tr F4, fun _ => ⟨g4, Q4⟩⟩
          · rw [if_neg (show ¬ (if nS t ≤ 20000 then (0 : Int) else 1) = 0 by rw [if_neg g4]; decide)]
            exact no (by decide) (by unfold lfK; rw [if_pos ⟨g1, g2⟩, if_neg (fun q => g4 q.2)])
      · rw [b2n (show ¬ (0 ≤ τ ∧ τ ≤ 3) by omega), chk_t (by decide), bndT_ok (by decide), if_pos rfl]
        exact no (by decide) (by unfold lfK; rw [if_neg (fun q => g2 q.2)])
    · rw [b2n g1, if_pos rfl]
      exact no (by decide) (by unfold lfK; rw [if_neg (fun q => g1 q.1)])
end
