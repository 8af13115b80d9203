/-! hardest, THE REFERENCE -/
section
variable {h : mH} {c : Int} {p L : Int → Int} {M : aM} {t : tT}
theorem th_X {X Y : tT} (e : ∀ j : Int, 0 ≤ j → j < 7 → X j = Y j) (wn : Int → Bool) : th t true X wn = th t true Y wn := by
  have e1 : xm X = xm Y := by
    funext b f u; unfold xm
    rw [e 0 (by decide) (by decide), e 1 (by decide) (by decide), e 2 (by decide) (by decide)]
  have e2 : xh X = xh Y := by
    funext r; unfold xh
    rw [e 4 (by decide) (by decide), e 5 (by decide) (by decide), e 6 (by decide) (by decide)]
  funext s v
  unfold th go why
  rw [e1, e2]
/-- as told, with a rule more -/
def RX (M : aM) (t : tT) : Prop := M 76 = t ∧ WS t ∧ RW t (pa t) ∧ M 75 19 = 1
abbrev FX : aM → aM → Prop := Fs [82, 83, 84, 85, 89] 75 [24]
theorem RX.fx {M' : aM} (J : RX M t) (F : FX M M') : RX M' t := ⟨by rw [F.1 76 (by decide) (by decide)]; exact J.1, J.2.1, J.2.2.1, by rw [F.2 19 (by decide)]; exact J.2.2.2⟩
theorem RX.mh (J : RX M t) (A : At h c p L M) : MH h t (M 82) (M 83) (M 75 19) := by
  have := MH.of A
  rw [J.1] at this; exact this
/-- what the reference keeps of the hardest -/
def HB (M : aM) (B : Int → Int) : Prop := M 89 0 = B 0 ∧ -1 ≤ B 0 ∧ (B 0 = -1 → ∀ j, B j = -1) ∧ (B 0 ≠ -1 → ∀ j, 0 ≤ j → j < 7 → M 89 j = B j)
theorem HB.eq {M' : aM} {B : Int → Int} (H : HB M B) (e : M' 89 = M 89) : HB M' B := by unfold HB at H ⊢; rw [e]; exact H
theorem s_triesIt (A : At h c p L M) (J : RX M t) (hS2 : nS t ≤ 20000) {X : tT} (hX : ∀ j : Int, 0 ≤ j → j < 7 → M 83 j = X j) (hX3 : X 3 = 1) (hX4 : 0 ≤ X 4 ∧ X 4 < nb t) {B : Int → Int} (H : HB M B) (m : Int) : ∃ h' M', f_Md_triesIt h 75 m = some ((3, 0), h') ∧ At h' c p L M' ∧ Fs [82, 84, 85, 89] 75 [24] M M' ∧ HB M' (hT t (wS t) (st t (pa t)) m X B) := by
  have W := J.2.1
  have hz := st_rng W J.2.2.1
  have ho := st_rng W W.ropen
  have B0 := J.mh A
  obtain ⟨h1, M1, f1, A1, F1, Q1⟩ := s_Md_laysFrom (x := true) A (by rw [J.1]; exact W) (by rw [J.1]; exact hS2) J.2.2.2 (fun _ => ⟨by rw [hX 3 (by decide) (by decide)]; exact hX3, by rw [hX 4 (by decide) (by decide), J.1]; exact hX4⟩) (w := wnk t) (wnk_ok W).1 (z := st t (pa t)) hz.1 (by rw [J.1]; exact hz.2)
  rw [J.1] at Q1
  have ex : th t true (M 83) (wM (wnk t)) = th t true X (wS t) := by
    rw [th_X hX, th_wn W (fun _ => hX4) (wnk_ok W).2]
  rw [ex] at Q1
  have C1 := A1.md
  have J1 := J.fx (F1.mono (by decide) (by decide))
  have fs : f_Md_stepsIf h 75 (wnk t) = some ((0, hN t (wS t) (st t (pa t)) X), h1) := by
    unfold f_Md_stepsIf
    rw [chk_t B0.T, s_Md_standNow B0 W J.2.2.1, bndT_ok (by decide), chk_t B0.T, f1, bndT_ok (by decide), chk_t (J1.mh A1).T, chk_t (J1.mh A1).T, s_Md_openStand (J1.mh A1) W W.ropen, bndT_ok (by decide)]
    simp only [C1]
    rw [chk_t trivial, chk_t (by omega), Q1.1 _ ho.1 ho.2]
    rfl
  have H1 : HB M1 B := H.eq (F1.1 89 (by decide) (by decide))
  have F1' : Fs [82, 84, 85, 89] 75 [24] M M1 := F1.mono (by decide) (by decide)
  have x1 : ∀ j : Int, 0 ≤ j → j < 7 → M1 83 j = X j := fun j g0 g1 => by rw [F1.1 83 (by decide) (by decide)]; exact hX j g0 g1
  unfold f_Md_triesIt
  rw [chk_t B0.T, s_Md_worn B0 W, bndT_ok (by decide), chk_t B0.T, show mkM (wS t) (nb t).toNat = wnk t from rfl, fs, bndT_ok (by decide)]
  unfold hT
  have B1 := H1.2.1
  generalize hN t (wS t) (st t (pa t)) X = n
  by_cases g1 : n = -1
  · rw [if_pos g1, if_neg (by omega)]; exact ⟨h1, M1, rfl, A1, F1', H1⟩
  · rw [if_neg g1]
    by_cases g2 : m < n
    · rw [if_pos g2, if_neg (by omega)]; exact ⟨h1, M1, rfl, A1, F1', H1⟩
    · rw [if_neg g2]
      simp only [C1]
      rw [chk_t trivial, chk_t trivial, chk_t (by decide), H1.1]
      by_cases g3 : B 0 < n
      · have A2 := A1.aput (v := 89) 0 n (by decide) (by decide) (by decide) (by decide +kernel) (by decide) (by decide)
        have C2 := A2.md
        have A3 := A2.aput (v := 89) 1 (X 0) (by decide) (by decide) (by decide) (by decide +kernel) (by decide) (by decide)
        have C3 := A3.md
        have A4 := A3.aput (v := 89) 2 (X 1) (by decide) (by decide) (by decide) (by decide +kernel) (by decide) (by decide)
        have C4 := A4.md
        have A5 := A4.aput (v := 89) 3 (X 2) (by decide) (by decide) (by decide) (by decide +kernel) (by decide) (by decide)
        have C5 := A5.md
        have A6 := A5.aput (v := 89) 4 (X 4) (by decide) (by decide) (by decide) (by decide +kernel) (by decide) (by decide)
        have C6 := A6.md
        have A7 := A6.aput (v := 89) 5 (X 5) (by decide) (by decide) (by decide) (by decide +kernel) (by decide) (by decide)
        have C7 := A7.md
        have A8 := A7.aput (v := 89) 6 (X 6) (by decide) (by decide) (by decide) (by decide +kernel) (by decide) (by decide)
        have u : ∀ (N : aM) (i x : Int), mup N 89 i x 83 = N 83 := fun N i x => mup_fn (by decide)
        rw [if_pos g3, if_pos ⟨by omega, g3⟩, chk_t trivial, chk_t trivial, chk_t (by decide), wth]
        simp only [C2]
        rw [chk_t trivial, chk_t trivial, chk_t trivial, chk_t (by decide), chk_t trivial, chk_t (by decide), u, x1 0 (by decide) (by decide), wth]
        simp only [C3]
        rw [chk_t trivial, chk_t trivial, chk_t trivial, chk_t (by decide), chk_t trivial, chk_t (by decide), u, u, x1 1 (by decide) (by decide), wth]
        simp only [C4]
        rw [chk_t trivial, chk_t trivial, chk_t trivial, chk_t (by decide), chk_t trivial, chk_t (by decide), u, u, u, x1 2 (by decide) (by decide), wth]
        simp only [C5]
        rw [chk_t trivial, chk_t trivial, chk_t trivial, chk_t (by decide), chk_t trivial, chk_t (by decide), u, u, u, u, x1 4 (by decide) (by decide), wth]
        simp only [C6]
        rw [chk_t trivial, chk_t trivial, chk_t trivial, chk_t (by decide), chk_t trivial, chk_t (by decide), u, u, u, u, u, x1 5 (by decide) (by decide), wth]
        simp only [C7]
        rw [chk_t trivial, chk_t trivial, chk_t trivial, chk_t (by decide), chk_t trivial, chk_t (by decide), u, u, u, u, u, u, x1 6 (by decide) (by decide), wth]
        refine ⟨_, _, rfl, A8, ((((((F1'.pu (by decide) (by decide)).pu (by decide) (by decide)).pu (by decide) (by decide)).pu (by decide) (by decide)).pu (by decide) (by decide)).pu (by decide) (by decide)).pu (by decide) (by decide), ?_, ?_, fun e => ?_, fun e j j0 j1 => ?_⟩
        · simp [mup]
        · show -1 ≤ n; omega
        · exact absurd (show n = -1 from e) g1
        · rcases (show j = 0 ∨ j = 1 ∨ j = 2 ∨ j = 3 ∨ j = 4 ∨ j = 5 ∨ j = 6 by omega) with rfl | rfl | rfl | rfl | rfl | rfl | rfl <;> simp [mup]
      · rw [if_neg g3, if_neg (fun q => g3 q.2)]; exact ⟨h1, M1, rfl, A1, F1', H1⟩
/-- the first part of the rule stands -/
def XB (M : aM) (b f u : Int) : Prop := M 83 0 = b ∧ M 83 1 = f ∧ M 83 2 = u ∧ M 83 3 = 1
theorem s_tries58 (A : At h c p L M) (J : RX M t) (hS2 : nS t ≤ 20000) {K : mH → Option mR} {b f u o v m : Int} (o0 : 0 ≤ o) (o1 : o < nb t) (v0 : 0 ≤ v) (v1 : v ≤ 1) (HX : XB M b f u) {B : Int → Int} (H : HB M (hA t (wS t) (st t (pa t)) m b f u o (v * pl t o).toNat B)) : ∃ h' M', f_Md_triesOf_L58 K 75 m o v 1000000 h 0 = K h' ∧ At h' c p L M' ∧ FX M M' ∧ XB M' b f u ∧ HB M' (hA t (wS t) (st t (pa t)) m b f u o ((v + 1) * pl t o).toNat B) := by
  have W := J.2.1
  have hpl := W.2.2.2.2.2.1 o o0 o1
  have hvp : 0 ≤ v * pl t o := Int.mul_nonneg v0 (by omega)
  have hve : v = 0 ∨ v = 1 := by omega
  have hvv : (v + 1) * pl t o = v * pl t o + pl t o := by rw [Int.add_mul, Int.one_mul]
  refine loop_am (F := fun n h i => f_Md_triesOf_L58 K 75 m o v n h i) (P := fun r => ∃ h' M', r = K h' ∧ At h' c p L M' ∧ FX M M' ∧ XB M' b f u ∧ HB M' (hA t (wS t) (st t (pa t)) m b f u o ((v + 1) * pl t o).toNat B)) (fun i M' => FX M M' ∧ XB M' b f u ∧ HB M' (hA t (wS t) (st t (pa t)) m b f u o ((v * pl t o).toNat + i) B)) (pl t o).toNat (by omega) (fun i hi h2 M2 A2 H2 n => Or.inr ?_) (fun h2 M2 A2 H2 n => ?_) A ⟨Fs.rf _ _ _ _, HX, by rw [Nat.add_zero]; exact H⟩
  · obtain ⟨F2, X2, H2⟩ := H2
    have J2 := J.fx F2
    have B2 := J2.mh A2
    have C2 := A2.md
    have A3 := A2.aput (v := 83) 4 o (by decide) (by decide) (by decide) (by decide +kernel) (by decide) (by decide)
    have C3 := A3.md
    have A4 := A3.aput (v := 83) 5 v (by decide) (by decide) (by decide) (by decide +kernel) (by decide) (by decide)
    have C4 := A4.md
    have A5 := A4.aput (v := 83) 6 (i : Int) (by decide) (by decide) (by decide) (by decide +kernel) (by decide) (by decide)
    have C5 := A5.md
    have F5 : FX M (mup (mup (mup M2 83 4 o) 83 5 v) 83 6 (i : Int)) := ((F2.pu (by decide) (by decide)).pu (by decide) (by decide)).pu (by decide) (by decide)
    have J5 := J.fx F5
    have hk : (((v * pl t o).toNat + i : Nat) : Int) = v * pl t o + i := by omega
    have x5 : hX t b f u o (((v * pl t o).toNat + i : Nat) : Int) 5 = v ∧ hX t b f u o (((v * pl t o).toNat + i : Nat) : Int) 6 = i := by
      unfold hX; rw [hk]
      rcases hve with rfl | rfl
      · simp [show (i : Int) < pl t o by omega]
      · simp [show ¬ (pl t o + (i : Int) < pl t o) by omega]; omega
    have hx : ∀ j : Int, 0 ≤ j → j < 7 → mup (mup (mup M2 83 4 o) 83 5 v) 83 6 (i : Int) 83 j = hX t b f u o (((v * pl t o).toNat + i : Nat) : Int) j := fun j j0 j1 => by
      rcases (show j = 0 ∨ j = 1 ∨ j = 2 ∨ j = 3 ∨ j = 4 ∨ j = 5 ∨ j = 6 by omega) with rfl | rfl | rfl | rfl | rfl | rfl | rfl
      · rw [mup_ne (Or.inr (by decide)), mup_ne (Or.inr (by decide)), mup_ne (Or.inr (by decide)), X2.1]; rfl
      · rw [mup_ne (Or.inr (by decide)), mup_ne (Or.inr (by decide)), mup_ne (Or.inr (by decide)), X2.2.1]; rfl
      · rw [mup_ne (Or.inr (by decide)), mup_ne (Or.inr (by decide)), mup_ne (Or.inr (by decide)), X2.2.2.1]; rfl
      · rw [mup_ne (Or.inr (by decide)), mup_ne (Or.inr (by decide)), mup_ne (Or.inr (by decide)), X2.2.2.2]; rfl
      · rw [mup_ne (Or.inr (by decide)), mup_ne (Or.inr (by decide)), mup_eq]; rfl
      · rw [mup_ne (Or.inr (by decide)), mup_eq, x5.1]
      · rw [mup_eq, x5.2]
    have H5 : HB (mup (mup (mup M2 83 4 o) 83 5 v) 83 6 (i : Int)) (hA t (wS t) (st t (pa t)) m b f u o ((v * pl t o).toNat + i) B) := H2.eq (by rw [mup_fn (by decide), mup_fn (by decide), mup_fn (by decide)])
    obtain ⟨h6, M6, f6, A6, F6, H6⟩ := s_triesIt A5 J5 hS2 hx rfl ⟨o0, o1⟩ H5 m
    refine ⟨h6, M6, A6, ⟨F5.tr (F6.mono (by decide) (by decide)), ?_, H6⟩, ?_⟩
    · unfold XB; rw [F6.1 83 (by decide) (by decide), hx 0 (by decide) (by decide), hx 1 (by decide) (by decide), hx 2 (by decide) (by decide), hx 3 (by decide) (by decide)]
      exact ⟨rfl, rfl, rfl, rfl⟩
    · rw [f_Md_triesOf_L58, chk_t B2.T, s_Md_pl B2 W o0 o1, bndT_ok (by decide), if_neg (by omega)]
      simp only [C2]
      rw [chk_t trivial, chk_t trivial, chk_t (by decide), wth]
      simp only [C3]
      rw [chk_t trivial, chk_t trivial, chk_t (by decide), wth]
      simp only [C4]
      rw [chk_t trivial, chk_t trivial, chk_t (by decide), wth]
      simp only [C5]
      rw [chk_t trivial, f6, bndT_ok (by decide), wtv, w32_n i (by omega)]
  · obtain ⟨F2, X2, H2⟩ := H2
    have J2 := J.fx F2
    have B2 := J2.mh A2
    refine ⟨h2, M2, ?_, A2, F2, X2, ?_⟩
    · rw [f_Md_triesOf_L58, chk_t B2.T, s_Md_pl B2 W o0 o1, bndT_ok (by decide), if_pos (by omega)]
    · rw [hvv, show (v * pl t o + pl t o).toNat = (v * pl t o).toNat + (pl t o).toNat by omega]; exact H2
theorem s_triesOf (A : At h c p L M) (J : RX M t) (hS2 : nS t ≤ 20000) {b f u m : Int} (u0 : 0 ≤ u) (u1 : u < pl t b) {B : Int → Int} (H : HB M B) : ∃ h' M', f_Md_triesOf h 75 b f u m = some ((3, 0), h') ∧ At h' c p L M' ∧ FX M M' ∧ HB M' (hU t (wS t) (st t (pa t)) m b f u B) := by
  have W := J.2.1
  have hnb := W.1
  have C := A.md
  have A1 := A.aput (v := 83) 0 b (by decide) (by decide) (by decide) (by decide +kernel) (by decide) (by decide)
  have C1 := A1.md
  have A2 := A1.aput (v := 83) 1 f (by decide) (by decide) (by decide) (by decide +kernel) (by decide) (by decide)
  have C2 := A2.md
  have A3 := A2.aput (v := 83) 2 u (by decide) (by decide) (by decide) (by decide +kernel) (by decide) (by decide)
  have C3 := A3.md
  have A4 := A3.aput (v := 83) 3 1 (by decide) (by decide) (by decide) (by decide +kernel) (by decide) (by decide)
  have F4 : FX M (mup (mup (mup (mup M 83 0 b) 83 1 f) 83 2 u) 83 3 1) := ((((Fs.rf _ _ _ _).pu (by decide) (by decide)).pu (by decide) (by decide)).pu (by decide) (by decide)).pu (by decide) (by decide)
  have X4 : XB (mup (mup (mup (mup M 83 0 b) 83 1 f) 83 2 u) 83 3 1) b f u := by
    refine ⟨?_, ?_, ?_, ?_⟩ <;> simp [mup]
  have H4 : HB (mup (mup (mup (mup M 83 0 b) 83 1 f) 83 2 u) 83 3 1) B := H.eq (by rw [mup_fn (by decide), mup_fn (by decide), mup_fn (by decide), mup_fn (by decide)])
  unfold f_Md_triesOf hU
  simp only [C]
  rw [chk_t trivial, chk_t trivial, chk_t (by decide), wth]
  simp only [C1]
  rw [chk_t trivial, chk_t trivial, chk_t (by decide), wth]
  simp only [C2]
  rw [chk_t trivial, chk_t trivial, chk_t (by decide), wth]
  simp only [C3]
  rw [chk_t trivial, chk_t trivial, chk_t (by decide), wth, if_neg (by omega)]
  generalize mup (mup (mup (mup M 83 0 b) 83 1 f) 83 2 u) 83 3 1 = N at A4 F4 X4 H4
  refine loop_am (F := fun n h i => f_Md_triesOf_L31 75 b m n h i) (P := fun r => ∃ h' M', r = some ((3, 0), h') ∧ At h' c p L M' ∧ FX M M' ∧ HB M' (hC t (wS t) (st t (pa t)) m b f u (nb t).toNat B)) (fun i M' => FX M M' ∧ XB M' b f u ∧ HB M' (hC t (wS t) (st t (pa t)) m b f u i B)) (nb t).toNat (by omega) (fun i hi h5 M5 A5 H5 n => Or.inr ?_) (fun h5 M5 A5 H5 n => ?_) A4 ⟨F4, X4, H4⟩
  · obtain ⟨F5, X5, H5⟩ := H5
    have J5 := J.fx F5
    have B5 := J5.mh A5
    have hpl := W.2.2.2.2.2.1 i (by omega) (by omega)
    have j113 : ∀ h, f_Md_triesOf_J113 (f_Md_triesOf_L31 75 b m n) i h = f_Md_triesOf_L31 75 b m n h ((i + 1 : Nat) : Int) := fun h => by
      unfold f_Md_triesOf_J113; rw [wtv, w32_n i (by omega)]
    have e43 : ∀ (K : mH → Option mR) (h : mH), f_Md_triesOf_L43 K 75 b m i 1000000 h 0 = f_Md_triesOf_L43 K 75 b m i (999999 + 1) h 0 := fun K h => rfl
    rw [f_Md_triesOf_L31, chk_t B5.T, s_Md_bars B5, bndT_ok (by decide), if_neg (by omega)]
    by_cases g : (i : Int) = b
    · refine ⟨h5, M5, A5, ⟨F5, X5, by rw [hC, if_pos g]; exact H5⟩, ?_⟩
      rw [e43, f_Md_triesOf_L43, if_neg (by decide), if_pos g, j113]
    · have := loop_am (c := c) (p := p) (L := L) (F := fun n2 h v => f_Md_triesOf_L43 (fun h3 => f_Md_triesOf_J113 (f_Md_triesOf_L31 75 b m n) i h3) 75 b m i n2 h v) (P := fun r => ∃ h' M', r = f_Md_triesOf_L31 75 b m n h' ((i + 1 : Nat) : Int) ∧ At h' c p L M' ∧ FX M M' ∧ XB M' b f u ∧ HB M' (hA t (wS t) (st t (pa t)) m b f u i (2 * pl t i).toNat (hC t (wS t) (st t (pa t)) m b f u i B))) (fun v M' => FX M M' ∧ XB M' b f u ∧ HB M' (hA t (wS t) (st t (pa t)) m b f u i ((v : Int) * pl t i).toNat (hC t (wS t) (st t (pa t)) m b f u i B))) 2 (by omega) (fun v hv h6 M6 A6 H6 n3 => Or.inr ?_) (fun h6 M6 A6 H6 n3 => ?_) A5 ⟨F5, X5, by rw [show (((0 : Nat) : Int) * pl t i).toNat = 0 by simp]; exact H5⟩
      · obtain ⟨h6, M6, f6, A6, F6, X6, H6⟩ := this
        refine ⟨h6, M6, A6, ⟨F6, X6, ?_⟩, f6⟩
        rw [hC, if_neg g]; exact H6
      · obtain ⟨F6, X6, H6⟩ := H6
        have J6 := J.fx F6
        obtain ⟨h7, M7, f7, A7, F7, X7, H7⟩ := s_tries58 A6 J6 hS2 (K := fun h1 => wtv (w32 ((v : Int) + 1)) (fun x2 => (f_Md_triesOf_L43 (fun h3 => f_Md_triesOf_J113 (f_Md_triesOf_L31 75 b m n) i h3) 75 b m i n3) h1 x2)) (o := (i : Int)) (v := (v : Int)) (by omega) (by omega) (by omega) (by omega) X6 H6
        rw [f_Md_triesOf_L43, if_neg (by omega), if_neg g, f7, wtv, w32_n v (by omega)]
        exact ⟨h7, M7, A7, ⟨F6.tr F7, X7, H7⟩, rfl⟩
      · obtain ⟨F6, X6, H6⟩ := H6
        refine ⟨h6, M6, ?_, A6, F6, X6, H6⟩
        rw [f_Md_triesOf_L43, if_pos (by decide), j113]
  · obtain ⟨F5, X5, H5⟩ := H5
    have J5 := J.fx F5
    have B5 := J5.mh A5
    refine ⟨h5, M5, ?_, A5, F5, H5⟩
    rw [f_Md_triesOf_L31, chk_t B5.T, s_Md_bars B5, bndT_ok (by decide), if_pos (by omega)]
/-- the steps of one bar -/
theorem s_hard81 (A : At h c p L M) (J : RX M t) (hS2 : nS t ≤ 20000) {K : mH → Option mR} {b m : Int} (b0 : 0 ≤ b) (b1 : b < nb t) {B : Int → Int} (H : HB M B) : ∃ h' M', f_Md_hardest_L81 K 75 m b 1000000 h 0 = K h' ∧ At h' c p L M' ∧ FX M M' ∧ HB M' (hFr t (wS t) (st t (pa t)) m b (pl t b).toNat B) := by
  have W := J.2.1
  have hpl := W.2.2.2.2.2.1 b b0 b1
  refine loop_am (F := fun n h i => f_Md_hardest_L81 K 75 m b n h i) (P := fun r => ∃ h' M', r = K h' ∧ At h' c p L M' ∧ FX M M' ∧ HB M' (hFr t (wS t) (st t (pa t)) m b (pl t b).toNat B)) (fun i M' => FX M M' ∧ HB M' (hFr t (wS t) (st t (pa t)) m b i B)) (pl t b).toNat (by omega) (fun i hi h2 M2 A2 H2 n => Or.inr ?_) (fun h2 M2 A2 H2 n => ?_) A ⟨Fs.rf _ _ _ _, H⟩
  · obtain ⟨F2, H2⟩ := H2
    have J2 := J.fx F2
    have B2 := J2.mh A2
    have hc : hFr t (wS t) (st t (pa t)) m b (i + 1) B = hU t (wS t) (st t (pa t)) m b i ((i : Int) + 1) (hU t (wS t) (st t (pa t)) m b i ((i : Int) - 1) (hFr t (wS t) (st t (pa t)) m b i B)) := rfl
    have j134 : ∀ h, f_Md_hardest_J134 (f_Md_hardest_L81 K 75 m b n) i h = f_Md_hardest_L81 K 75 m b n h ((i + 1 : Nat) : Int) := fun h => by
      unfold f_Md_hardest_J134; rw [wtv, w32_n i (by omega)]
    have up : ∀ h3 M3 B3, At h3 c p L M3 → FX M M3 → HB M3 B3 → ∃ h' M', f_Md_hardest_J109 (f_Md_hardest_L81 K 75 m b n) 75 m b i h3 = f_Md_hardest_L81 K 75 m b n h' ((i + 1 : Nat) : Int) ∧ At h' c p L M' ∧ FX M M' ∧ HB M' (hU t (wS t) (st t (pa t)) m b i ((i : Int) + 1) B3) := fun h3 M3 B3 A3 F3 H3 => by
      have J3 := J.fx F3
      unfold f_Md_hardest_J109
      rw [chk_t (J3.mh A3).T, s_Md_pl (J3.mh A3) W b0 b1, bndT_ok (by decide), w32_id (by omega) (by omega)]
      by_cases g : pl t b - 1 ≤ i
      · rw [if_pos g, j134]
        refine ⟨h3, M3, rfl, A3, F3, ?_⟩
        unfold hU; rw [if_pos (by omega)]; exact H3
      · obtain ⟨h4, M4, f4, A4, F4, H4⟩ := s_triesOf A3 J3 hS2 (b := b) (f := (i : Int)) (u := (i : Int) + 1) (m := m) (by omega) (by omega) H3
        rw [if_neg g, chk_t (J3.mh A3).T, w32_id (x := (i : Int) + 1) (by omega) (by omega), f4, bndT_ok (by decide), j134]
        exact ⟨h4, M4, rfl, A4, F3.tr F4, H4⟩
    rw [f_Md_hardest_L81, chk_t B2.T, s_Md_pl B2 W b0 b1, bndT_ok (by decide), if_neg (by omega), hc]
    by_cases g : (i : Int) ≤ 0
    · have e : hU t (wS t) (st t (pa t)) m b i ((i : Int) - 1) (hFr t (wS t) (st t (pa t)) m b i B) = hFr t (wS t) (st t (pa t)) m b i B := by unfold hU; rw [if_pos (by omega)]
      rw [if_pos g, e]
      obtain ⟨h4, M4, f4, A4, F4, H4⟩ := up h2 M2 _ A2 F2 H2
      exact ⟨h4, M4, A4, ⟨F4, H4⟩, f4⟩
    · obtain ⟨h3, M3, f3, A3, F3, H3⟩ := s_triesOf A2 J2 hS2 (b := b) (f := (i : Int)) (u := (i : Int) - 1) (m := m) (by omega) (by omega) H2
      rw [if_neg g, chk_t B2.T, w32_id (x := (i : Int) - 1) (by omega) (by omega), f3, bndT_ok (by decide)]
      obtain ⟨h4, M4, f4, A4, F4, H4⟩ := up h3 M3 _ A3 (F2.tr F3) H3
      exact ⟨h4, M4, A4, ⟨F4, H4⟩, f4⟩
  · obtain ⟨F2, H2⟩ := H2
    have J2 := J.fx F2
    have B2 := J2.mh A2
    refine ⟨h2, M2, ?_, A2, F2, H2⟩
    rw [f_Md_hardest_L81, chk_t B2.T, s_Md_pl B2 W b0 b1, bndT_ok (by decide), if_pos (by omega)]
theorem s_hard70 (A : At h c p L M) (J : RX M t) (hS2 : nS t ≤ 20000) {K : mH → Option mR} {m : Int} {B : Int → Int} (H : HB M B) : ∃ h' M', f_Md_hardest_L70 K 75 m 1000000 h 0 = K h' ∧ At h' c p L M' ∧ FX M M' ∧ HB M' (hBr t (wS t) (st t (pa t)) m (nb t).toNat B) := by
  have W := J.2.1
  have hnb := W.1
  refine loop_am (F := fun n h i => f_Md_hardest_L70 K 75 m n h i) (P := fun r => ∃ h' M', r = K h' ∧ At h' c p L M' ∧ FX M M' ∧ HB M' (hBr t (wS t) (st t (pa t)) m (nb t).toNat B)) (fun i M' => FX M M' ∧ HB M' (hBr t (wS t) (st t (pa t)) m i B)) (nb t).toNat (by omega) (fun i hi h2 M2 A2 H2 n => Or.inr ?_) (fun h2 M2 A2 H2 n => ?_) A ⟨Fs.rf _ _ _ _, H⟩
  · obtain ⟨F2, H2⟩ := H2
    have J2 := J.fx F2
    have B2 := J2.mh A2
    obtain ⟨h3, M3, f3, A3, F3, H3⟩ := s_hard81 A2 J2 hS2 (K := fun h3 => wtv (w32 ((i : Int) + 1)) (fun x4 => (f_Md_hardest_L70 K 75 m n) h3 x4)) (b := (i : Int)) (m := m) (by omega) (by omega) H2
    rw [f_Md_hardest_L70, chk_t B2.T, s_Md_bars B2, bndT_ok (by decide), if_neg (by omega), f3, wtv, w32_n i (by omega)]
    exact ⟨h3, M3, A3, ⟨F2.tr F3, H3⟩, rfl⟩
  · obtain ⟨F2, H2⟩ := H2
    have J2 := J.fx F2
    have B2 := J2.mh A2
    refine ⟨h2, M2, ?_, A2, F2, H2⟩
    rw [f_Md_hardest_L70, chk_t B2.T, s_Md_bars B2, bndT_ok (by decide), if_pos (by omega)]
theorem r_hardest (A : At h c p L M) (I : RI M t) (m w : Int) : RV c p L M 0 (f_Md_hardest h 75 m w) (hH t (wS t) (st t (pa t)) m w) (if (1 ≤ m ∧ m ≤ 999) ∧ 0 ≤ w ∧ w ≤ 6 then (if nS t ≤ 600 then 0 else 2) else 1) := by
  have W := I.2.1
  have j44 : ∀ k : Int, 0 ≤ k → (k = 0 → ((1 ≤ m ∧ m ≤ 999) ∧ 0 ≤ w ∧ w ≤ 6) ∧ nS t ≤ 600) → RV c p L M 0 (f_Md_hardest_J44 75 m w 75 k h) (hH t (wS t) (st t (pa t)) m w) k := fun k k0 hk => by
    unfold f_Md_hardest_J44
    refine RV_head A I k0 (fun _ => rfl) (fun e h1 M1 A1 I1 z1 F1 => ?_)
    obtain ⟨⟨hm, hw⟩, hS⟩ := hk e
    have C1 := A1.md
    have A2 := A1.aput (v := 89) 0 (-1) (by decide) (by decide) (by decide) (by decide +kernel) (by decide) (by decide)
    have C2 := A2.md
    have A3 := A2.fput (v := 75) (i := 19) 1 (by decide) (by decide) (by decide) (by decide +kernel) (by decide)
    have J3 : RX (mup (mup M1 89 0 (-1)) 75 19 1) t := ⟨by rw [mup_fn (by decide), mup_fn (by decide)]; exact I1.1, W, I.2.2.1, mup_eq _ _ _ _⟩
    have H3 : HB (mup (mup M1 89 0 (-1)) 75 19 1) (fun _ => -1) := ⟨by rw [mup_fn (by decide), mup_eq], Int.le_refl _, fun _ _ => rfl, fun e => absurd rfl e⟩
    obtain ⟨h4, M4, f4, A4, F4, H4⟩ := s_hard70 A3 J3 (by omega) (K := fun h4  => chk (hpT h4 75 = 12) (chk (0 = (0 : Int) ∨ 0 = (1 : Int)) (wth (hput h4 75 19 0) (fun h5 => chk (hpT h5 75 = 12) (chk (hpT h5 (hpV h5 75 28) = 21) (chk ((0 : Int) ≤ 0 ∧ 0 < hpL h5 (hpV h5 75 28)) ((if hpV h5 (hpV h5 75 28) 0 = (-1) then some ((0, (-1)), h5) else chk (hpT h5 75 = 12) (chk (hpT h5 (hpV h5 75 28) = 21) (chk ((0 : Int) ≤ w ∧ w < hpL h5 (hpV h5 75 28)) (some ((0, hpV h5 (hpV h5 75 28) w), h5)))))))))))) (m := m) H3
    have C4 := A4.md
    have A5 := A4.fput (v := 75) (i := 19) 0 (by decide) (by decide) (by decide) (by decide +kernel) (by decide)
    have C5 := A5.md
    have F5 : FM M1 (mup M4 75 19 0) := by
      refine ⟨fun v hv hv2 => ?_, fun i hi => ?_⟩
      · rw [mup_fn hv2, F4.1 v (fun q => hv (by revert q; simp only [rL, List.mem_cons, List.not_mem_nil, or_false]; omega)) hv2, mup_fn hv2, mup_fn (fun q => hv (by rw [q]; decide))]
      · by_cases e19 : i = 19
        · rw [e19, mup_eq]; exact I1.2.2.2.symm
        · rw [mup_ne (Or.inr e19), F4.2 i (fun q => hi (by revert q; simp only [rS, List.mem_cons, List.not_mem_nil, or_false]; omega)), mup_ne (Or.inr e19), mup_ne (Or.inl (by decide))]
    have q1 : hpV h1 75 28 = 89 := by simp only [C1]
    have q2 : hpT h1 89 = 21 := by simp only [C1]
    have q3 : hpL h1 89 = 7 := by simp only [C1]
    rw [chk_t (MH.of A1).T, q1, chk_t q2, chk_t (by rw [q3]; decide), wth, chk_t (MH.of A2).T, chk_t (by decide), wth, f4]
    simp only [C4]
    rw [chk_t trivial, chk_t (by decide), wth]
    simp only [C5]
    have z5 : mup M4 75 19 0 75 5 = 0 := by rw [mup_ne (Or.inr (by decide)), F4.2 5 (by decide), mup_ne (Or.inr (by decide)), mup_ne (Or.inl (by decide))]; exact z1
    have e0 : mup M4 75 19 0 89 0 = hH t (wS t) (st t (pa t)) m 0 := by rw [mup_ne (Or.inl (by decide))]; exact H4.1
    rw [chk_t trivial, chk_t trivial, chk_t (by decide), e0]
    refine RV_mv F5 ?_
    by_cases g : hH t (wS t) (st t (pa t)) m 0 = -1
    · have : hH t (wS t) (st t (pa t)) m w = -1 := H4.2.2.1 g w
      rw [if_pos g, this]; exact RV_ok A5 z5
    · have : mup M4 75 19 0 89 w = hH t (wS t) (st t (pa t)) m w := by rw [mup_ne (Or.inl (by decide))]; exact H4.2.2.2 g w hw.1 (by omega)
      rw [if_neg g, chk_t trivial, chk_t trivial, chk_t (by omega), this]; exact RV_ok A5 z5
  unfold f_Md_hardest
  rw [s_Md_amid, bndT_ok (by decide)]
  by_cases g1 : 1 ≤ m ∧ m ≤ 999
  · rw [b2d g1, if_neg (by decide), s_Md_amid, bndT_ok (by decide)]
    by_cases g2 : 0 ≤ w ∧ w ≤ 6
    · rw [b2d g2, if_neg (show ¬ (1 : Int) = 0 by decide), chk_t (I.mh A).T, s_Md_stands (I.mh A) W, bndT_ok (by decide)]
      by_cases g3 : nS t ≤ 600
      · rw [show (if (1 ≤ m ∧ m ≤ 999) ∧ 0 ≤ w ∧ w ≤ 6 then (if nS t ≤ 600 then (0 : Int) else 2) else 1) = 0 by rw [if_pos ⟨g1, g2⟩, if_pos g3], if_pos g3]; exact j44 0 (by decide) (fun _ => ⟨⟨g1, g2⟩, g3⟩)
      · rw [show (if (1 ≤ m ∧ m ≤ 999) ∧ 0 ≤ w ∧ w ≤ 6 then (if nS t ≤ 600 then (0 : Int) else 2) else 1) = 2 by rw [if_pos ⟨g1, g2⟩, if_neg g3], if_neg g3]; exact j44 2 (by decide) (fun e => absurd e (by decide))
    · rw [b2n g2, if_pos rfl, if_neg (fun q => g2 q.2)]; unfold f_Md_hardest_J25; exact j44 1 (by decide) (fun e => absurd e (by decide))
  · rw [b2n g1, if_pos rfl, if_neg (fun q => g1 q.1)]; unfold f_Md_hardest_J25; exact j44 1 (by decide) (fun e => absurd e (by decide))
end
