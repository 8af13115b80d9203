/-! perform, judge AND thief, THE REFERENCE -/
section
variable {h : mH} {c : Int} {p L : Int → Int} {M : aM} {t : tT}
theorem Fs.fgo {N : aM} (F : FGO M N) : FU M N := F.mono (by decide) (by decide)
theorem hp_thr (A : At h c p L M) (k : Int) : hpV (hput h 75 5 k) 75 5 = k := by
  have C := (A.thr k).md
  simp only [C]; exact thr_eq M k
theorem r_perform (A : At h c p L M) (I : RI M t) {m : Int} (B : MDB t m) (hm : m ≤ 50000) {τ : Int} (ht : 0 ≤ τ → τ < 4 → M 96 τ ≠ -1 → (0 ≤ M 97 τ ∧ M 97 τ ≤ 40) ∧ TL (fun i => M 98 (40 * τ + i)) (M 97 τ)) : RC c p L M 0 (f_Md_perform h 75 τ) (vP t (fun i => M 98 (40 * τ + i)) (M 97 τ).toNat).2 (if 0 ≤ τ ∧ τ < 4 then (if M 96 τ = -1 then 2 else 0) else 1) (if (0 ≤ τ ∧ τ < 4) ∧ M 96 τ ≠ -1 then (vP t (fun i => M 98 (40 * τ + i)) (M 97 τ).toNat).1 else t) := by
  unfold f_Md_perform
  rw [chk_t (I.mh A).T, s_trayFault A τ, bndT_ok (by decide), chk_t (I.mh A).T, wth]
  have no : ∀ k : Int, 0 < k → RC c p L M 0 (chk (hpT (hput h 75 5 k) 75 = 12) (if hpV (hput h 75 5 k) 75 5 ≤ 0 then chk (hpT (hput h 75 5 k) 75 = 12) (bndT 0 (f_Md_goesBy (hput h 75 5 k) 75 τ) (fun x5 h4 => some ((0, x5), h4))) else some ((0, 0), hput h 75 5 k))) (vP t (fun i => M 98 (40 * τ + i)) (M 97 τ).toNat).2 k t := fun k k0 => by
    rw [chk_t ((I.fm (FM.thr M k)).mh (A.thr k)).T, hp_thr A k, if_neg (by omega)]
    exact RC_mv (FM.thr M k).ft (RC_no (A.thr k) (by rw [mup_fn (by decide)]; exact I.1) (thr_eq M k) (by omega))
  by_cases g1 : 0 ≤ τ ∧ τ < 4
  · by_cases g2 : M 96 τ = -1
    · rw [if_pos g1, if_pos g2, if_neg (show ¬ ((0 ≤ τ ∧ τ < 4) ∧ M 96 τ ≠ -1) from fun q => q.2 g2)]; exact no 2 (by decide)
    · rw [if_pos g1, if_neg g2, if_pos (show (0 ≤ τ ∧ τ < 4) ∧ M 96 τ ≠ -1 from ⟨g1, g2⟩)]
      obtain ⟨q1, q2⟩ := ht g1.1 g1.2 g2
      have A1 := A.thr 0
      have I1 := I.fm (FM.thr M 0)
      have k98 : mup M 75 5 0 98 = M 98 := mup_fn (by decide)
      have k97 : mup M 75 5 0 97 = M 97 := mup_fn (by decide)
      obtain ⟨h2, M2, f2, A2, F2, I2, o2⟩ := s_goesBy A1 I1 B hm g1.1 g1.2 (N := fun i => M 98 (40 * τ + i)) (k := (M 97 τ).toNat) (fun i => by rw [k98]) (by rw [k97]; omega) (by omega) (by rw [show (((M 97 τ).toNat : Nat) : Int) = M 97 τ by omega]; exact q2)
      rw [chk_t (I1.mh A1).T, hp_thr A 0, if_pos (by decide), chk_t (I1.mh A1).T, f2, bndT_ok (by decide)]
      exact RC_mv ((FM.thr M 0).ft.tr F2.fgo) (RC_ok A2 I2.1 (by rw [F2.2 5 (by decide)]; exact thr_eq M 0))
  · rw [if_neg g1, if_neg (show ¬ ((0 ≤ τ ∧ τ < 4) ∧ M 96 τ ≠ -1) from fun q => g1 q.1)]; exact no 1 (by decide)
theorem r_judge (A : At h c p L M) (I : RI M t) {m : Int} (B : MDB t m) (hm : m ≤ 50000) {τ : Int} (w : Int) (ht : 0 ≤ τ → τ < 4 → M 96 τ ≠ -1 → (0 ≤ M 97 τ ∧ M 97 τ ≤ 40) ∧ TL (fun i => M 98 (40 * τ + i)) (M 97 τ)) : RC c p L M 0 (f_Md_judge h 75 τ w) (juV t (fun i => M 98 (40 * τ + i)) (M 97 τ).toNat w) (if 0 ≤ τ ∧ τ < 4 then (if M 96 τ = -1 then 2 else if 0 ≤ w ∧ w ≤ 3 then 0 else 3) else 1) t := by
  have W := I.2.1
  have D := I.2.2.1
  have no : ∀ (h1 : mH) (M1 : aM) (k : Int), 0 < k → At h1 c p L M1 → FM M M1 → M1 75 5 = k → RC c p L M 0 (f_Md_judge_J33 75 τ w h1) (juV t (fun i => M 98 (40 * τ + i)) (M 97 τ).toNat w) k t := fun h1 M1 k k0 A1 F1 e1 => by
    have C1 := A1.md
    unfold f_Md_judge_J33
    simp only [C1]
    rw [chk_t trivial, e1, if_neg (by omega)]
    exact RC_mv F1.ft (RC_no A1 (I.fm F1).1 e1 (by omega))
  unfold f_Md_judge
  rw [chk_t (I.mh A).T, s_trayFault A τ, bndT_ok (by decide), chk_t (I.mh A).T, wth]
  by_cases g1 : 0 ≤ τ ∧ τ < 4
  · by_cases g2 : M 96 τ = -1
    · rw [if_pos g1, if_pos g2, if_pos g1, if_pos g2, chk_t ((I.fm (FM.thr M 2)).mh (A.thr 2)).T, hp_thr A 2, if_neg (by decide)]
      exact no _ _ 2 (by decide) (A.thr 2) (FM.thr M 2) (thr_eq M 2)
    · have A1 := A.thr 0
      have I1 := I.fm (FM.thr M 0)
      rw [if_pos g1, if_neg g2, if_pos g1, if_neg g2, chk_t (I1.mh A1).T, hp_thr A 0, if_pos rfl, s_Md_amid, bndT_ok (by decide)]
      by_cases g3 : 0 ≤ w ∧ w ≤ 3
      · rw [b2d g3, if_neg (by decide), if_pos g3]
        obtain ⟨q1, q2⟩ := ht g1.1 g1.2 g2
        have k98 : mup M 75 5 0 98 = M 98 := mup_fn (by decide)
        have k97 : mup M 75 5 0 97 = M 97 := mup_fn (by decide)
        have ek : (((M 97 τ).toNat : Nat) : Int) = M 97 τ := by omega
        generalize hN : (fun i => M 98 (40 * τ + i)) = N at q2 ⊢
        generalize hkk : (M 97 τ).toNat = k at ek ⊢
        obtain ⟨h2, M2, f2, A2, F2, c2⟩ := s_cp76 A1
        have I2 := I1.fm (F2.fm (by decide) (by decide))
        have C1 := A1.md
        obtain ⟨h3, M3, f3, A3, F3, I3, o3⟩ := s_goesBy A2 I2 B hm g1.1 g1.2 (N := N) (k := k) (fun i => by rw [F2 98 (by decide), k98, ← hN]) (by rw [F2 97 (by decide), k97, ek]) (by omega) (by rw [ek]; exact q2)
        have C3 := A3.md
        have F3' : FU M M3 := (FM.thr M 0).ft.tr (((F2.fm (by decide) (by decide)).ft).tr F3.fgo)
        have hv := vP_rng t N k
        have e97 : M3 97 τ = (k : Int) := by rw [F3.1 97 (by decide) (by decide), F2 97 (by decide), k97, ek]
        have e98 : M3 98 (40 * τ + (vP t N k).2) = N (vP t N k).2 := by rw [F3.1 98 (by decide) (by decide), F2 98 (by decide), k98, ← hN]
        have e78 : ∀ j : Int, 0 ≤ j ∧ j < 434 → M3 78 j = t j := fun j hj => by rw [F3.1 78 (by decide) (by decide), c2 j, if_pos hj, show mup M 75 5 0 76 = M 76 from mup_fn (by decide), I.1]
        have ev : ∀ j : Int, ¬ (0 ≤ j ∧ j < 434) → M3 76 j = t j := fun j hj => by rw [I3.1]; exact vP_OUT W D B k j hj
        have e5 : M3 75 5 = 0 := by rw [F3.2 5 (by decide), F2 75 (by decide)]; exact thr_eq M 0
        have j88 : ∀ (h4 : mH) (M4 : aM) (v4 : Int), At h4 c p L M4 → Fr [82] M3 M4 → v4 = (if (vP t N k).2 = k then 0 else whN (vP t N k).1 (N (vP t N k).2)) → RC c p L M3 0 (f_Md_judge_J88 75 w (vP t N k).2 v4 h4) (juV t N k w) 0 t := fun h4 M4 v4 A4 F4 hv4 => by
          have I4 := I3.fm (F4.fm (by decide) (by decide))
          have C4 := A4.md
          have j102 : ∀ s0, s0 = b2i (isO (vP t N k).1) → RC c p L M3 0 (f_Md_judge_J102 75 w (vP t N k).2 v4 s0 h4) (juV t N k w) 0 t := fun s0 hs0 => by
            obtain ⟨h5, M5, f5, A5, F5, c5⟩ := s_cp78 A4
            have C5 := A5.md
            have e76 : M5 76 = t := by
              funext j
              rw [c5 j]
              by_cases hj : 0 ≤ j ∧ j < 434
              · rw [if_pos hj, F4 78 (by decide), e78 j hj]
              · rw [if_neg hj, F4 76 (by decide), ev j hj]
            have F5' : FU M3 M5 := ((F4.ft (by decide) (by decide)).tr (F5.ft (by decide) (by decide)))
            have x5 : M5 75 5 = 0 := by rw [F5 75 (by decide), F4 75 (by decide)]; exact e5
            have x20 : M5 75 20 = vO t N k := by rw [F5 75 (by decide), F4 75 (by decide)]; exact o3
            unfold f_Md_judge_J102
            simp only [C4]
            rw [chk_t trivial, chk_t trivial, f5, bndT_ok (by decide)]
            simp only [C5]
            rw [x20, chk_t trivial]
            unfold juV
            refine RC_mv F5' ?_
            by_cases w0 : w = 0
            · rw [if_pos w0, if_pos w0, hv4]
              by_cases q : (vP t N k).2 = k
              · rw [if_pos q, if_pos q, if_pos rfl]; exact RC_ok A5 e76 x5
              · rw [if_neg q, if_neg q, if_neg (vP_stop (by omega))]; exact RC_ok A5 e76 x5
            · rw [if_neg w0, if_neg w0]
              by_cases w1 : w = 1
              · rw [if_pos w1, if_pos w1, ← hv4]; exact RC_ok A5 e76 x5
              · rw [if_neg w1, if_neg w1]
                by_cases w2 : w = 2
                · rw [if_pos w2, if_pos w2, hs0]; exact RC_ok A5 e76 x5
                · rw [if_neg w2, if_neg w2]; exact RC_ok A5 e76 x5
          unfold f_Md_judge_J88
          rw [chk_t (I4.mh A4).T, s_Md_isOpenNow A4 I4, bndT_ok (by decide)]
          cases q : isO (vP t N k).1
          · rw [if_pos (show b2i false = 0 from rfl)]; exact j102 0 (by rw [q]; rfl)
          · rw [if_neg (by decide)]; exact j102 1 (by rw [q]; rfl)
        unfold f_Md_judge_J33
        simp only [C1]
        rw [chk_t trivial, thr_eq, if_pos (by decide), chk_t trivial, chk_t trivial, f2, bndT_ok (by decide), chk_t (I2.mh A2).T, f3, bndT_ok (by decide)]
        simp only [C3]
        rw [chk_t trivial, chk_t trivial, chk_t (by omega), e97]
        refine RC_mv F3' ?_
        by_cases q : (vP t N k).2 = k
        · rw [if_pos q]; exact j88 h3 M3 0 A3 (Fr.rf _ _) (by rw [if_pos q])
        · have hlt : (vP t N k).2 < k := by omega
          have hx : w32 (w32 (40 * τ) + (vP t N k).2) = 40 * τ + (vP t N k).2 := by rw [w32_id (x := 40 * τ) (by omega) (by omega), w32_id (by omega) (by omega)]
          obtain ⟨h4, M4, f4, A4, F4⟩ := s_verseWhy A3 I3 (v := N (vP t N k).2) (q2 _ hv.1 (by omega))
          rw [if_neg q, hx, chk_t trivial, chk_t trivial, chk_t (by omega), chk_t trivial, e98, f4, bndT_ok (by decide)]
          exact j88 h4 M4 _ A4 F4 (by rw [if_neg q])
      · rw [b2n g3, if_pos rfl, if_neg g3, chk_t (I1.mh A1).T, wth]
        exact no _ _ 3 (by decide) (A1.thr 3) ((FM.thr M 0).tr (FM.thr _ 3)) (thr_eq _ 3)
  · rw [if_neg g1, if_neg g1, chk_t ((I.fm (FM.thr M 1)).mh (A.thr 1)).T, hp_thr A 1, if_neg (by decide)]
    exact no _ _ 1 (by decide) (A.thr 1) (FM.thr M 1) (thr_eq M 1)
theorem s_draw (A : At h c p L M) {v : Int} (hv : 0 < v) : f_Md_draw h 75 v = some ((0, qushr (ndw (M 75 21)) 16 % v), hput h 75 21 (ndw (M 75 21))) := by
  have C := A.md
  have A1 := A.fput (v := 75) (i := 21) (ndw (M 75 21)) (by decide) (by decide) (by decide) (by decide +kernel) (by decide)
  have C1 := A1.md
  have hq := qushr16 (ndw (M 75 21))
  unfold f_Md_draw
  simp only [C]
  rw [chk_t trivial, chk_t trivial, show w32 (w32 (1103515245 * M 75 21) + 12345) = ndw (M 75 21) from rfl, wth]
  simp only [C1]
  rw [chk_t trivial, chk_t (by omega), mup_eq, Int.tmod_eq_emod_of_nonneg (by omega)]
theorem RI.dr (I : RI M t) {x : Int} : RI (mup M 75 21 x) t := ⟨by rw [mup_fn (by decide)]; exact I.1, I.2.1, I.2.2.1, by rw [mup_ne (Or.inr (by decide))]; exact I.2.2.2⟩
theorem r_thief (A : At h c p L M) (I : RI M t) {m : Int} (B : MDB t m) (hm : m ≤ 50000) (x k : Int) : RC c p L M 0 (f_Md_thief h 75 x k) (tf t x k.toNat).2.1 (if 1 ≤ k ∧ k ≤ 60 then (if 0 < nb t then 0 else 2) else 1) (if (1 ≤ k ∧ k ≤ 60) ∧ 0 < nb t then (tf t x k.toNat).2.2 else t) := by
  have W := I.2.1
  have D := I.2.2.1
  have no : ∀ y : Int, 0 < y → RC c p L M 0 (f_Md_thief_J29 75 x k 75 y h) (tf t x k.toNat).2.1 y t := fun y y0 => by
    unfold f_Md_thief_J29
    rw [chk_t (I.mh A).T, wth, chk_t ((I.fm (FM.thr M y)).mh (A.thr y)).T, hp_thr A y, if_neg (by omega)]
    exact RC_mv (FM.thr M y).ft (RC_no (A.thr y) (by rw [mup_fn (by decide)]; exact I.1) (thr_eq M y) (by omega))
  unfold f_Md_thief
  rw [s_Md_amid, bndT_ok (by decide)]
  by_cases g1 : 1 ≤ k ∧ k ≤ 60
  · rw [b2d g1, if_neg (by decide), if_pos g1, chk_t (I.mh A).T, s_Md_bars (I.mh A), bndT_ok (by decide)]
    have hnb := W.1
    by_cases g2 : nb t = 0
    · rw [if_pos g2, if_neg (by omega), if_neg (by omega)]; exact no 2 (by decide)
    · rw [if_neg g2, if_pos (show 0 < nb t by omega), if_pos ⟨g1, by omega⟩]
      have A1 := A.thr 0
      have I1 := I.fm (FM.thr M 0)
      have A2 := A1.fput (v := 75) (i := 21) x (by decide) (by decide) (by decide) (by decide +kernel) (by decide)
      have F2 : FU M (mup (mup M 75 5 0) 75 21 x) := (FM.thr M 0).ft.ps (by decide)
      have I2 : RI (mup (mup M 75 5 0) 75 21 x) t := I1.dr
      have e21 : mup (mup M 75 5 0) 75 21 x 75 21 = x := mup_eq _ _ _ _
      have e5 : mup (mup M 75 5 0) 75 21 x 75 5 = 0 := by rw [mup_ne (Or.inr (by decide))]; exact thr_eq M 0
      unfold f_Md_thief_J29
      rw [chk_t (I.mh A).T, wth, chk_t (I1.mh A1).T, hp_thr A 0, if_pos (by decide), chk_t (I1.mh A1).T, wth]
      refine loop_r (F := fun n (b : mH × Int × Int) => f_Md_thief_L51 75 k n b.1 b.2.1 b.2.2) (P := fun o => RC c p L M 0 o (tf t x k.toNat).2.1 0 (tf t x k.toNat).2.2) (fun i b => b.2.2 = (i : Int) ∧ b.2.1 = (tf t x i).2.1 ∧ ∃ M', At b.1 c p L M' ∧ FU M M' ∧ RI M' (tf t x i).2.2 ∧ M' 75 21 = (tf t x i).1 ∧ M' 75 5 = 0) k.toNat (fun i hi b hb n => ?_) (fun b hb n => ?_) (i := 0) (b := (hput (hput h 75 5 0) 75 21 x, 0, 0)) ⟨rfl, rfl, _, A2, F2, I2, e21, e5⟩ (by omega) (by omega)
      · obtain ⟨h3, s, r⟩ := b
        obtain ⟨hr_, hs_, M3, A3_, F3, I3, d3, x3⟩ := hb
        have hr : r = (i : Int) := hr_
        have hs : s = (tf t x i).2.1 := hs_
        have A3 : At h3 c p L M3 := A3_
        clear hr_ hs_ A3_
        subst hr
        obtain ⟨q1, q2, q3, q4, q5⟩ := tf_ok (x := x) W D B i
        have eb : nb (tf t x i).2.2 = nb t := q1.e1
        show RC c p L M 0 (f_Md_thief_L51 75 k (n + 1) h3 s i) _ 0 _ ∨ ∃ b' : mH × Int × Int, _ ∧ f_Md_thief_L51 75 k (n + 1) h3 s i = _
        rw [f_Md_thief_L51, if_neg (by omega), chk_t (I3.mh A3).T, s_Md_isOpenNow A3 I3, bndT_ok (by decide)]
        by_cases g3 : isO (tf t x i).2.2 = true
        · left
          rw [g3, if_neg (by decide), tf_end g3 (show i ≤ k.toNat by omega), hs]
          exact RC_mv F3 (RC_ok A3 I3.1 x3)
        · right
          have A4 := A3.fput (v := 75) (i := 21) (ndw (M3 75 21)) (by decide) (by decide) (by decide) (by decide +kernel) (by decide)
          have I4 := I3.dr (x := ndw (M3 75 21))
          have A5 := A4.fput (v := 75) (i := 21) (ndw (mup M3 75 21 (ndw (M3 75 21)) 75 21)) (by decide) (by decide) (by decide) (by decide +kernel) (by decide)
          have I5 := I4.dr (x := ndw (mup M3 75 21 (ndw (M3 75 21)) 75 21))
          have w4 : mup M3 75 21 (ndw (M3 75 21)) 75 21 = ndw (tf t x i).1 := by rw [mup_eq, d3]
          rw [Bool.eq_false_iff.mpr g3, if_pos (show b2i false = 0 from rfl), chk_t (I3.mh A3).T, s_Md_bars (I3.mh A3), bndT_ok (by decide), eb, chk_t (I3.mh A3).T, s_draw A3 (by omega), bndT_ok (by decide), chk_t (I4.mh A4).T, s_draw A4 (by decide), bndT_ok (by decide)]
          rw [w4] at A5 I5 ⊢
          rw [d3] at A5 I5 ⊢
          have w5 : mup (mup M3 75 21 (ndw (tf t x i).1)) 75 21 (ndw (ndw (tf t x i).1)) 75 21 = ndw (ndw (tf t x i).1) := mup_eq _ _ _ _
          have F5 : FU M (mup (mup M3 75 21 (ndw (tf t x i).1)) 75 21 (ndw (ndw (tf t x i).1))) := (F3.ps (by decide)).ps (by decide)
          have x5 : mup (mup M3 75 21 (ndw (tf t x i).1)) 75 21 (ndw (ndw (tf t x i).1)) 75 5 = 0 := by rw [mup_ne (Or.inr (by decide)), mup_ne (Or.inr (by decide))]; exact x3
          generalize hput (hput h3 75 21 (ndw (tf t x i).1)) 75 21 (ndw (ndw (tf t x i).1)) = h5 at *
          generalize mup (mup M3 75 21 (ndw (tf t x i).1)) 75 21 (ndw (ndw (tf t x i).1)) = M5 at *
          have h16 := qushr16 (ndw (ndw (tf t x i).1))
          have j88 : ∀ s0, s0 = qushr (ndw (ndw (tf t x i).1)) 16 % 2 → ∃ b' : mH × Int × Int, (b'.2.2 = ((i + 1 : Nat) : Int) ∧ b'.2.1 = (tf t x (i + 1)).2.1 ∧ ∃ M', At b'.1 c p L M' ∧ FU M M' ∧ RI M' (tf t x (i + 1)).2.2 ∧ M' 75 21 = (tf t x (i + 1)).1 ∧ M' 75 5 = 0) ∧ f_Md_thief_J88 (f_Md_thief_L51 75 k n) 75 s i (qushr (ndw (tf t x i).1) 16 % nb t) s0 h5 = f_Md_thief_L51 75 k n b'.1 b'.2.1 b'.2.2 := fun s0 hs0 => by
            obtain ⟨h6, M6, f6, A6, F6, e6, I6⟩ := s_makes A5 I5 q3 (by omega) (qushr (ndw (tf t x i).1) 16 % nb t) s0
            have hw := wy0_le (tf t x i).2.2 (qushr (ndw (tf t x i).1) 16 % nb t) s0
            have htf : tf t x (i + 1) = (ndw (ndw (tf t x i).1), (if wy0 (tf t x i).2.2 (qushr (ndw (tf t x i).1) 16 % nb t) s0 = 0 then (tf t x i).2.1 + 1 else (tf t x i).2.1), stp (tf t x i).2.2 (qushr (ndw (tf t x i).1) 16 % nb t) s0) := by rw [tf, if_neg g3, hs0]
            unfold f_Md_thief_J88 f_Md_thief_J107
            rw [chk_t (I5.mh A5).T, f6, bndT_ok (by decide)]
            have F6' := F5.tr (F6.ft (by decide) (by decide))
            have d6 : M6 75 21 = ndw (ndw (tf t x i).1) := by rw [F6 75 (by decide)]; exact w5
            have x6 : M6 75 5 = 0 := by rw [F6 75 (by decide)]; exact x5
            refine ⟨(h6, (tf t x (i + 1)).2.1, ((i + 1 : Nat) : Int)), ⟨rfl, rfl, M6, A6, F6', by rw [htf]; exact I6, by rw [htf]; exact d6, x6⟩, ?_⟩
            rw [htf]
            show _ = f_Md_thief_L51 75 k n h6 (if wy0 (tf t x i).2.2 (qushr (ndw (tf t x i).1) 16 % nb t) s0 = 0 then (tf t x i).2.1 + 1 else (tf t x i).2.1) _
            unfold spV
            by_cases g4 : wy0 (tf t x i).2.2 (qushr (ndw (tf t x i).1) 16 % nb t) s0 = 0
            · rw [if_pos g4, if_pos g4, if_neg (by have := (wy0_rng g4).2; omega), wtv, wtv, hs, w32_id (by omega) (by omega), w32_n i (by omega)]
            · rw [if_neg g4, if_neg g4, if_pos (by omega), wtv, wtv, hs, Int.add_zero, w32_id (by omega) (by omega), w32_n i (by omega)]
          by_cases g4 : qushr (ndw (ndw (tf t x i).1)) 16 % 2 = 1
          · rw [if_pos g4]; exact j88 1 g4.symm
          · rw [if_neg g4]; exact j88 0 (by omega)
      · obtain ⟨h3, s, r⟩ := b
        obtain ⟨hr_, hs_, M3, A3_, F3, I3, d3, x3⟩ := hb
        have hr : r = (k.toNat : Int) := hr_
        have hs : s = (tf t x k.toNat).2.1 := hs_
        subst hr
        show RC c p L M 0 (f_Md_thief_L51 75 k (n + 1) h3 s _) _ 0 _
        rw [f_Md_thief_L51, if_pos (by omega), hs]
        exact RC_mv F3 (RC_ok A3_ I3.1 x3)
  · rw [b2n g1, if_pos rfl, if_neg g1, if_neg (fun q => g1 q.1)]; exact no 1 (by decide)
end
