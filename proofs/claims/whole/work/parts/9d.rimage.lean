/-! IMAGES AND TRAYS, THE REFERENCE -/
section
variable {h : mH} {c : Int} {p L : Int → Int} {M : aM} {t : tT}
theorem r_image (A : At h c p L M) (i : Int) : ∃ h' M', f_Md_image h 75 i = some ((3, 0), h') ∧ At h' c p L M' ∧ Fs [79, 80] 75 [5] M M' ∧ M' 75 5 = (if 0 ≤ i ∧ i ≤ 2 then 0 else 1) ∧ (∀ j : Int, M' 80 j = if (0 ≤ i ∧ i ≤ 2) ∧ j = i then 1 else M 80 j) ∧ ∀ j : Int, M' 79 j = if (0 ≤ i ∧ i ≤ 2) ∧ 434 * i ≤ j ∧ j < 434 * i + 434 then M 76 (j - 434 * i) else M 79 j := by
  unfold f_Md_image
  rw [s_Md_amid, bndT_ok (by decide)]
  by_cases g : 0 ≤ i ∧ i ≤ 2
  · rw [b2d g, if_neg (by decide), if_pos g]
    unfold f_Md_image_J18
    have A1 := A.thr 0
    have C1 := A1.md
    have A2 := A1.aput (v := 80) i 1 (by decide) (by decide) (by decide) (by decide +kernel) (by decide) (by decide)
    have F2 : Fs [79, 80] 75 [5] M (mup (mup M 75 5 0) 80 i 1) := ((Fs.rf _ _ _ _).ps (by decide)).pu (by decide) (by decide)
    have e5 : mup (mup M 75 5 0) 80 i 1 75 5 = 0 := by rw [mup_ne (Or.inl (by decide))]; exact thr_eq M 0
    have e80 : ∀ j : Int, mup (mup M 75 5 0) 80 i 1 80 j = if (0 ≤ i ∧ i ≤ 2) ∧ j = i then 1 else M 80 j := fun j => by
      by_cases q : j = i
      · rw [q, mup_eq, if_pos ⟨g, rfl⟩]
      · rw [mup_ne (Or.inr q), mup_ne (Or.inl (by decide)), if_neg (fun k => q k.2)]
    have e79 : mup (mup M 75 5 0) 80 i 1 79 = M 79 := by rw [mup_fn (by decide), mup_fn (by decide)]
    have e76 : mup (mup M 75 5 0) 80 i 1 76 = M 76 := by rw [mup_fn (by decide), mup_fn (by decide)]
    rw [chk_t A.md.1, wth]
    simp only [C1]
    rw [chk_t trivial, thr_eq, if_pos (by decide), chk_t trivial, chk_t trivial, chk_t (by omega), chk_t (by decide), wth]
    generalize hput (hput h 75 5 0) 80 i 1 = h2 at A2 ⊢
    generalize mup (mup M 75 5 0) 80 i 1 = M2 at A2 F2 e5 e80 e79 e76
    refine loop_r (F := fun n (b : mH × Int) => f_Md_image_L38 75 i n b.1 b.2) (P := fun o => ∃ h' M', o = some ((3, 0), h') ∧ At h' c p L M' ∧ Fs [79, 80] 75 [5] M M' ∧ M' 75 5 = 0 ∧ (∀ j : Int, M' 80 j = if (0 ≤ i ∧ i ≤ 2) ∧ j = i then 1 else M 80 j) ∧ ∀ j : Int, M' 79 j = if (0 ≤ i ∧ i ≤ 2) ∧ 434 * i ≤ j ∧ j < 434 * i + 434 then M 76 (j - 434 * i) else M 79 j) (fun k b => b.2 = (k : Int) ∧ ∃ M', At b.1 c p L M' ∧ Fr [79] M2 M' ∧ ∀ j : Int, M' 79 j = if 434 * i ≤ j ∧ j < 434 * i + k then M 76 (j - 434 * i) else M 79 j) 434 (fun k hk b hb n => ?_) (fun b hb n => ?_) (i := 0) (b := (h2, 0)) ⟨rfl, M2, A2, Fr.rf _ _, fun j => by rw [if_neg (by omega), e79]⟩ (by omega) (by omega)
    · obtain ⟨h3, r⟩ := b
      obtain ⟨hr_, M3, A3_, F3, v3⟩ := hb
      have hr : r = (k : Int) := hr_
      have A3 : At h3 c p L M3 := A3_
      clear hr_ A3_
      subst hr
      right
      have C3 := A3.md
      have A4 := A3.aput (v := 79) (434 * i + k) (M 76 k) (by decide) (by decide) (by decide) (by decide +kernel) (by decide) (by decide)
      refine ⟨(hput h3 79 (434 * i + k) (M 76 k), ((k + 1 : Nat) : Int)), ⟨rfl, _, A4, F3.pu (by decide), fun j => ?_⟩, ?_⟩
      · by_cases e : j = 434 * i + k
        · rw [e, mup_eq, if_pos (by omega), show 434 * i + (k : Int) - 434 * i = k by omega]
        · rw [mup_ne (Or.inr e), v3 j]
          by_cases q : 434 * i ≤ j ∧ j < 434 * i + k
          · rw [if_pos q, if_pos (by omega)]
          · rw [if_neg q, if_neg (by omega)]
      · show f_Md_image_L38 75 i (n + 1) h3 k = _
        rw [f_Md_image_L38, if_neg (by omega), show w32 (w32 (434 * i) + (k : Int)) = 434 * i + k by rw [w32_id (x := 434 * i) (by omega) (by omega), w32_id (by omega) (by omega)]]
        simp only [C3]
        rw [chk_t trivial, chk_t trivial, chk_t trivial, chk_t (by omega), chk_t trivial, chk_t (by omega), show M3 76 k = M 76 k by rw [F3 76 (by decide), e76], wth, wtv, w32_n k (by omega)]
    · obtain ⟨h3, r⟩ := b
      obtain ⟨hr_, M3, A3_, F3, v3⟩ := hb
      have hr : r = ((434 : Nat) : Int) := hr_
      subst hr
      refine ⟨h3, M3, ?_, A3_, F2.tr ((F3.fs (d := 75) (is := []) (by decide)).mono (by decide) (fun _ q => by cases q)), by rw [F3 75 (by decide)]; exact e5, fun j => by rw [F3 80 (by decide)]; exact e80 j, fun j => ?_⟩
      · show f_Md_image_L38 75 i (n + 1) h3 ((434 : Nat) : Int) = _
        rw [f_Md_image_L38, if_pos (by omega)]
      · rw [v3 j]
        by_cases q : 434 * i ≤ j ∧ j < 434 * i + 434
        · rw [if_pos (by omega), if_pos ⟨g, q⟩]
        · rw [if_neg (by omega), if_neg (fun k => q k.2)]
  · rw [b2n g, if_pos rfl, if_neg g]
    unfold f_Md_image_J18
    rw [chk_t A.md.1, wth, chk_t (A.thr 1).md.1, hp_thr A 1, if_neg (by decide)]
    exact ⟨_, _, rfl, A.thr 1, (Fs.rf _ _ _ _).ps (by decide), thr_eq M 1, fun j => by rw [if_neg (fun q => g q.1), mup_fn (by decide)], fun j => by rw [if_neg (fun q => g q.1), mup_fn (by decide)]⟩
theorem r_restore (A : At h c p L M) (i : Int) : ∃ h' M', f_Md_restore h 75 i = some ((3, 0), h') ∧ At h' c p L M' ∧ Fs [76] 75 [5] M M' ∧ M' 75 5 = (if 0 ≤ i ∧ i ≤ 2 then (if M 80 i = 0 then 2 else 0) else 1) ∧ ∀ j : Int, M' 76 j = if ((0 ≤ i ∧ i ≤ 2) ∧ M 80 i ≠ 0) ∧ 0 ≤ j ∧ j < 434 then M 79 (434 * i + j) else M 76 j := by
  have C := A.md
  have no : ∀ k : Int, 0 < k → ¬ ((0 ≤ i ∧ i ≤ 2) ∧ M 80 i ≠ 0) → ∃ h' M', f_Md_restore_J31 75 i 75 k h = some ((3, 0), h') ∧ At h' c p L M' ∧ Fs [76] 75 [5] M M' ∧ M' 75 5 = k ∧ ∀ j : Int, M' 76 j = if ((0 ≤ i ∧ i ≤ 2) ∧ M 80 i ≠ 0) ∧ 0 ≤ j ∧ j < 434 then M 79 (434 * i + j) else M 76 j := fun k k0 hn => by
    unfold f_Md_restore_J31
    rw [chk_t A.md.1, wth, chk_t (A.thr k).md.1, hp_thr A k, if_neg (by omega)]
    exact ⟨_, _, rfl, A.thr k, (Fs.rf _ _ _ _).ps (by decide), thr_eq M k, fun j => by rw [if_neg (fun q => hn q.1), mup_fn (by decide)]⟩
  unfold f_Md_restore
  rw [s_Md_amid, bndT_ok (by decide)]
  by_cases g : 0 ≤ i ∧ i ≤ 2
  · rw [b2d g, if_neg (by decide), if_pos g]
    simp only [C]
    rw [chk_t trivial, chk_t trivial, chk_t (by omega)]
    by_cases g2 : M 80 i = 0
    · rw [if_pos g2, if_pos g2]; exact no 2 (by decide) (fun q => q.2 g2)
    · rw [if_neg g2, if_neg g2]
      have A1 := A.thr 0
      have e79 : mup M 75 5 0 79 = M 79 := mup_fn (by decide)
      have e76 : mup M 75 5 0 76 = M 76 := mup_fn (by decide)
      unfold f_Md_restore_J31
      rw [chk_t A.md.1, wth, chk_t A1.md.1, hp_thr A 0, if_pos (by decide)]
      refine loop_r (F := fun n (b : mH × Int) => f_Md_restore_L44 75 i n b.1 b.2) (P := fun o => ∃ h' M', o = some ((3, 0), h') ∧ At h' c p L M' ∧ Fs [76] 75 [5] M M' ∧ M' 75 5 = 0 ∧ ∀ j : Int, M' 76 j = if ((0 ≤ i ∧ i ≤ 2) ∧ M 80 i ≠ 0) ∧ 0 ≤ j ∧ j < 434 then M 79 (434 * i + j) else M 76 j) (fun k b => b.2 = (k : Int) ∧ ∃ M', At b.1 c p L M' ∧ Fr [76] (mup M 75 5 0) M' ∧ ∀ j : Int, M' 76 j = if 0 ≤ j ∧ j < k then M 79 (434 * i + j) else M 76 j) 434 (fun k hk b hb n => ?_) (fun b hb n => ?_) (i := 0) (b := (hput h 75 5 0, 0)) ⟨rfl, _, A1, Fr.rf _ _, fun j => by rw [if_neg (by omega), e76]⟩ (by omega) (by omega)
      · obtain ⟨h3, r⟩ := b
        obtain ⟨hr_, M3, A3_, F3, v3⟩ := hb
        have hr : r = (k : Int) := hr_
        have A3 : At h3 c p L M3 := A3_
        clear hr_ A3_
        subst hr
        right
        have C3 := A3.md
        have A4 := A3.aput (v := 76) k (M 79 (434 * i + k)) (by decide) (by decide) (by decide) (by decide +kernel) (by decide) (by decide)
        refine ⟨(hput h3 76 k (M 79 (434 * i + k)), ((k + 1 : Nat) : Int)), ⟨rfl, _, A4, F3.pu (by decide), fun j => ?_⟩, ?_⟩
        · by_cases e : j = k
          · rw [e, mup_eq, if_pos (by omega)]
          · rw [mup_ne (Or.inr e), v3 j]
            by_cases q : 0 ≤ j ∧ j < (k : Int)
            · rw [if_pos q, if_pos (by omega)]
            · rw [if_neg q, if_neg (by omega)]
        · show f_Md_restore_L44 75 i (n + 1) h3 k = _
          rw [f_Md_restore_L44, if_neg (by omega), show w32 (w32 (434 * i) + (k : Int)) = 434 * i + k by rw [w32_id (x := 434 * i) (by omega) (by omega), w32_id (by omega) (by omega)]]
          simp only [C3]
          rw [chk_t trivial, chk_t trivial, chk_t trivial, chk_t (by omega), chk_t trivial, chk_t (by omega), show M3 79 (434 * i + k) = M 79 (434 * i + k) by rw [F3 79 (by decide), e79], wth, wtv, w32_n k (by omega)]
      · obtain ⟨h3, r⟩ := b
        obtain ⟨hr_, M3, A3_, F3, v3⟩ := hb
        have hr : r = ((434 : Nat) : Int) := hr_
        subst hr
        refine ⟨h3, M3, ?_, A3_, ((Fs.rf _ _ _ _).ps (by decide)).tr ((F3.fs (d := 75) (is := []) (by decide)).mono (by decide) (fun _ q => by cases q)), by rw [F3 75 (by decide)]; exact thr_eq M 0, fun j => ?_⟩
        · show f_Md_restore_L44 75 i (n + 1) h3 ((434 : Nat) : Int) = _
          rw [f_Md_restore_L44, if_pos (by omega)]
        · rw [v3 j]
          by_cases q : 0 ≤ j ∧ j < 434
          · rw [if_pos (by omega), if_pos ⟨⟨g, g2⟩, q⟩]
          · rw [if_neg (by omega), if_neg (fun k => q k.2)]
  · rw [b2n g, if_pos rfl, if_neg g]; exact no 1 (by decide) (fun q => g q.1)
theorem r_tray (A : At h c p L M) (τ w k : Int) : ∃ h' M', f_Md_tray h 75 τ w k = some ((3, 0), h') ∧ At h' c p L M' ∧ Fs [96, 97, 98] 75 [5] M M' ∧ M' 75 5 = (if 0 ≤ τ ∧ τ < 4 then (if (0 ≤ w ∧ w ≤ 3) ∧ 0 ≤ k ∧ k ≤ 40 then 0 else 2) else 1) ∧ (∀ j : Int, M' 96 j = if ((0 ≤ τ ∧ τ < 4) ∧ (0 ≤ w ∧ w ≤ 3) ∧ 0 ≤ k ∧ k ≤ 40) ∧ j = τ then w else M 96 j) ∧ (∀ j : Int, M' 97 j = if ((0 ≤ τ ∧ τ < 4) ∧ (0 ≤ w ∧ w ≤ 3) ∧ 0 ≤ k ∧ k ≤ 40) ∧ j = τ then k else M 97 j) ∧ ∀ j : Int, M' 98 j = if ((0 ≤ τ ∧ τ < 4) ∧ (0 ≤ w ∧ w ≤ 3) ∧ 0 ≤ k ∧ k ≤ 40) ∧ 40 * τ ≤ j ∧ j < 40 * τ + 40 then 0 else M 98 j := by
  have no : ∀ x : Int, 0 < x → ¬ ((0 ≤ τ ∧ τ < 4) ∧ (0 ≤ w ∧ w ≤ 3) ∧ 0 ≤ k ∧ k ≤ 40) → ∃ h' M', f_Md_tray_J41 75 τ w k 75 x h = some ((3, 0), h') ∧ At h' c p L M' ∧ Fs [96, 97, 98] 75 [5] M M' ∧ M' 75 5 = x ∧ (∀ j : Int, M' 96 j = if ((0 ≤ τ ∧ τ < 4) ∧ (0 ≤ w ∧ w ≤ 3) ∧ 0 ≤ k ∧ k ≤ 40) ∧ j = τ then w else M 96 j) ∧ (∀ j : Int, M' 97 j = if ((0 ≤ τ ∧ τ < 4) ∧ (0 ≤ w ∧ w ≤ 3) ∧ 0 ≤ k ∧ k ≤ 40) ∧ j = τ then k else M 97 j) ∧ ∀ j : Int, M' 98 j = if ((0 ≤ τ ∧ τ < 4) ∧ (0 ≤ w ∧ w ≤ 3) ∧ 0 ≤ k ∧ k ≤ 40) ∧ 40 * τ ≤ j ∧ j < 40 * τ + 40 then 0 else M 98 j := fun x x0 hn => by
    unfold f_Md_tray_J41
    rw [chk_t A.md.1, wth, chk_t (A.thr x).md.1, hp_thr A x, if_neg (by omega)]
    exact ⟨_, _, rfl, A.thr x, (Fs.rf _ _ _ _).ps (by decide), thr_eq M x, fun j => by rw [if_neg (fun q => hn q.1), mup_fn (by decide)], fun j => by rw [if_neg (fun q => hn q.1), mup_fn (by decide)], fun j => by rw [if_neg (fun q => hn q.1), mup_fn (by decide)]⟩
  unfold f_Md_tray f_Md_isTray
  rw [s_Md_amid, bndT_ok (by decide)]
  by_cases g1 : 0 ≤ τ ∧ τ < 4
  · rw [b2d (show 0 ≤ τ ∧ τ ≤ 3 by omega), chk_t (by decide), bndT_ok (by decide), if_neg (by decide), s_Md_amid, bndT_ok (by decide), if_pos g1]
    by_cases g2 : 0 ≤ w ∧ w ≤ 3
    · rw [b2d g2, if_neg (by decide), s_Md_amid, bndT_ok (by decide)]
      by_cases g3 : 0 ≤ k ∧ k ≤ 40
      · have gg : (0 ≤ τ ∧ τ < 4) ∧ (0 ≤ w ∧ w ≤ 3) ∧ 0 ≤ k ∧ k ≤ 40 := ⟨g1, g2, g3⟩
        rw [b2d g3, if_neg (by decide), if_pos (show (0 ≤ w ∧ w ≤ 3) ∧ 0 ≤ k ∧ k ≤ 40 from ⟨g2, g3⟩)]
        have A1 := A.thr 0
        have C1 := A1.md
        have A2 := A1.aput (v := 96) τ w (by decide) (by decide) (by decide) (by decide +kernel) (by decide) (by decide)
        have C2 := A2.md
        have A3 := A2.aput (v := 97) τ k (by decide) (by decide) (by decide) (by decide +kernel) (by decide) (by decide)
        have F3 : Fs [96, 97, 98] 75 [5] M (mup (mup (mup M 75 5 0) 96 τ w) 97 τ k) := (((Fs.rf _ _ _ _).ps (by decide)).pu (by decide) (by decide)).pu (by decide) (by decide)
        have e5 : mup (mup (mup M 75 5 0) 96 τ w) 97 τ k 75 5 = 0 := by rw [mup_ne (Or.inl (by decide)), mup_ne (Or.inl (by decide))]; exact thr_eq M 0
        have e96 : ∀ j : Int, mup (mup (mup M 75 5 0) 96 τ w) 97 τ k 96 j = if ((0 ≤ τ ∧ τ < 4) ∧ (0 ≤ w ∧ w ≤ 3) ∧ 0 ≤ k ∧ k ≤ 40) ∧ j = τ then w else M 96 j := fun j => by
          rw [mup_ne (Or.inl (by decide))]
          by_cases q : j = τ
          · rw [q, mup_eq, if_pos ⟨gg, rfl⟩]
          · rw [mup_ne (Or.inr q), mup_ne (Or.inl (by decide)), if_neg (fun k => q k.2)]
        have e97 : ∀ j : Int, mup (mup (mup M 75 5 0) 96 τ w) 97 τ k 97 j = if ((0 ≤ τ ∧ τ < 4) ∧ (0 ≤ w ∧ w ≤ 3) ∧ 0 ≤ k ∧ k ≤ 40) ∧ j = τ then k else M 97 j := fun j => by
          by_cases q : j = τ
          · rw [q, mup_eq, if_pos ⟨gg, rfl⟩]
          · rw [mup_ne (Or.inr q), mup_ne (Or.inl (by decide)), mup_ne (Or.inl (by decide)), if_neg (fun k => q k.2)]
        have e98 : mup (mup (mup M 75 5 0) 96 τ w) 97 τ k 98 = M 98 := by rw [mup_fn (by decide), mup_fn (by decide), mup_fn (by decide)]
        unfold f_Md_tray_J41
        rw [chk_t A.md.1, wth]
        simp only [C1]
        rw [chk_t trivial, thr_eq, if_pos (by decide), chk_t trivial, chk_t trivial, chk_t (by omega), wth]
        simp only [C2]
        rw [chk_t trivial, chk_t trivial, chk_t (by omega), wth]
        generalize hput (hput (hput h 75 5 0) 96 τ w) 97 τ k = h3 at A3 ⊢
        generalize mup (mup (mup M 75 5 0) 96 τ w) 97 τ k = M3 at A3 F3 e5 e96 e97 e98
        refine loop_r (F := fun n (b : mH × Int) => f_Md_tray_L69 75 τ n b.1 b.2) (P := fun o => ∃ h' M', o = some ((3, 0), h') ∧ At h' c p L M' ∧ Fs [96, 97, 98] 75 [5] M M' ∧ M' 75 5 = 0 ∧ (∀ j : Int, M' 96 j = if ((0 ≤ τ ∧ τ < 4) ∧ (0 ≤ w ∧ w ≤ 3) ∧ 0 ≤ k ∧ k ≤ 40) ∧ j = τ then w else M 96 j) ∧ (∀ j : Int, M' 97 j = if ((0 ≤ τ ∧ τ < 4) ∧ (0 ≤ w ∧ w ≤ 3) ∧ 0 ≤ k ∧ k ≤ 40) ∧ j = τ then k else M 97 j) ∧ ∀ j : Int, M' 98 j = if ((0 ≤ τ ∧ τ < 4) ∧ (0 ≤ w ∧ w ≤ 3) ∧ 0 ≤ k ∧ k ≤ 40) ∧ 40 * τ ≤ j ∧ j < 40 * τ + 40 then 0 else M 98 j) (fun i b => b.2 = (i : Int) ∧ ∃ M', At b.1 c p L M' ∧ Fr [98] M3 M' ∧ ∀ j : Int, M' 98 j = if 40 * τ ≤ j ∧ j < 40 * τ + i then 0 else M 98 j) 40 (fun i hi b hb n => ?_) (fun b hb n => ?_) (i := 0) (b := (h3, 0)) ⟨rfl, M3, A3, Fr.rf _ _, fun j => by rw [if_neg (by omega), e98]⟩ (by omega) (by omega)
        · obtain ⟨h4, r⟩ := b
          obtain ⟨hr_, M4, A4_, F4, v4⟩ := hb
          have hr : r = (i : Int) := hr_
          have A4 : At h4 c p L M4 := A4_
          clear hr_ A4_
          subst hr
          right
          have C4 := A4.md
          have A5 := A4.aput (v := 98) (40 * τ + i) 0 (by decide) (by decide) (by decide) (by decide +kernel) (by decide) (by decide)
          refine ⟨(hput h4 98 (40 * τ + i) 0, ((i + 1 : Nat) : Int)), ⟨rfl, _, A5, F4.pu (by decide), fun j => ?_⟩, ?_⟩
          · by_cases e : j = 40 * τ + i
            · rw [e, mup_eq, if_pos (by omega)]
            · rw [mup_ne (Or.inr e), v4 j]
              by_cases q : 40 * τ ≤ j ∧ j < 40 * τ + i
              · rw [if_pos q, if_pos (by omega)]
              · rw [if_neg q, if_neg (by omega)]
          · show f_Md_tray_L69 75 τ (n + 1) h4 i = _
            rw [f_Md_tray_L69, if_neg (by omega), show w32 (w32 (40 * τ) + (i : Int)) = 40 * τ + i by rw [w32_id (x := 40 * τ) (by omega) (by omega), w32_id (by omega) (by omega)]]
            simp only [C4]
            rw [chk_t trivial, chk_t trivial, chk_t (by omega), wth, wtv, w32_n i (by omega)]
        · obtain ⟨h4, r⟩ := b
          obtain ⟨hr_, M4, A4_, F4, v4⟩ := hb
          have hr : r = ((40 : Nat) : Int) := hr_
          subst hr
          refine ⟨h4, M4, ?_, A4_, F3.tr ((F4.fs (d := 75) (is := []) (by decide)).mono (by decide) (fun _ q => by cases q)), by rw [F4 75 (by decide)]; exact e5, fun j => by rw [F4 96 (by decide)]; exact e96 j, fun j => by rw [F4 97 (by decide)]; exact e97 j, fun j => ?_⟩
          · show f_Md_tray_L69 75 τ (n + 1) h4 ((40 : Nat) : Int) = _
            rw [f_Md_tray_L69, if_pos (by omega)]
          · rw [v4 j]
            by_cases q : 40 * τ ≤ j ∧ j < 40 * τ + 40
            · rw [if_pos (by omega), if_pos ⟨gg, q⟩]
            · rw [if_neg (by omega), if_neg (fun k => q k.2)]
      · rw [b2n g3, if_pos rfl, if_neg (show ¬ ((0 ≤ w ∧ w ≤ 3) ∧ 0 ≤ k ∧ k ≤ 40) from fun q => g3 q.2)]; exact no 2 (by decide) (fun q => g3 q.2.2)
    · rw [b2n g2, if_pos rfl, if_neg (show ¬ ((0 ≤ w ∧ w ≤ 3) ∧ 0 ≤ k ∧ k ≤ 40) from fun q => g2 q.1)]; exact no 2 (by decide) (fun q => g2 q.2.1)
  · rw [b2n (show ¬ (0 ≤ τ ∧ τ ≤ 3) by omega), chk_t (by decide), bndT_ok (by decide), if_pos rfl, if_neg g1]; exact no 1 (by decide) (fun q => g1 q.1)
end
