/-! fits AND tries, THE REFERENCE -/
section
variable {h : mH} {c : Int} {p L : Int → Int} {M : aM} {t : tT}
theorem f93_fm {M' : aM} (F : Fs [93] 75 [34] M M') : FM M M' := F.mono (by decide) (by decide)
theorem fFS_rng (W : WS t) (N : Int → Int) (m : Nat) (b : Int) : 0 ≤ (fFS t N m b).2 ∧ (fFS t N m b).2 ≤ 72 := by
  have := fC_rng W N m b (nb t).toNat (by have := W.1; omega)
  have := W.1
  unfold fFS; omega
theorem FQR_thr {S : tF} {k : Int} (Q : FQR M S) : FQR (mup M 75 5 k) S := ⟨by rw [mup_ne (Or.inr (by decide))]; exact Q.1, fun j g0 g1 => by rw [mup_ne (Or.inl (by decide))]; exact Q.2 j g0 g1⟩
theorem lfK_pos (t : tT) (M : aM) (w τ : Int) : 0 ≤ lfK t M w τ := by
  unfold lfK
  split
  · split
    · split <;> decide
    · decide
  · decide
theorem r_fits (A : At h c p L M) (I : RI M t) {w τ : Int} (k : Int) (hw : -2147483648 ≤ w ∧ w < 2147483648) (ht : 0 ≤ τ → τ < 4 → M 96 τ ≠ -1 → (0 ≤ M 97 τ ∧ M 97 τ ≤ 40) ∧ TL (fun i => M 98 (40 * τ + i)) (M 97 τ)) : RV c p L M 0 (f_Md_fits h 75 w τ k) (fiV (fFS t (fun i => M 98 (40 * τ + i)) (M 97 τ).toNat (w / 2)) k) (lfK t M w τ) := by
  have W := I.2.1
  obtain ⟨h1, M1, f1, A1, F1, Q1⟩ := s_laysFacts A I hw ht
  have hR := fFS_rng W (fun i => M 98 (40 * τ + i)) (M 97 τ).toNat (w / 2)
  generalize fFS t (fun i => M 98 (40 * τ + i)) (M 97 τ).toNat (w / 2) = S at Q1 hR ⊢
  have hk0 := lfK_pos t M w τ
  generalize lfK t M w τ = q at f1 Q1 hk0 ⊢
  have A2 := A1.thr q
  have C2 := A2.md
  unfold f_Md_fits
  rw [chk_t (MH.of A).T, f1, bndT_ok (by decide), chk_t (MH.of A1).T, wth]
  refine RV_mv ((f93_fm F1).tr (FM.thr M1 q)) ?_
  simp only [C2]
  rw [chk_t trivial, mup_eq]
  by_cases g : q = 0
  · subst g
    have Q2 := FQR_thr (k := 0) (Q1 rfl).2
    rw [if_pos (by omega), Q2.1]
    unfold fiV
    by_cases g1 : k = -1
    · rw [if_pos g1, if_pos g1, chk_t trivial]; exact RV_ok A2 (thr_eq _ _)
    · rw [if_neg g1, if_neg g1, chk_t trivial, w32_id (by omega) (by omega), s_Md_amid, bndT_ok (by decide)]
      by_cases g2 : 0 ≤ k ∧ k < S.2
      · rw [b2d (show 0 ≤ k ∧ k ≤ S.2 - 1 by omega), if_neg (by decide), if_pos g2]
        simp only [C2]
        rw [chk_t trivial, chk_t trivial, chk_t (by omega), Q2.2 k g2.1 g2.2]
        exact RV_ok A2 (thr_eq _ _)
      · rw [b2n (show ¬ (0 ≤ k ∧ k ≤ S.2 - 1) by omega), if_pos rfl, if_neg g2]
        exact RV_ok A2 (thr_eq _ _)
  · rw [if_neg (by omega)]; exact RV_no A2 (thr_eq _ _) g
theorem s_try60 (A : At h c p L M) (I : RI M t) (hS2 : nS t ≤ 20000) {S : tF} (V : FV t S) (Q : FQR M S) (hS : S.2 ≤ 72) (w : Int) : f_Md_tries_L60 (fun h1 x2 x3 => (if w = 0 then some ((0, x2), h1) else some ((0, x3), h1))) 75 1000000 h (-1) 0 0 = some ((0, if w = 0 then (tr t S (nN t)).1 else (tr t S (nN t)).2), h) := by
  have C := A.md
  have B := I.mh A
  have W := I.2.1
  have hn := nN_eq W
  have hSS := nS_rng W
  have hV := V.1
  refine loop_r (F := fun n (b : Int × Int × Int) => f_Md_tries_L60 (fun h1 x2 x3 => (if w = 0 then some ((0, x2), h1) else some ((0, x3), h1))) 75 n h b.1 b.2.1 b.2.2) (P := fun r => r = some ((0, if w = 0 then (tr t S (nN t)).1 else (tr t S (nN t)).2), h)) (fun i b => b.2.2 = (i : Int) ∧ b.1 = (tr t S i).1 ∧ (b.1 ≠ -1 → b.2.1 = (tr t S i).2)) (nN t) (fun i hi b hb n => Or.inr ?_) (fun b hb n => ?_) (i := 0) (b := (-1, 0, 0)) ⟨rfl, rfl, fun e => absurd rfl e⟩ (by omega) (by omega)
  · obtain ⟨x, y, z⟩ := b
    obtain ⟨b1_, b2_, b3_⟩ := hb
    have b1 : z = (i : Int) := b1_
    have b2 : x = (tr t S i).1 := b2_
    have b3 : x ≠ -1 → y = (tr t S i).2 := b3_
    clear b1_ b2_ b3_
    subst b1
    have hr := hs_rng t S hV (i : Int)
    have hw : (if hs t S i < w32 (S.2 - hs t S i) then w32 (S.2 - hs t S i) else hs t S i) = wo t S i := by
      rw [w32_id (by omega) (by omega)]; rfl
    have hc : tr t S (i + 1) = if (tr t S i).1 = -1 ∨ wo t S i < (tr t S i).2 then ((i : Int), wo t S i) else tr t S i := rfl
    have j146 : f_Md_tries_J146 (f_Md_tries_L60 (fun h1 x2 x3 => (if w = 0 then some ((0, x2), h1) else some ((0, x3), h1))) 75 n) i (wo t S i) h = f_Md_tries_L60 (fun h1 x2 x3 => (if w = 0 then some ((0, x2), h1) else some ((0, x3), h1))) 75 n h i (wo t S i) ((i + 1 : Nat) : Int) := by
      unfold f_Md_tries_J146 f_Md_tries_J154; rw [wtv, w32_n i (by omega)]
    have j154 : f_Md_tries_J154 (f_Md_tries_L60 (fun h1 x2 x3 => (if w = 0 then some ((0, x2), h1) else some ((0, x3), h1))) 75 n) x y i h = f_Md_tries_L60 (fun h1 x2 x3 => (if w = 0 then some ((0, x2), h1) else some ((0, x3), h1))) 75 n h x y ((i + 1 : Nat) : Int) := by
      unfold f_Md_tries_J154; rw [wtv, w32_n i (by omega)]
    show ∃ b' : Int × Int × Int, _ ∧ f_Md_tries_L60 _ 75 (n + 1) h x y i = _
    rw [f_Md_tries_L60, chk_t B.T, s_Md_stands B W, bndT_ok (by decide), if_neg (by omega), s_try75 A I V Q hS (by omega) (by omega), chk_t B.T]
    simp only [C]
    rw [Q.1, hw, wtv]
    by_cases g1 : x = -1
    · rw [if_pos g1, j146]
      exact ⟨(i, wo t S i, ((i + 1 : Nat) : Int)), ⟨rfl, by rw [hc, if_pos (Or.inl (b2 ▸ g1))], fun _ => by rw [hc, if_pos (Or.inl (b2 ▸ g1))]⟩, rfl⟩
    · have b3 := b3 g1
      rw [if_neg g1]
      by_cases g2 : wo t S i < y
      · rw [if_pos g2, j146]
        exact ⟨(i, wo t S i, ((i + 1 : Nat) : Int)), ⟨rfl, by rw [hc, if_pos (Or.inr (b3 ▸ g2))], fun _ => by rw [hc, if_pos (Or.inr (b3 ▸ g2))]⟩, rfl⟩
      · have no : ¬ ((tr t S i).1 = -1 ∨ wo t S i < (tr t S i).2) := by
          rintro (q | q)
          · exact g1 (b2.trans q)
          · exact g2 (by rw [b3]; exact q)
        rw [if_neg g2, j154]
        exact ⟨(x, y, ((i + 1 : Nat) : Int)), ⟨rfl, by rw [hc, if_neg no]; exact b2, fun _ => by rw [hc, if_neg no]; exact b3⟩, rfl⟩
  · obtain ⟨x, y, z⟩ := b
    obtain ⟨b1_, b2_, b3_⟩ := hb
    have b1 : z = ((nN t : Nat) : Int) := b1_
    have b2 : x = (tr t S (nN t)).1 := b2_
    have b3 : x ≠ -1 → y = (tr t S (nN t)).2 := b3_
    clear b1_ b2_ b3_
    subst b1
    have hx : x ≠ -1 := by
      rcases tr_rng (t := t) (S := S) (nN t) with q | q
      · omega
      · omega
    show f_Md_tries_L60 _ 75 (n + 1) h x y _ = _
    rw [f_Md_tries_L60, chk_t B.T, s_Md_stands B W, bndT_ok (by decide), if_pos (show nS t ≤ ((nN t : Nat) : Int) by omega), b2, b3 hx]
    by_cases g : w = 0
    · rw [if_pos g, if_pos g]
    · rw [if_neg g, if_neg g]
theorem s_tryJ32 (A : At h c p L M) (I : RI M t) (hS2 : M 75 5 = 0 → nS t ≤ 20000) {S : tF} (V : FV t S) (Q : M 75 5 = 0 → FQR M S) (hS : S.2 ≤ 72) (w : Int) (hk : 0 ≤ M 75 5) : RV c p L M 0 (f_Md_tries_J32 75 w h) (trV t S w) (M 75 5) := by
  have C := A.md
  unfold f_Md_tries_J32
  simp only [C]
  rw [chk_t trivial]
  by_cases g : M 75 5 = 0
  · have Q := Q g
    rw [if_pos (by omega), chk_t trivial, Q.1]
    unfold trV
    by_cases g2 : S.2 < 2
    · rw [if_neg (by omega), if_pos g2]; exact RV_ok A rfl
    · rw [if_pos (by omega), if_neg g2, s_try60 A I (hS2 g) V Q hS w]; exact RV_ok A rfl
  · rw [if_neg (by omega)]; exact RV_no A rfl g
theorem r_tries (A : At h c p L M) (I : RI M t) {w τ : Int} (k : Int) (hw : -2147483648 ≤ w ∧ w < 2147483648) (ht : 0 ≤ τ → τ < 4 → M 96 τ ≠ -1 → (0 ≤ M 97 τ ∧ M 97 τ ≤ 40) ∧ TL (fun i => M 98 (40 * τ + i)) (M 97 τ)) : RV c p L M 0 (f_Md_tries h 75 w τ k) (trV t (fFS t (fun i => M 98 (40 * τ + i)) (M 97 τ).toNat (w / 2)) k) (if lfK t M w τ = 0 then (if 0 ≤ k ∧ k ≤ 1 then 0 else 3) else lfK t M w τ) := by
  have W := I.2.1
  obtain ⟨h1, M1, f1, A1, F1, Q1⟩ := s_laysFacts A I hw ht
  have hR := fFS_rng W (fun i => M 98 (40 * τ + i)) (M 97 τ).toNat (w / 2)
  have hV : FV t (fFS t (fun i => M 98 (40 * τ + i)) (M 97 τ).toNat (w / 2)) := fC_V W _ (by have := W.1; omega)
  generalize fFS t (fun i => M 98 (40 * τ + i)) (M 97 τ).toNat (w / 2) = S at Q1 hR hV ⊢
  have hk0 := lfK_pos t M w τ
  generalize lfK t M w τ = q at f1 Q1 hk0 ⊢
  have A2 := A1.thr q
  have C2 := A2.md
  have I2 := I.fm ((f93_fm F1).tr (FM.thr M1 q))
  unfold f_Md_tries
  rw [chk_t (MH.of A).T, f1, bndT_ok (by decide), chk_t (MH.of A1).T, wth]
  refine RV_mv ((f93_fm F1).tr (FM.thr M1 q)) ?_
  simp only [C2]
  rw [chk_t trivial, mup_eq]
  by_cases g : q = 0
  · subst g
    have Q2 := FQR_thr (k := 0) (Q1 rfl).2
    rw [if_pos rfl, if_pos rfl, s_Md_amid, bndT_ok (by decide)]
    by_cases g2 : 0 ≤ k ∧ k ≤ 1
    · rw [b2d g2, if_neg (by decide), if_pos g2]
      have := s_tryJ32 A2 I2 (fun _ => (Q1 rfl).1) hV (fun _ => Q2) hR.2 k (by rw [mup_eq]; decide)
      rw [mup_eq] at this; exact this
    · rw [b2n g2, if_pos rfl, if_neg g2]
      have A3 := A2.thr 3
      simp only [C2]
      rw [chk_t trivial, wth]
      have := s_tryJ32 A3 (I2.fm (FM.thr _ 3)) (fun e => absurd e (by rw [mup_eq]; decide)) hV (fun e => absurd e (by rw [mup_eq]; decide)) hR.2 k (by rw [mup_eq]; decide)
      rw [mup_eq] at this
      exact RV_mv (FM.thr _ 3) this
  · rw [if_neg g, if_neg g]
    have := s_tryJ32 A2 I2 (fun e => absurd e (by rw [mup_eq]; exact g)) hV (fun e => absurd e (by rw [mup_eq]; exact g)) hR.2 k (by rw [mup_eq]; exact hk0)
    rw [mup_eq] at this; exact this
end
/-! the bytes of the tape, signed and not -/
theorem qand255 (x : Int) : qand x 255 = x % 256 := by
  unfold qand
  have e : ((Int32.ofInt x &&& Int32.ofInt 255)).toBitVec = BitVec.ofInt 32 (x % 256) := by
    show (BitVec.ofInt 32 x &&& 255#32) = _
    apply BitVec.eq_of_toNat_eq
    rw [BitVec.toNat_and, BitVec.toNat_ofInt, BitVec.toNat_ofInt, show (255#32).toNat = 2 ^ 8 - 1 by decide, Nat.and_two_pow_sub_one_eq_mod]
    omega
  show BitVec.toInt _ = _
  rw [e, BitVec.toInt_ofInt]
  exact Int.bmod_eq_of_le (by omega) (by omega)
theorem bt_m256 {a : Int} (ha : -2147483648 ≤ a ∧ a < 2147483648) : ∀ i : Nat, i < 8 → bt (a % 256) i = bt a i := fun i hi => by
  rw [bt_div (by omega) (by omega) (by omega), bt_div ha.1 ha.2 (by omega)]
  congr 1
  apply propext
  rcases (show i = 0 ∨ i = 1 ∨ i = 2 ∨ i = 3 ∨ i = 4 ∨ i = 5 ∨ i = 6 ∨ i = 7 by omega) with rfl | rfl | rfl | rfl | rfl | rfl | rfl | rfl <;> omega
theorem bt_m256h {a : Int} {i : Nat} (hi : 8 ≤ i) (h2 : i < 32) : bt (a % 256) i = false := by
  rw [bt_div (by omega) (by omega) h2]
  have h3 : (2 : Int) ^ 8 ≤ 2 ^ i := by
    have : (2 : Nat) ^ 8 ≤ 2 ^ i := Nat.pow_le_pow_right (by decide) hi
    exact_mod_cast this
  rw [Int.ediv_eq_zero_of_lt (by omega) (by have e : (2 : Int) ^ 8 = 256 := by decide
                                            omega)]
  rfl
theorem byte_eq {x : Int} (hx : -2147483648 ≤ x ∧ x < 2147483648) {s : Nat} (hs : s + 8 ≤ 32) : qushr x s % 256 = x / 2 ^ s % 256 := by
  refine bt_ext (by omega) (by omega) (fun i hi => ?_)
  by_cases g : i < 8
  · rw [bt_m256 (qushr_irng _ _) i g, bt_qushr (by omega) (by omega), show ((s : Int)).toNat = s from rfl, bt_div hx.1 hx.2 (by omega), bt_div (by omega) (by omega) (by omega)]
    congr 1
    apply propext
    rw [show (2 : Int) ^ (s + i) = 2 ^ s * 2 ^ i from Int.pow_add .., ← Int.ediv_ediv_of_nonneg (Int.le_of_lt (Int.pow_pos (by decide)))]
    generalize x / 2 ^ s = y
    rcases (show i = 0 ∨ i = 1 ∨ i = 2 ∨ i = 3 ∨ i = 4 ∨ i = 5 ∨ i = 6 ∨ i = 7 by omega) with rfl | rfl | rfl | rfl | rfl | rfl | rfl | rfl <;> omega
  · rw [bt_m256h (by omega) hi, bt_m256h (by omega) hi]
theorem rbV_rng (x i : Int) : 0 ≤ rbV x i ∧ rbV x i < 256 := by unfold rbV; rw [qand255]; omega
theorem byV_rbV {x : Int} {j : Int} (hx : -2147483648 ≤ x ∧ x < 2147483648) : byV x (j % 4) = w8 (rbV x j) := by
  unfold byV rbV
  obtain ⟨s, hs, e⟩ : ∃ s : Nat, s + 8 ≤ 32 ∧ 24 - 8 * (j % 4) = (s : Int) := ⟨(24 - 8 * (j % 4)).toNat, by omega, by omega⟩
  rw [e, qand255, byte_eq hx hs, qshr_eq hx.1 hx.2 (by omega) (by omega), show ((s : Int)).toNat = s from rfl]
  generalize x / 2 ^ s = y
  unfold w8; omega
theorem fbV_rbV {a b x d e : Int} (ha : -2147483648 ≤ a ∧ a < 2147483648) (hb : -2147483648 ≤ b ∧ b < 2147483648) (hx : -2147483648 ≤ x ∧ x < 2147483648) (hd : -2147483648 ≤ d ∧ d < 2147483648) (he : -2147483648 ≤ e ∧ e < 2147483648) (i : Int) : fbV a b x d e i = w8 (rbV (slV a b x d e i) i) := by
  have : -2147483648 ≤ slV a b x d e i ∧ slV a b x d e i < 2147483648 := by
    unfold slV; repeat' split
    all_goals assumption
  rw [← byV_rbV this]; rfl
