section
variable {t u : tT}
theorem Sq_hX (q : Sq t u) : hX t = hX u := by funext b f w c a j; unfold hX; rw [q.e5]
theorem Sq_hN (q : Sq t u) : hN t = hN u := by funext wn z X; unfold hN; rw [Sq_th q, Sq_nK q, Sq_nN q, Sq_st q, q.e6]
theorem Sq_hT (q : Sq t u) : hT t = hT u := by funext wn z m X B; unfold hT; rw [Sq_hN q]
theorem Sq_hA (q : Sq t u) (wn : Int → Bool) (z m b f w c : Int) (n : Nat) (B : Int → Int) : hA t wn z m b f w c n B = hA u wn z m b f w c n B := by
  induction n with
  | zero => rfl
  | succ n ih => rw [hA, hA, ih, Sq_hT q, Sq_hX q]
theorem Sq_hC (q : Sq t u) (wn : Int → Bool) (z m b f w : Int) (n : Nat) (B : Int → Int) : hC t wn z m b f w n B = hC u wn z m b f w n B := by
  induction n with
  | zero => rfl
  | succ n ih => rw [hC, hC, ih, q.e5, Sq_hA q]
theorem Sq_hU (q : Sq t u) (wn : Int → Bool) (z m b f w : Int) (B : Int → Int) : hU t wn z m b f w B = hU u wn z m b f w B := by unfold hU; rw [q.e5, q.e1, Sq_hC q]
theorem Sq_hFr (q : Sq t u) (wn : Int → Bool) (z m b : Int) (n : Nat) (B : Int → Int) : hFr t wn z m b n B = hFr u wn z m b n B := by
  induction n with
  | zero => rfl
  | succ n ih => rw [hFr, hFr, ih, Sq_hU q, Sq_hU q]
theorem Sq_hBr (q : Sq t u) (wn : Int → Bool) (z m : Int) (n : Nat) (B : Int → Int) : hBr t wn z m n B = hBr u wn z m n B := by
  induction n with
  | zero => rfl
  | succ n ih => rw [hBr, hBr, ih, q.e5, Sq_hFr q]
theorem Sq_hH (q : Sq t u) (wn : Int → Bool) (z m : Int) : hH t wn z m = hH u wn z m := by unfold hH; rw [q.e1, Sq_hBr q]
variable {w1 w2 : Int → Bool}
theorem hA_wn (W : WS t) (hw : ∀ b, 0 ≤ b → b < nb t → w1 b = w2 b) (z m b f w : Int) {c : Int} (h0 : 0 ≤ c) (h1 : c < nb t) (n : Nat) (B : Int → Int) : hA t w1 z m b f w c n B = hA t w2 z m b f w c n B := by
  induction n with
  | zero => rfl
  | succ n ih =>
    rw [hA, hA, ih]
    have : hN t w1 z (hX t b f w c n) = hN t w2 z (hX t b f w c n) := by
      unfold hN; rw [th_wn W (fun _ => by unfold hX; simp (decide := true) only [if_true, if_false]; exact ⟨h0, h1⟩) hw]
    unfold hT; rw [this]
theorem hC_wn (W : WS t) (hw : ∀ b, 0 ≤ b → b < nb t → w1 b = w2 b) (z m b f w : Int) {n : Nat} (hn : (n : Int) ≤ nb t) (B : Int → Int) : hC t w1 z m b f w n B = hC t w2 z m b f w n B := by
  induction n with
  | zero => rfl
  | succ n ih => rw [hC, hC, ih (by omega), hA_wn W hw z m b f w (by omega) (by omega)]
theorem hU_wn (W : WS t) (hw : ∀ b, 0 ≤ b → b < nb t → w1 b = w2 b) (z m b f w : Int) (B : Int → Int) : hU t w1 z m b f w B = hU t w2 z m b f w B := by unfold hU; rw [hC_wn W hw z m b f w (by have := W.1; omega)]
theorem hFr_wn (W : WS t) (hw : ∀ b, 0 ≤ b → b < nb t → w1 b = w2 b) (z m b : Int) (n : Nat) (B : Int → Int) : hFr t w1 z m b n B = hFr t w2 z m b n B := by
  induction n with
  | zero => rfl
  | succ n ih => rw [hFr, hFr, ih, hU_wn W hw, hU_wn W hw]
theorem hBr_wn (W : WS t) (hw : ∀ b, 0 ≤ b → b < nb t → w1 b = w2 b) (z m : Int) (n : Nat) (B : Int → Int) : hBr t w1 z m n B = hBr t w2 z m n B := by
  induction n with
  | zero => rfl
  | succ n ih => rw [hBr, hBr, ih, hFr_wn W hw]
theorem hH_wn (W : WS t) (hw : ∀ b, 0 ≤ b → b < nb t → w1 b = w2 b) (z m : Int) : hH t w1 z m = hH t w2 z m := by unfold hH; rw [hBr_wn W hw]
end
section
variable {h : mH} {c : Int} {p L : Int → Int} {M : aM} {E : Int → tT}
theorem s_Notches_seek (A : At h c p L M) {t : tT} (K : KS E M L t) (hS2 : nS t ≤ 20000) (G : GP M M L t) (m : Int) :
    ∃ h' p' L' M', f_Notches_seek h 64 5 41 54 m = some ((3, 0), h') ∧ At h' c p' L' M' ∧ Fr [47, 54, 55, 56, 64, 65, 66] M M' ∧ KS E M' L' t ∧ ∀ j, 0 ≤ j → j < 7 → M' 65 j = hH t (wS t) (st t (pa t)) m j := by
  have hn := K.W.1
  have C := A.no
  have D := A.gr
  have F5 := A.b5
  have comp : ∃ h' p' L' M', f_Notches_seek_J51 64 5 41 54 m (st t (pa t)) h = some ((3, 0), h') ∧ At h' c p' L' M' ∧ Fr [47, 54, 55, 56, 64, 65, 66] M M' ∧ KS E M' L' t ∧ ∀ j, 0 ≤ j → j < 7 → M' 65 j = hH t (wS t) (st t (pa t)) m j := by
    have A1 := A.fput (v := 64) (i := 2) (M 41 0) (by decide) (by decide) (by decide) (by decide +kernel) (by decide)
    have C1 := A1.no
    have D1 := A1.gr
    have A2 := A1.fput (v := 64) (i := 3) (M 41 1) (by decide) (by decide) (by decide) (by decide +kernel) (by decide)
    have C2 := A2.no
    have A3 := A2.fput (v := 64) (i := 4) (st t (pa t)) (by decide) (by decide) (by decide) (by decide +kernel) (by decide)
    have C3 := A3.no
    have A4 := A3.fput (v := 64) (i := 5) m (by decide) (by decide) (by decide) (by decide +kernel) (by decide)
    generalize hM4 : mup (mup (mup (mup M 64 2 (M 41 0)) 64 3 (M 41 1)) 64 4 (st t (pa t))) 64 5 m = M4 at A4
    have f4 : ∀ v, v ≠ 64 → M4 v = M v := fun v hv => by rw [← hM4, mup_fn hv, mup_fn hv, mup_fn hv, mup_fn hv]
    have s2 : M4 64 2 = M 41 0 := by rw [← hM4, mup_ne (by decide), mup_ne (by decide), mup_ne (by decide), mup_eq]
    have s3 : M4 64 3 = M 41 1 := by rw [← hM4, mup_ne (by decide), mup_ne (by decide), mup_eq]
    have s4 : M4 64 4 = st t (pa t) := by rw [← hM4, mup_ne (by decide), mup_eq]
    have s5 : M4 64 5 = m := by rw [← hM4, mup_eq]
    unfold f_Notches_seek_J51
    simp only [C, D]
    rw [chk_t trivial, chk_t trivial, wth]
    simp only [C1, D1]
    rw [chk_t trivial, chk_t trivial, mup_fn (by decide), wth]
    simp only [C2]
    rw [chk_t trivial, wth]
    simp only [C3]
    rw [chk_t trivial, wth]
    refine loop_r (F := fun n (x : mH × Int) => f_Notches_seek_L82 (fun h5 => f_Notches_seek_L109 64 5 41 54 1000000 h5 0) 64 n x.1 x.2) (P := fun r => ∃ h' p' L' M', r = some ((3, 0), h') ∧ At h' c p' L' M' ∧ Fr [47, 54, 55, 56, 64, 65, 66] M M' ∧ KS E M' L' t ∧ ∀ j, 0 ≤ j → j < 7 → M' 65 j = hH t (wS t) (st t (pa t)) m j) (fun i x => x.2 = (i : Int) ∧ ∃ M', At x.1 c p L M' ∧ Fr [65] M4 M' ∧ ∀ j, 0 ≤ j → j < (i : Int) → M' 65 j = -1) 7 (fun i hi x hx n => ?_) (fun x hx n => ?_) (i := 0) (b := (_, 0)) ⟨rfl, M4, A4, Fr.rf _ _, fun j g0 g1 => by omega⟩ (by omega) (by omega)
    · obtain ⟨h5, r⟩ := x
      obtain ⟨hr_, M5, A5_, F5, hv⟩ := hx
      have hr : r = (i : Int) := hr_
      have A5 : At h5 c p L M5 := A5_
      clear hr_ A5_
      subst hr
      right
      have C5 := A5.no
      have A6 := A5.aput (v := 65) i (-1) (by decide) (by decide) (by decide) (by decide +kernel) (by decide) (by decide)
      refine ⟨(hput h5 65 i (-1), ((i + 1 : Nat) : Int)), ⟨rfl, _, A6, F5.pu (by decide), fun j g0 g1 => ?_⟩, ?_⟩
      · by_cases q : j = i
        · rw [q, mup_eq]
        · rw [mup_ne (Or.inr q)]; exact hv j g0 (by omega)
      · show f_Notches_seek_L82 _ 64 (n + 1) h5 i = f_Notches_seek_L82 _ 64 n (hput h5 65 i (-1)) ((i + 1 : Nat) : Int)
        rw [f_Notches_seek_L82]
        simp only [C5]
        rw [chk_t trivial, chk_t (Nat.le_refl _), if_neg (by omega), chk_t trivial, chk_t trivial, chk_t (by omega), wth, wtv, w32_n i (by omega)]
    · obtain ⟨h5, r⟩ := x
      obtain ⟨hr_, M5, A5_, F5, hv⟩ := hx
      have hr : r = ((7 : Nat) : Int) := hr_
      have A5 : At h5 c p L M5 := A5_
      clear hr_ A5_
      have C5 := A5.no
      have f5 : ∀ v, v ≠ 64 → v ≠ 65 → M5 v = M v := fun v hv hv2 => by rw [F5 v (by simp; exact hv2)]; exact f4 v hv
      have f564 : M5 64 = M4 64 := F5 64 (by decide)
      have Q5 : NQ h5 c E t M5 (st t (pa t)) m (fun _ => -1) p L M5 := ⟨A5, Fr.rf _ _, K.q.keep (fun v hv => f5 v (by omega) (by omega)) (fun v hv => rfl), G.fr (fun v hv => by
        simp only [List.mem_cons, List.not_mem_nil, or_false] at hv
        rcases hv with rfl | rfl | rfl | rfl | rfl | rfl <;> exact f5 _ (by decide) (by decide)) (fun v hv => rfl), by rw [f564]; exact ⟨s4, s5⟩, fun j g0 g1 => hv j g0 (by omega)⟩
      have hz := K.now
      -- all bars, all places
      have main : ∃ h' p' L' M', f_Notches_seek_L109 64 5 41 54 1000000 h5 0 = some ((3, 0), h') ∧ NQ h' c E t M5 (st t (pa t)) m (hH t (wS t) (st t (pa t)) m) p' L' M' := by
        refine loop_r (F := fun n (x : mH × Int) => f_Notches_seek_L109 64 5 41 54 n x.1 x.2) (P := fun r => ∃ h' p' L' M', r = some ((3, 0), h') ∧ NQ h' c E t M5 (st t (pa t)) m (hH t (wS t) (st t (pa t)) m) p' L' M') (fun i x => x.2 = (i : Int) ∧ ∃ p' L' M', NQ x.1 c E t M5 (st t (pa t)) m (hBr t (wS t) (st t (pa t)) m i (fun _ => -1)) p' L' M') (nb t).toNat (fun i hi x hx n => ?_) (fun x hx n => ?_) (i := 0) (b := (h5, 0)) ⟨rfl, p, L, M5, Q5⟩ (by omega) (by omega)
        · obtain ⟨h6, r⟩ := x
          obtain ⟨hr_, p6, L6, M6, Q6_⟩ := hx
          have hr : r = (i : Int) := hr_
          have Q6 : NQ h6 c E t M5 (st t (pa t)) m (hBr t (wS t) (st t (pa t)) m i (fun _ => -1)) p6 L6 M6 := Q6_
          clear hr_ Q6_
          subst hr
          right
          have B6 := BH.of5 Q6.1 Q6.2.2.1.R
          have hp := K.W.2.2.2.2.2.1 i (by omega) (by omega)
          have inner : ∃ h' p' L' M', f_Notches_seek_L121 (fun h1 => wtv (w32 ((i : Int) + 1)) (fun x2 => (f_Notches_seek_L109 64 5 41 54 n) h1 x2)) 64 5 41 54 i 1000000 h6 0 = wtv (w32 ((i : Int) + 1)) (fun x2 => (f_Notches_seek_L109 64 5 41 54 n) h' x2) ∧ NQ h' c E t M5 (st t (pa t)) m (hFr t (wS t) (st t (pa t)) m i (pl t i).toNat (hBr t (wS t) (st t (pa t)) m i (fun _ => -1))) p' L' M' := by
            refine loop_r (F := fun n' (x : mH × Int) => f_Notches_seek_L121 (fun h1 => wtv (w32 ((i : Int) + 1)) (fun x2 => (f_Notches_seek_L109 64 5 41 54 n) h1 x2)) 64 5 41 54 i n' x.1 x.2) (P := fun r => ∃ h' p' L' M', r = wtv (w32 ((i : Int) + 1)) (fun x2 => (f_Notches_seek_L109 64 5 41 54 n) h' x2) ∧ NQ h' c E t M5 (st t (pa t)) m (hFr t (wS t) (st t (pa t)) m i (pl t i).toNat (hBr t (wS t) (st t (pa t)) m i (fun _ => -1))) p' L' M') (fun f x => x.2 = (f : Int) ∧ ∃ p' L' M', NQ x.1 c E t M5 (st t (pa t)) m (hFr t (wS t) (st t (pa t)) m i f (hBr t (wS t) (st t (pa t)) m i (fun _ => -1))) p' L' M') (pl t i).toNat (fun f hf x hx n' => ?_) (fun x hx n' => ?_) (i := 0) (b := (h6, 0)) ⟨rfl, p6, L6, M6, Q6⟩ (by omega) (by omega)
            · obtain ⟨h7, r⟩ := x
              obtain ⟨hr_, p7, L7, M7, Q7_⟩ := hx
              have hr : r = (f : Int) := hr_
              have Q7 : NQ h7 c E t M5 (st t (pa t)) m (hFr t (wS t) (st t (pa t)) m i f (hBr t (wS t) (st t (pa t)) m i (fun _ => -1))) p7 L7 M7 := Q7_
              clear hr_ Q7_
              subst hr
              right
              have B7 := BH.of5 Q7.1 Q7.2.2.1.R
              have C7 := Q7.1.no
              obtain ⟨h8, p8, L8, M8, f8, Q8⟩ := s_seekStep Q7 hS2 hz (b := i) (f := f) (u := f - 1) (by omega) (by omega) (Or.inr rfl)
              have C8 := Q8.1.no
              obtain ⟨h9, p9, L9, M9, f9, Q9⟩ := s_seekStep Q8 hS2 hz (b := i) (f := f) (u := f + 1) (by omega) (by omega) (Or.inl rfl)
              refine ⟨(h9, ((f + 1 : Nat) : Int)), ⟨rfl, p9, L9, M9, Q9⟩, ?_⟩
              show f_Notches_seek_L121 _ 64 5 41 54 i (n' + 1) h7 f = f_Notches_seek_L121 _ 64 5 41 54 i n' h9 ((f + 1 : Nat) : Int)
              rw [f_Notches_seek_L121, chk_t B7.T, chk_t B7.T6, chk_t (by rw [B7.L6]; omega), B7.V6 i (by omega) (by omega), if_neg (by omega)]
              simp only [C7]
              rw [chk_t trivial, w32_id (x := (f : Int) - 1) (by omega) (by omega), f8, bndT_ok (by decide)]
              simp only [C8]
              rw [chk_t trivial, w32_n f (by omega), show ((f + 1 : Nat) : Int) = (f : Int) + 1 by omega, f9, bndT_ok (by decide), wtv]
            · obtain ⟨h7, r⟩ := x
              obtain ⟨hr_, p7, L7, M7, Q7_⟩ := hx
              have hr : r = ((pl t i).toNat : Int) := hr_
              have Q7 : NQ h7 c E t M5 (st t (pa t)) m (hFr t (wS t) (st t (pa t)) m i (pl t i).toNat (hBr t (wS t) (st t (pa t)) m i (fun _ => -1))) p7 L7 M7 := Q7_
              clear hr_ Q7_
              have B7 := BH.of5 Q7.1 Q7.2.2.1.R
              refine ⟨h7, p7, L7, M7, ?_, Q7⟩
              show f_Notches_seek_L121 _ 64 5 41 54 i (n' + 1) h7 r = _
              rw [f_Notches_seek_L121, chk_t B7.T, chk_t B7.T6, chk_t (by rw [B7.L6]; omega), B7.V6 i (by omega) (by omega), if_pos (by omega)]
          obtain ⟨h7, p7, L7, M7, f7, Q7⟩ := inner
          refine ⟨(h7, ((i + 1 : Nat) : Int)), ⟨rfl, p7, L7, M7, Q7⟩, ?_⟩
          show f_Notches_seek_L109 64 5 41 54 (n + 1) h6 i = f_Notches_seek_L109 64 5 41 54 n h7 ((i + 1 : Nat) : Int)
          rw [f_Notches_seek_L109, chk_t B6.T, B6.s2, if_neg (by omega), f7, wtv, w32_n i (by omega)]
        · obtain ⟨h6, r⟩ := x
          obtain ⟨hr_, p6, L6, M6, Q6_⟩ := hx
          have hr : r = ((nb t).toNat : Int) := hr_
          have Q6 : NQ h6 c E t M5 (st t (pa t)) m (hBr t (wS t) (st t (pa t)) m (nb t).toNat (fun _ => -1)) p6 L6 M6 := Q6_
          clear hr_ Q6_
          have B6 := BH.of5 Q6.1 Q6.2.2.1.R
          refine ⟨h6, p6, L6, M6, ?_, Q6⟩
          show f_Notches_seek_L109 64 5 41 54 (n + 1) h6 r = _
          rw [f_Notches_seek_L109, chk_t B6.T, B6.s2, if_pos (by omega)]
      obtain ⟨h6, p6, L6, M6, f6, A6, F6, K6, G6, q6, hB6⟩ := main
      have m64 : M6 64 = M4 64 := by rw [F6 64 (by decide)]; exact f564
      have m1 : M6 1 = M 1 := by rw [F6 1 (by decide)]; exact f5 1 (by decide) (by decide)
      refine ⟨h6, p6, L6, M6, ?_, A6, fun v hv => ?_, K6.ks ⟨?_, ?_⟩, hB6⟩
      · show f_Notches_seek_L82 _ 64 (n + 1) h5 r = _
        rw [f_Notches_seek_L82]
        simp only [C5]
        rw [chk_t trivial, chk_t (Nat.le_refl _), if_pos (by omega), f6]
      · simp only [List.mem_cons, List.not_mem_nil, or_false, not_or] at hv
        rw [F6 v (by unfold nL; simp; omega)]
        exact f5 v (by omega) (by omega)
      · right
        rw [m64, s2, s3, s4, s5, G.2.2.2, G.2.2.1]
        refine ⟨Sq_WS K.S K.W, by rw [← Sq_nS K.S]; exact hS2, by rw [← Sq_nS K.S]; exact K.now, fun j g0 g1 => ?_⟩
        rw [hB6 j g0 g1, ← Sq_hH K.S, hH_wn K.W (wb_wB K.W)]
      · rw [m64, s2, m1]; exact K.G.2
  unfold f_Notches_seek
  have B5 := BH.of5 A K.R
  simp only [F5]
  rw [chk_t trivial, chk_t trivial, s_standNow5 A K, bndT_ok (by decide)]
  simp only [C, D]
  rw [chk_t trivial, chk_t trivial]
  by_cases g1 : M 64 2 = M 41 0
  · rw [if_pos g1, chk_t trivial, chk_t trivial]
    by_cases g2 : M 64 3 = M 41 1
    · rw [if_pos g2, chk_t trivial]
      by_cases g3 : M 64 4 = st t (pa t)
      · rw [if_pos g3, chk_t trivial]
        by_cases g4 : M 64 5 = m
        · rw [if_pos g4]
          refine ⟨h, p, L, M, rfl, A, Fr.rf _ _, K, fun j g0 g5 => ?_⟩
          rcases K.N.1 with e | ⟨-, -, -, e⟩
          · rw [g1, G.2.2.1] at e; have := K.e.1; omega
          · rw [e j g0 g5, g1, g2, g3, g4, G.2.2.2, G.2.2.1, ← Sq_hH K.S, hH_wn K.W (wb_wB K.W)]
        · rw [if_neg g4]; exact comp
      · rw [if_neg g3]; exact comp
    · rw [if_neg g2]; exact comp
  · rw [if_neg g1]; exact comp
theorem c_hardest (A : At h c p L M) {t : tT} (K : KS E M L t) (m w : Int) : CR c M E t (f_Nb_hardest h 1 m w) (if (1 ≤ m ∧ m ≤ 999) ∧ 0 ≤ w ∧ w ≤ 6 then (if nS t ≤ 600 then (0, hH t (wS t) (st t (pa t)) m w) else (4, xS)) else (4, xA)) := by
  have C := A.nb
  have B := BH.of5 A K.R
  unfold f_Nb_hardest
  by_cases g1 : m < 1
  · rw [if_pos g1, if_neg (by omega)]; exact CR_ex A K
  rw [if_neg g1]
  by_cases g2 : 999 < m
  · rw [if_pos g2, if_neg (by omega)]; exact CR_ex A K
  rw [if_neg g2]
  by_cases g3 : w < 0
  · rw [if_pos g3, if_neg (by omega)]; exact CR_ex A K
  rw [if_neg g3]
  by_cases g4 : w ≤ 6
  · rw [if_pos g4, if_pos (by omega)]
    simp only [C]
    rw [chk_t trivial, chk_t B.T, s_Box_standCount B K.W, bndT_ok (by decide)]
    by_cases g5 : nS t ≤ 600
    · have D := A.gr
      obtain ⟨h1, p1, L1, M1, f1, A1, -, -, F1, K1, G1⟩ := s_Nb_prep A K (by omega)
      have C1 := A1.nb
      have D1 := A1.no
      obtain ⟨h2, p2, L2, M2, f2, A2, F2, K2, hB⟩ := s_Notches_seek A1 K1 (by omega) G1 m
      have C2 := A2.nb
      have D2 := A2.no
      rw [if_pos g5, if_pos g5]
      simp only [C, D]
      rw [chk_t trivial, chk_t trivial, chk_t trivial, f1, bndT_ok (by decide)]
      simp only [C1, D1]
      rw [chk_t trivial, chk_t trivial, chk_t trivial, chk_t trivial, chk_t trivial, f2, bndT_ok (by decide)]
      simp only [C2, D2]
      rw [chk_t trivial, chk_t trivial, chk_t trivial, chk_t (by omega), hB w (by omega) (by omega)]
      exact CR_mv ((F1.mono (by decide)).tr (F2.mono (by decide))) (CR_ok A2 K2)
    · rw [if_neg g5, if_neg g5]; exact CR_ex A K
  · rw [if_neg g4, if_neg (by omega)]; exact CR_ex A K
end
