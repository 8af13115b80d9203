/-! keeps, THE REFERENCE -/
section
variable {h : mH} {c : Int} {p L : Int → Int} {M : aM} {t : tT}
/-- the verse stands in its cells -/
def VQR (M : aM) (V : Nat → Int) (len : Nat) : Prop := M 75 32 = (len : Int) ∧ ∀ l : Nat, l < len → M 91 l = V l
theorem VQR.f82 {M' : aM} {V : Nat → Int} {len : Nat} (Q : VQR M V len) (F : Fr [82] M M') : VQR M' V len := ⟨by rw [F 75 (by decide)]; exact Q.1, fun l hl => by rw [F 91 (by decide)]; exact Q.2 l hl⟩
theorem RI.f82 {M' : aM} (I : RI M t) (F : Fr [82] M M') : RI M' t := I.fm (F.fm (by decide) (by decide))
theorem s_asTold : ∀ {r d : Nat} {h : mH} {M : aM}, r < d → At h c p L M → RI M t → nS t ≤ 20000 → ∀ {V : Nat → Int} {len : Nat}, VQR M V len → len ≤ 40 → (∀ l, l < len → 0 ≤ V l ∧ V l < 2 * nb t) → r ≤ len → ∀ {i j : Nat} {s : Int}, 0 ≤ s → s < nS t → ∃ h' M', f_Md_asTold d h 75 s ((len - r : Nat) : Int) (i : Int) (j : Int) = some ((1, aT t V (st t (po t)) len i j r s), h') ∧ At h' c p L M' ∧ Fr [82] M M'
  | 0, d, h, M, hd, A, I, hS2, V, len, Q, h40, hV, hr, i, j, s, s0, s1 => by
    obtain ⟨d, rfl⟩ : ∃ e, d = e + 1 := ⟨d - 1, by omega⟩
    have C := A.md
    refine ⟨h, M, ?_, A, Fr.rf _ _⟩
    rw [f_Md_asTold, chk_t (I.mh A).T]
    simp only [C]
    rw [Q.1, if_pos (by omega), chk_t trivial, s_opn A I, bndT_ok (by decide), aT]
    by_cases g : s = st t (po t)
    · rw [if_pos g, if_pos g]
    · rw [if_neg g, if_neg g]
  | r + 1, d, h, M, hd, A, I, hS2, V, len, Q, h40, hV, hr, i, j, s, s0, s1 => by
    obtain ⟨d, rfl⟩ : ∃ e, d = e + 1 := ⟨d - 1, by omega⟩
    have W := I.2.1
    have hk := nK_rng W
    have C := A.md
    have B := I.mh A
    have el : ((len - (r + 1) : Nat) : Int) + 1 = ((len - r : Nat) : Int) := by omega
    have loop : ¬ (len - (r + 1) ≠ i ∧ len - (r + 1) ≠ j) → ∃ h' M', f_Md_asTold_J73 (f_Md_asTold d) 75 s ((len - (r + 1) : Nat) : Int) i j h = some ((1, aT t V (st t (po t)) len i j (r + 1) s), h') ∧ At h' c p L M' ∧ Fr [82] M M' := fun hno => by
      rw [aT, if_neg hno]
      unfold f_Md_asTold_J73
      refine loop_r (F := fun n (b : mH × Int × Int) => f_Md_asTold_L79 (f_Md_asTold d) 75 s ((len - (r + 1) : Nat) : Int) i j n b.1 b.2.1 b.2.2) (P := fun o => ∃ h' M', o = some ((1, sq (fun v => if nF t s v = -1 then 0 else aT t V (st t (po t)) len i j r (nF t s v)) (nK t)), h') ∧ At h' c p L M' ∧ Fr [82] M M') (fun v b => b.2 = (sq (fun v => if nF t s v = -1 then 0 else aT t V (st t (po t)) len i j r (nF t s v)) v, (v : Int)) ∧ ∃ M', At b.1 c p L M' ∧ Fr [82] M M') (nK t) (fun v hv b hb n => Or.inr ?_) (fun b hb n => ?_) (i := 0) (b := (h, 0, 0)) ⟨rfl, M, A, Fr.rf _ _⟩ (by omega) (by omega)
      · obtain ⟨h2, x⟩ := b
        obtain ⟨hx_, M2, A2_, F2⟩ := hb
        have hx : x = (sq (fun v => if nF t s v = -1 then 0 else aT t V (st t (po t)) len i j r (nF t s v)) v, (v : Int)) := hx_
        have A2 : At h2 c p L M2 := A2_
        clear hx_ A2_
        subst hx
        have I2 := I.f82 F2
        have B2 := I2.mh A2
        obtain ⟨h3, M3, f3, A3, F3⟩ := s_thn A2 I2 (s := s) (v := (v : Int)) s0 s1 (by omega) (by omega)
        have I3 := I2.f82 F3
        have hs : sq (fun v => if nF t s v = -1 then 0 else aT t V (st t (po t)) len i j r (nF t s v)) (v + 1) = w64 (sq (fun v => if nF t s v = -1 then 0 else aT t V (st t (po t)) len i j r (nF t s v)) v + (if nF t s v = -1 then 0 else aT t V (st t (po t)) len i j r (nF t s v))) := rfl
        have hq := sq_rng (fun v => if nF t s v = -1 then 0 else aT t V (st t (po t)) len i j r (nF t s v)) v
        generalize sq (fun v => if nF t s v = -1 then 0 else aT t V (st t (po t)) len i j r (nF t s v)) v = y at hs hq ⊢
        have j124 : ∀ h x, f_Md_asTold_J124 (f_Md_asTold_L79 (f_Md_asTold d) 75 s ((len - (r + 1) : Nat) : Int) i j n) x v h = f_Md_asTold_L79 (f_Md_asTold d) 75 s ((len - (r + 1) : Nat) : Int) i j n h x ((v + 1 : Nat) : Int) := fun h x => by
          unfold f_Md_asTold_J124; rw [wtv, w32_n v (by omega)]
        show ∃ b' : mH × Int × Int, _ ∧ f_Md_asTold_L79 (f_Md_asTold d) 75 s ((len - (r + 1) : Nat) : Int) i j (n + 1) h2 y v = _
        rw [f_Md_asTold_L79, chk_t B2.T, s_Md_steps B2 W, bndT_ok (by decide), if_neg (by omega), chk_t B2.T, s_wn A2 I2, bndT_ok (by decide), chk_t B2.T, f3, bndT_ok (by decide)]
        by_cases g : nF t s v = -1
        · rw [if_pos g, j124]
          rw [if_pos g, Int.add_zero, w64_id hq.1 hq.2] at hs
          exact ⟨(h3, y, ((v + 1 : Nat) : Int)), ⟨by rw [hs], M3, A3, F2.tr F3⟩, rfl⟩
        · have q := nF_rng W (v := (v : Int)) s0 s1
          have q : 0 ≤ nF t s v ∧ nF t s v < nS t := by omega
          obtain ⟨h4, M4, f4, A4, F4⟩ := s_asTold (r := r) (d := d) (by omega) A3 I3 hS2 ((Q.f82 F2).f82 F3) h40 hV (by omega) (i := i) (j := j) q.1 q.2
          rw [if_neg g, chk_t (I3.mh A3).T, w32_id (by omega) (by omega), el, f4, bndT_ok (by decide), wtv, j124]
          rw [if_neg g] at hs
          exact ⟨(h4, w64 (y + aT t V (st t (po t)) len i j r (nF t s v)), ((v + 1 : Nat) : Int)), ⟨by rw [hs], M4, A4, (F2.tr F3).tr F4⟩, rfl⟩
      · obtain ⟨h2, x⟩ := b
        obtain ⟨hx_, M2, A2_, F2⟩ := hb
        have hx : x = (sq (fun v => if nF t s v = -1 then 0 else aT t V (st t (po t)) len i j r (nF t s v)) (nK t), ((nK t : Nat) : Int)) := hx_
        have A2 : At h2 c p L M2 := A2_
        clear hx_ A2_
        subst hx
        have I2 := I.f82 F2
        have B2 := I2.mh A2
        refine ⟨h2, M2, ?_, A2, F2⟩
        show f_Md_asTold_L79 (f_Md_asTold d) 75 s ((len - (r + 1) : Nat) : Int) i j (n + 1) h2 _ _ = _
        rw [f_Md_asTold_L79, chk_t B2.T, s_Md_steps B2 W, bndT_ok (by decide), if_pos (show 2 * nb t ≤ ((nK t : Nat) : Int) by omega)]
    have dec : ((len - (r + 1) : Nat) : Int) = (i : Int) ↔ len - (r + 1) = i := by omega
    have dec2 : ((len - (r + 1) : Nat) : Int) = (j : Int) ↔ len - (r + 1) = j := by omega
    rw [f_Md_asTold, chk_t B.T]
    simp only [C]
    rw [Q.1, if_neg (by omega)]
    by_cases g1 : len - (r + 1) = i
    · rw [if_pos (dec.mpr g1)]; exact loop (fun q => q.1 g1)
    · rw [if_neg (fun q => g1 (dec.mp q))]
      by_cases g2 : len - (r + 1) = j
      · rw [if_pos (dec2.mpr g2)]; exact loop (fun q => q.2 g2)
      · have hv := hV (len - (r + 1)) (by omega)
        have eV := Q.2 (len - (r + 1)) (by omega)
        obtain ⟨h3, M3, f3, A3, F3⟩ := s_thn A I (s := s) (v := V (len - (r + 1))) s0 s1 hv.1 hv.2
        have I3 := I.f82 F3
        have eT : aT t V (st t (po t)) len i j (r + 1) s = if nF t s (V (len - (r + 1))) = -1 then 0 else aT t V (st t (po t)) len i j r (nF t s (V (len - (r + 1)))) := by rw [aT, if_pos ⟨g1, g2⟩]
        rw [eT, if_neg (fun q => g2 (dec2.mp q)), chk_t trivial, chk_t trivial, chk_t (by omega), chk_t trivial, s_wn A I, bndT_ok (by decide)]
        simp only [C]
        rw [chk_t trivial, eV, f3, bndT_ok (by decide)]
        by_cases g : nF t s (V (len - (r + 1))) = -1
        · rw [if_pos g, if_pos g]; exact ⟨h3, M3, rfl, A3, F3⟩
        · have q := nF_rng W (v := V (len - (r + 1))) s0 s1
          have q : 0 ≤ nF t s (V (len - (r + 1))) ∧ nF t s (V (len - (r + 1))) < nS t := by omega
          obtain ⟨h4, M4, f4, A4, F4⟩ := s_asTold (r := r) (d := d) (by omega) A3 I3 hS2 (Q.f82 F3) h40 hV (by omega) (i := i) (j := j) q.1 q.2
          rw [if_neg g, if_neg g, chk_t (I3.mh A3).T, w32_id (by omega) (by omega), el, f4, bndT_ok (by decide)]
          exact ⟨h4, M4, rfl, A4, F3.tr F4⟩
/-- the verse is laid out, if it is short enough -/
theorem s_laysVerse (A : At h c p L M) (I : RI M t) (hS2 : nS t ≤ 20000) : ∃ h' M', f_Md_laysVerse h 75 = some ((0, if bF (SB t (st t (po t))) (st t (pa t)) = -1 ∨ 40 < bF (SB t (st t (po t))) (st t (pa t)) then 0 else 1), h') ∧ At h' c p L M' ∧ Fs [82, 84, 85, 91] 75 [24, 32] M M' ∧ (∀ len : Nat, bF (SB t (st t (po t))) (st t (pa t)) = len → len ≤ 40 → VQR M' (wln t (SB t (st t (po t))) (st t (pa t))) len) := by
  have W := I.2.1
  have hz := I.nowr
  have ho := I.opnr
  obtain ⟨h1, M1, f1, A1, F1, P1⟩ := s_shortestOf A I hS2 hz.1 hz.2 ho.1 ho.2 (k := -1) (by decide)
  have I1 := I.fm F1.fm
  have F1' : Fs [82, 84, 85, 91] 75 [24, 32] M M1 := F1.mono (by decide) (by decide)
  have e1 : lof t (SB t (st t (po t))) (st t (pa t)) (-1) = bF (SB t (st t (po t))) (st t (pa t)) := by unfold lof; rw [if_pos rfl]
  rw [e1] at f1
  unfold f_Md_laysVerse
  rw [chk_t (I.mh A).T, s_now A I, bndT_ok (by decide), chk_t (I.mh A).T, s_opn A I, bndT_ok (by decide), chk_t (I.mh A).T, f1, bndT_ok (by decide)]
  by_cases g1 : bF (SB t (st t (po t))) (st t (pa t)) = -1
  · rw [if_pos g1, chk_t (by decide), if_pos (Or.inl g1)]
    exact ⟨h1, M1, rfl, A1, F1', fun len e _ => by omega⟩
  · rw [if_neg g1]
    by_cases g2 : bF (SB t (st t (po t))) (st t (pa t)) ≤ 40
    · have hf := (SB_B W ho.1 ho.2).fle (st t (pa t))
      obtain ⟨len, hlen⟩ : ∃ len : Nat, bF (SB t (st t (po t))) (st t (pa t)) = len := ⟨(bF (SB t (st t (po t))) (st t (pa t))).toNat, by omega⟩
      have h40 : len ≤ 40 := by omega
      have A2 := A1.fput (v := 75) (i := 32) (len : Int) (by decide) (by decide) (by decide) (by decide +kernel) (by decide)
      have F2 : Fs [82, 84, 85, 91] 75 [24, 32] M (mup M1 75 32 (len : Int)) := F1'.ps (by decide)
      have I2 := I.fm (M' := mup M1 75 32 (len : Int)) (F2.mono (by decide) (by decide))
      have P2 : RP (mup M1 75 32 (len : Int)) t (SB t (st t (po t))) := P1.fr ((Fs.rf _ _ _ _).ps (by decide))
      rw [if_pos g2, hlen, chk_t (I1.mh A1).T, wth, chk_t (I2.mh A2).T, s_now A2 I2, bndT_ok (by decide), if_neg (by omega)]
      have hX := VX_of W ho.1 ho.2 hz.1 hz.2 hlen
      refine loop_r (F := fun n (b : mH × Int × Int) => f_Md_laysVerse_L39 75 (len : Int) n b.1 b.2.1 b.2.2) (P := fun r => ∃ h' M', r = some ((0, 1), h') ∧ At h' c p L M' ∧ Fs [82, 84, 85, 91] 75 [24, 32] M M' ∧ (∀ len' : Nat, (len : Int) = len' → len' ≤ 40 → VQR M' (wln t (SB t (st t (po t))) (st t (pa t))) len')) (fun i b => b.2 = (wlk t (SB t (st t (po t))) (st t (pa t)) i, (i : Int)) ∧ ∃ M', At b.1 c p L M' ∧ Fr [82, 91] (mup M1 75 32 (len : Int)) M' ∧ ∀ l : Nat, l < i → M' 91 l = wln t (SB t (st t (po t))) (st t (pa t)) l) len (fun i hi b hb n => Or.inr ?_) (fun b hb n => ?_) (i := 0) (b := (hput h1 75 32 (len : Int), st t (pa t), 0)) ⟨rfl, _, A2, Fr.rf _ _, fun l g => absurd g (by omega)⟩ (by omega) (by omega)
      · obtain ⟨h3, x⟩ := b
        obtain ⟨hx_, M3, A3_, F3, v3⟩ := hb
        have hx : x = (wlk t (SB t (st t (po t))) (st t (pa t)) i, (i : Int)) := hx_
        have A3 : At h3 c p L M3 := A3_
        clear hx_ A3_
        subst hx
        have I3 := I2.fm (F3.fm (by decide) (by decide))
        have P3 : RP M3 t (SB t (st t (po t))) := P2.fr ((F3.fs (d := 75) (is := []) (by decide)).mono (by decide) (fun _ q => by cases q))
        have ws := wlk_spec W ho.1 ho.2 hz.1 hz.2 (i := i) (by omega)
        obtain ⟨h4, M4, f4, A4, F4⟩ := s_firstStep A3 I3 hS2 ho.1 ho.2 P3 ws.1.1 ws.1.2 (by omega)
        have I4 := I3.f82 F4
        have C4 := A4.md
        have A5 := A4.aput (v := 91) (i : Int) (wln t (SB t (st t (po t))) (st t (pa t)) i) (by decide) (by decide) (by decide) (by decide +kernel) (by decide) (by decide)
        have F5 : Fr [82, 91] (mup M1 75 32 (len : Int)) (mup M4 91 i (wln t (SB t (st t (po t))) (st t (pa t)) i)) := (F3.tr (F4.mono (by decide))).pu (by decide)
        have I5 := I2.fm (F5.fm (by decide) (by decide))
        have C5 := A5.md
        have x := hX.1 i hi
        have gt := gs_to W (hX.2.1 i (by omega)).1 (hX.2.1 i (by omega)).2 x.2.1
        obtain ⟨h6, M6, f6, A6, F6⟩ := s_thn A5 I5 (s := wlk t (SB t (st t (po t))) (st t (pa t)) i) (v := wln t (SB t (st t (po t))) (st t (pa t)) i) ws.1.1 ws.1.2 gt.1.1 gt.1.2
        rw [x.1] at f6
        have C3 := A3.md
        show ∃ b' : mH × Int × Int, _ ∧ f_Md_laysVerse_L39 75 (len : Int) (n + 1) h3 (wlk t (SB t (st t (po t))) (st t (pa t)) i) i = _
        have f4' : f_Md_firstStep h3 75 (wlk t (SB t (st t (po t))) (st t (pa t)) i) = some ((0, wln t (SB t (st t (po t))) (st t (pa t)) i), h4) := f4
        refine ⟨(h6, wlk t (SB t (st t (po t))) (st t (pa t)) (i + 1), ((i + 1 : Nat) : Int)), ⟨rfl, M6, A6, F5.tr (F6.mono (by decide)), fun l hl => ?_⟩, ?_⟩
        · rw [F6 91 (by decide)]
          by_cases e : l = i
          · rw [e, mup_eq]
          · rw [mup_ne (Or.inr (by omega)), F4 91 (by decide)]; exact v3 l (by omega)
        · rw [f_Md_laysVerse_L39, if_neg (by omega)]
          simp only [C3]
          rw [chk_t trivial, chk_t trivial, f4', bndT_ok (by decide)]
          simp only [C4]
          rw [chk_t trivial, chk_t (by omega), wth]
          simp only [C5]
          rw [chk_t trivial, chk_t trivial, chk_t (by omega), chk_t trivial, s_wn A5 I5, bndT_ok (by decide)]
          simp only [C5]
          rw [chk_t trivial, mup_eq, f6, bndT_ok (by decide), wtv, w32_n i (by omega)]
      · obtain ⟨h3, x⟩ := b
        obtain ⟨hx_, M3, A3_, F3, v3⟩ := hb
        have hx : x = (wlk t (SB t (st t (po t))) (st t (pa t)) len, (len : Int)) := hx_
        have A3 : At h3 c p L M3 := A3_
        clear hx_ A3_
        subst hx
        refine ⟨h3, M3, ?_, A3, F2.tr ((F3.fs (d := 75) (is := []) (by decide)).mono (by decide) (fun _ q => by cases q)), fun len' e e2 => ?_⟩
        · show f_Md_laysVerse_L39 75 (len : Int) (n + 1) h3 _ (len : Int) = _
          rw [f_Md_laysVerse_L39, if_pos (Int.le_refl _), chk_t (by decide)]
        · have : len' = len := by omega
          subst this
          exact ⟨by rw [F3 75 (by decide), mup_eq], v3⟩
    · rw [if_neg g2, chk_t (by decide), if_pos (Or.inr (by omega))]
      exact ⟨h1, M1, rfl, A1, F1', fun len e e2 => by omega⟩
/-- what is best yet stands in the lines' cells -/
def KQR (M : aM) (y : Int) (K : tK) : Prop := (K.1 = 0 ∧ y = -1) ∨ (0 < K.1 ∧ y = K.1 ∧ M 92 0 = K.2.1 ∧ M 92 1 = K.2.2)
theorem KQR.f82 {M' : aM} {y : Int} {K : tK} (Q : KQR M y K) (F : Fr [82] M M') : KQR M' y K := by unfold KQR at Q ⊢; rw [F 92 (by decide)]; exact Q
theorem VQR.f92 {M' : aM} {V : Nat → Int} {len : Nat} (Q : VQR M V len) (F : Fr [82, 92] M M') : VQR M' V len := ⟨by rw [F 75 (by decide)]; exact Q.1, fun l hl => by rw [F 91 (by decide)]; exact Q.2 l hl⟩
/-- one pair of lines -/
theorem s_keepJ (A : At h c p L M) (I : RI M t) (hS2 : nS t ≤ 20000) {len : Nat} (Q : VQR M (wln t (SB t (st t (po t))) (st t (pa t))) len) (h40 : len ≤ 40) (hV : ∀ l, l < len → 0 ≤ wln t (SB t (st t (po t))) (st t (pa t)) l ∧ wln t (SB t (st t (po t))) (st t (pa t)) l < 2 * nb t) {K180 : mH → Int → Option mR} {R : mH → Int → Int → Option mR} {y s1 v : Int} {i j : Nat} (hij : j < len) (h1 : (j : Int) < s1) (hv : aT t (wln t (SB t (st t (po t))) (st t (pa t))) (st t (po t)) len i j len (st t (pa t)) = v) (hi : i ≤ j) :
    ∃ h' M', f_Md_keeps_J127 K180 R 75 y i j j s1 h = (if y < v then R h' v ((j + 1 : Nat) : Int) else R h' y ((j + 1 : Nat) : Int)) ∧ At h' c p L M' ∧ Fr [82, 92] M M' ∧ (y < v → M' 92 0 = i ∧ M' 92 1 = j) ∧ (¬ y < v → M' 92 = M 92) := by
  have hz := I.nowr
  obtain ⟨h2, M2, f2, A2, F2⟩ := s_asTold (r := len) (d := 50) (by omega) A I hS2 Q h40 hV (Nat.le_refl _) (i := i) (j := j) hz.1 hz.2
  rw [Nat.sub_self, hv] at f2
  have f2 : f_Md_asTold 50 h 75 (st t (pa t)) 0 (i : Int) (j : Int) = some ((1, v), h2) := f2
  have C2 := A2.md
  have A3 := A2.aput (v := 92) 0 (i : Int) (by decide) (by decide) (by decide) (by decide +kernel) (by decide) (by decide)
  have C3 := A3.md
  have A4 := A3.aput (v := 92) 1 (j : Int) (by decide) (by decide) (by decide) (by decide +kernel) (by decide) (by decide)
  unfold f_Md_keeps_J127
  rw [if_neg (by omega), chk_t (I.mh A).T, s_now A I, bndT_ok (by decide), chk_t (I.mh A).T, f2, bndT_ok (by decide)]
  have j174 : ∀ h x, f_Md_keeps_J174 R x j h = R h x ((j + 1 : Nat) : Int) := fun h x => by unfold f_Md_keeps_J174; rw [wtv, w32_n j (by omega)]
  by_cases g : y < v
  · rw [if_pos (qlcmp_gt.mpr g)]
    simp only [C2]
    rw [chk_t trivial, chk_t trivial, chk_t (by decide), wth]
    simp only [C3]
    rw [chk_t trivial, chk_t trivial, chk_t (by decide), wth, j174]
    exact ⟨_, _, (if_pos g).symm, A4, ((F2.mono (by decide)).pu (by decide)).pu (by decide), fun _ => ⟨by rw [mup_ne (Or.inr (by decide)), mup_eq], mup_eq _ _ _ _⟩, fun q => absurd g q⟩
  · rw [if_neg (fun q => g (qlcmp_gt.mp q)), j174]
    exact ⟨h2, M2, (if_neg g).symm, A2, F2.mono (by decide), fun q => absurd q g, fun _ => F2 92 (by decide)⟩
end
