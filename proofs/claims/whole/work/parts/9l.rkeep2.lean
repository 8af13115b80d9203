/-! keeps, THE REFERENCE: the rounds over its lines -/
section
variable {h : mH} {c : Int} {p L : Int → Int} {M : aM} {t : tT}
theorem w32_i1 {i : Nat} (h : i < 1000000) : w32 ((i : Int) + 1) = ((i + 1 : Nat) : Int) := w32_n i (by omega)
theorem s_keepL2 (A : At h c p L M) (I : RI M t) (hS2 : nS t ≤ 20000) {len : Nat} (Q : VQR M (wln t (SB t (st t (po t))) (st t (pa t))) len) (h40 : len ≤ 40) (hl : bF (SB t (st t (po t))) (st t (pa t)) = len) {K180 : mH → Int → Option mR} {i : Nat} (hi : i < len) {y : Int} {K : tK} (hK : KQR M y K) :
    ∃ h' M' y', f_Md_keeps_L109 K180 75 2 i 1000000 h y ((i + 1 : Nat) : Int) = K180 h' y' ∧ At h' c p L M' ∧ Fr [82, 92] M M' ∧ KQR M' y' (kJ t (SB t (st t (po t))) (st t (pa t)) i K (len - (i + 1))) := by
  have W := I.2.1
  have hz := I.nowr
  have ho := I.opnr
  have X := VX_of W ho.1 ho.2 hz.1 hz.2 hl
  have hV : ∀ l, l < len → 0 ≤ wln t (SB t (st t (po t))) (st t (pa t)) l ∧ wln t (SB t (st t (po t))) (st t (pa t)) l < 2 * nb t := fun l hlt => by
    have x := X.1 l hlt
    exact (gs_to W (X.2.1 l (by omega)).1 (X.2.1 l (by omega)).2 x.2.1).1
  refine loop_r (F := fun n (b : mH × Int × Int) => f_Md_keeps_L109 K180 75 2 i n b.1 b.2.1 b.2.2) (P := fun r => ∃ h' M' y', r = K180 h' y' ∧ At h' c p L M' ∧ Fr [82, 92] M M' ∧ KQR M' y' (kJ t (SB t (st t (po t))) (st t (pa t)) i K (len - (i + 1)))) (fun m b => b.2.2 = ((i + 1 + m : Nat) : Int) ∧ ∃ M', At b.1 c p L M' ∧ Fr [82, 92] M M' ∧ KQR M' b.2.1 (kJ t (SB t (st t (po t))) (st t (pa t)) i K m)) (len - (i + 1)) (fun m hm b hb n => Or.inr ?_) (fun b hb n => ?_) (i := 0) (b := (h, y, ((i + 1 : Nat) : Int))) ⟨by rw [Nat.add_zero], M, A, Fr.rf _ _, hK⟩ (by omega) (by omega)
  · obtain ⟨h2, y2, x⟩ := b
    obtain ⟨hx_, M2, A2_, F2, K2_⟩ := hb
    have hx : x = ((i + 1 + m : Nat) : Int) := hx_
    have A2 : At h2 c p L M2 := A2_
    have K2 : KQR M2 y2 (kJ t (SB t (st t (po t))) (st t (pa t)) i K m) := K2_
    clear hx_ A2_ K2_
    subst hx
    have I2 := I.fm (F2.fm (by decide) (by decide))
    have C2 := A2.md
    have Q2 := Q.f92 F2
    have kp := kc_pos W X (i := i) (m := m) (by omega)
    obtain ⟨h3, M3, f3, A3, F3, e3, n3⟩ := s_keepJ A2 I2 hS2 Q2 h40 hV (K180 := K180) (R := f_Md_keeps_L109 K180 75 2 i n) (y := y2) (s1 := (len : Int)) (v := kc t (SB t (st t (po t))) (st t (pa t)) i m) (i := i) (j := i + 1 + m) (by omega) (by omega) (kT_two W X (by omega)) (by omega)
    have hc : kJ t (SB t (st t (po t))) (st t (pa t)) i K (m + 1) = if (kJ t (SB t (st t (po t))) (st t (pa t)) i K m).1 < kc t (SB t (st t (po t))) (st t (pa t)) i m then (kc t (SB t (st t (po t))) (st t (pa t)) i m, (i : Int), ((i + 1 + m : Nat) : Int)) else kJ t (SB t (st t (po t))) (st t (pa t)) i K m := rfl
    generalize kJ t (SB t (st t (po t))) (st t (pa t)) i K m = Km at hc K2
    generalize kc t (SB t (st t (po t))) (st t (pa t)) i m = v at hc kp f3 e3 n3
    have iff : y2 < v ↔ Km.1 < v := by
      rcases K2 with q | q <;> omega
    show ∃ b' : mH × Int × Int, _ ∧ f_Md_keeps_L109 K180 75 2 i (n + 1) h2 y2 ((i + 1 + m : Nat) : Int) = _
    rw [f_Md_keeps_L109, if_neg (by decide)]
    simp only [C2]
    rw [chk_t trivial, Q2.1, f3]
    by_cases g : y2 < v
    · rw [if_pos g]
      refine ⟨(h3, v, ((i + 1 + m + 1 : Nat) : Int)), ⟨rfl, M3, A3, F2.tr F3, ?_⟩, rfl⟩
      rw [hc, if_pos (iff.mp g)]
      exact Or.inr ⟨by show 0 < v; omega, rfl, (e3 g).1, (e3 g).2⟩
    · rw [if_neg g]
      refine ⟨(h3, y2, ((i + 1 + m + 1 : Nat) : Int)), ⟨rfl, M3, A3, F2.tr F3, ?_⟩, rfl⟩
      rw [hc, if_neg (fun q => g (iff.mpr q))]
      unfold KQR at K2 ⊢
      rw [n3 g]; exact K2
  · obtain ⟨h2, y2, x⟩ := b
    obtain ⟨hx_, M2, A2_, F2, K2_⟩ := hb
    have hx : x = ((i + 1 + (len - (i + 1)) : Nat) : Int) := hx_
    have A2 : At h2 c p L M2 := A2_
    clear hx_ A2_
    subst hx
    have C2 := A2.md
    have Q2 := Q.f92 F2
    refine ⟨h2, M2, y2, ?_, A2, F2, K2_⟩
    show f_Md_keeps_L109 K180 75 2 i (n + 1) h2 y2 ((i + 1 + (len - (i + 1)) : Nat) : Int) = _
    rw [f_Md_keeps_L109, if_neg (by decide)]
    unfold f_Md_keeps_J127
    simp only [C2]
    rw [chk_t trivial, Q2.1, if_pos (by omega)]
theorem kJ_last {S : tB} {z : Int} {i : Nat} {K : tK} (h : 0 < K.1) : ∀ m, 0 < (kJ t S z i K m).1
  | 0 => h
  | m + 1 => by
    have := kJ_last (S := S) (z := z) (i := i) h m
    rw [kJ]
    split
    · rename_i g; show 0 < kc t S z i m; omega
    · exact this
theorem kI_last (W : WS t) {S : tB} {z : Int} {len : Nat} {o : Int} (X : VX t (wln t S z) (wlk t S z) len o) (h2 : 2 ≤ len) : ∀ i : Nat, 0 < (kI t S z len (i + 1)).1
  | 0 => by
    show 0 < (kJ t S z 0 (0, -1, -1) (len - (0 + 1))).1
    obtain ⟨m, hm⟩ : ∃ m, len - (0 + 1) = m + 1 := ⟨len - 2, by omega⟩
    have kp := kc_pos W X (i := 0) (m := 0) (by omega)
    have first : 0 < (kJ t S z 0 (0, -1, -1) 1).1 := by
      show 0 < (if (0 : Int) < kc t S z 0 0 then (kc t S z 0 0, ((0 : Nat) : Int), ((0 + 1 + 0 : Nat) : Int)) else ((0 : Int), (-1 : Int), (-1 : Int))).1
      rw [if_pos (by omega)]; show 0 < kc t S z 0 0; omega
    rw [hm]
    have : ∀ m, 0 < (kJ t S z 0 (0, -1, -1) (m + 1)).1 := fun m => by
      induction m with
      | zero => exact first
      | succ m ih =>
        rw [kJ]
        split
        · rename_i g; show 0 < kc t S z 0 (m + 1); omega
        · exact ih
    exact this m
  | i + 1 => by
    have := kI_last W X h2 i
    rw [kI]; exact kJ_last this _
theorem s_keepL1 (A : At h c p L M) (I : RI M t) (hS2 : nS t ≤ 20000) {len : Nat} (Q : VQR M (wln t (SB t (st t (po t))) (st t (pa t))) len) (h40 : len ≤ 40) (hl : bF (SB t (st t (po t))) (st t (pa t)) = len) {K180 : mH → Int → Option mR} {i : Nat} (hi : i < len) {y : Int} (hy : (i = 0 ∧ y = -1) ∨ (0 < i ∧ y = 1 ∧ M 92 0 = 0)) :
    ∃ h' M', f_Md_keeps_L109 K180 75 1 i 1000000 h y (i : Int) = K180 h' 1 ∧ At h' c p L M' ∧ Fr [82, 92] M M' ∧ M' 92 0 = 0 := by
  have W := I.2.1
  have hz := I.nowr
  have ho := I.opnr
  have X := VX_of W ho.1 ho.2 hz.1 hz.2 hl
  have hV : ∀ l, l < len → 0 ≤ wln t (SB t (st t (po t))) (st t (pa t)) l ∧ wln t (SB t (st t (po t))) (st t (pa t)) l < 2 * nb t := fun l hlt => by
    have x := X.1 l hlt
    exact (gs_to W (X.2.1 l (by omega)).1 (X.2.1 l (by omega)).2 x.2.1).1
  have second : ∀ h x, f_Md_keeps_L109 K180 75 1 i (999998 + 1) h x ((i + 1 : Nat) : Int) = K180 h x := fun h x => by
    rw [f_Md_keeps_L109, if_pos rfl, w32_i1 (by omega)]
    unfold f_Md_keeps_J127
    rw [if_pos (Int.le_refl _)]
  obtain ⟨h3, M3, f3, A3, F3, e3, n3⟩ := s_keepJ A I hS2 Q h40 hV (K180 := K180) (R := f_Md_keeps_L109 K180 75 1 i (999998 + 1)) (y := y) (s1 := ((i + 1 : Nat) : Int)) (v := 1) (i := i) (j := i) hi (by omega) (kT_one W X hi) (Nat.le_refl i)
  refine ⟨h3, M3, ?_, A3, F3, ?_⟩
  · show f_Md_keeps_L109 K180 75 1 i ((999998 + 1) + 1) h y (i : Int) = K180 h3 1
    rw [f_Md_keeps_L109, if_pos rfl, w32_i1 (by omega), f3]
    rcases hy with q | q
    · rw [if_pos (by omega), second]
    · rw [if_neg (by omega), second, q.2.1]
  · rcases hy with q | q
    · rw [(e3 (by omega)).1, q.1]; rfl
    · rw [n3 (by omega)]; exact q.2.2
theorem s_keepK (A : At h c p L M) {n w y : Int} (hw : 0 ≤ w ∧ w ≤ 2) : (if w = 0 then some ((1, y), h) else chk (hpT h 75 = 12) (chk (hpT h (hpV h 75 31) = 21) (chk (0 ≤ w32 (w - 1) ∧ w32 (w - 1) < hpL h (hpV h 75 31)) (some ((1, hpV h (hpV h 75 31) (w32 (w - 1))), h))))) = some ((1, if w = 0 then y else if w = 1 then M 92 0 else M 92 1), h) := by
  have C := A.md
  by_cases g : w = 0
  · rw [if_pos g, if_pos g]
  · rw [if_neg g, if_neg g, w32_id (by omega) (by omega)]
    simp only [C]
    rw [chk_t trivial, chk_t trivial, chk_t (by omega)]
    by_cases g2 : w = 1
    · rw [if_pos g2, g2]; rfl
    · rw [if_neg g2, show w = 2 by omega]; rfl
theorem s_keepRun (A : At h c p L M) (I : RI M t) (hS2 : nS t ≤ 20000) {len : Nat} (Q : VQR M (wln t (SB t (st t (po t))) (st t (pa t))) len) (h40 : len ≤ 40) (hl : bF (SB t (st t (po t))) (st t (pa t)) = len) {n w : Int} (hn : 1 ≤ n ∧ n ≤ 2) (hw : 0 ≤ w ∧ w ≤ n) (hln : n ≤ len) : ∃ h' M', f_Md_keeps_L84 (fun h4 x5 => (if w = 0 then some ((1, x5), h4) else chk (hpT h4 75 = 12) (chk (hpT h4 (hpV h4 75 31) = 21) (chk (0 ≤ w32 (w - 1) ∧ w32 (w - 1) < hpL h4 (hpV h4 75 31)) (some ((1, hpV h4 (hpV h4 75 31) (w32 (w - 1))), h4)))))) 75 n 1000000 h (-1) 0 = some ((1, kpV t n w), h') ∧ At h' c p L M' ∧ Fr [82, 92] M M' := by
  have W := I.2.1
  have hz := I.nowr
  have ho := I.opnr
  have X := VX_of W ho.1 ho.2 hz.1 hz.2 hl
  have ekp : kpV t n w = if n = 1 then (if w = 0 then 1 else 0) else if w = 0 then (kI t (SB t (st t (po t))) (st t (pa t)) len len).1 else if w = 1 then (kI t (SB t (st t (po t))) (st t (pa t)) len len).2.1 else (kI t (SB t (st t (po t))) (st t (pa t)) len len).2.2 := by
    unfold kpV; rw [hl, Int.toNat_natCast, if_neg (by omega)]
  rw [ekp]
  by_cases g : n = 1
  · subst g
    rw [if_pos rfl]
    refine loop_r (F := fun q (b : mH × Int × Int) => f_Md_keeps_L84 (fun h4 x5 => (if w = 0 then some ((1, x5), h4) else chk (hpT h4 75 = 12) (chk (hpT h4 (hpV h4 75 31) = 21) (chk (0 ≤ w32 (w - 1) ∧ w32 (w - 1) < hpL h4 (hpV h4 75 31)) (some ((1, hpV h4 (hpV h4 75 31) (w32 (w - 1))), h4)))))) 75 1 q b.1 b.2.1 b.2.2) (P := fun r => ∃ h' M', r = some ((1, if w = 0 then 1 else 0), h') ∧ At h' c p L M' ∧ Fr [82, 92] M M') (fun i b => b.2.2 = (i : Int) ∧ ∃ M', At b.1 c p L M' ∧ Fr [82, 92] M M' ∧ ((i = 0 ∧ b.2.1 = -1) ∨ (0 < i ∧ b.2.1 = 1 ∧ M' 92 0 = 0))) len (fun i hi b hb q => Or.inr ?_) (fun b hb q => ?_) (i := 0) (b := (h, -1, 0)) ⟨rfl, M, A, Fr.rf _ _, Or.inl ⟨rfl, rfl⟩⟩ (by omega) (by omega)
    · obtain ⟨h2, y2, x⟩ := b
      obtain ⟨hx_, M2, A2_, F2, e2_⟩ := hb
      have hx : x = (i : Int) := hx_
      have A2 : At h2 c p L M2 := A2_
      have e2 : (i = 0 ∧ y2 = -1) ∨ (0 < i ∧ y2 = 1 ∧ M2 92 0 = 0) := e2_
      clear hx_ A2_ e2_
      subst hx
      have I2 := I.fm (F2.fm (by decide) (by decide))
      have C2 := A2.md
      have Q2 := Q.f92 F2
      obtain ⟨h3, M3, f3, A3, F3, e3⟩ := s_keepL1 A2 I2 hS2 Q2 h40 hl (K180 := fun h1 x2 => wtv (w32 ((i : Int) + 1)) (fun x3 => (f_Md_keeps_L84 (fun h4 x5 => (if w = 0 then some ((1, x5), h4) else chk (hpT h4 75 = 12) (chk (hpT h4 (hpV h4 75 31) = 21) (chk (0 ≤ w32 (w - 1) ∧ w32 (w - 1) < hpL h4 (hpV h4 75 31)) (some ((1, hpV h4 (hpV h4 75 31) (w32 (w - 1))), h4)))))) 75 1 q) h1 x2 x3)) hi e2
      show ∃ b' : mH × Int × Int, _ ∧ f_Md_keeps_L84 _ 75 1 (q + 1) h2 y2 (i : Int) = _
      rw [f_Md_keeps_L84]
      simp only [C2]
      rw [chk_t trivial, Q2.1, if_neg (by omega)]
      unfold f_Md_keeps_J107
      rw [f3, wtv, w32_n i (by omega)]
      exact ⟨(h3, 1, ((i + 1 : Nat) : Int)), ⟨rfl, M3, A3, F2.tr F3, Or.inr ⟨by omega, rfl, e3⟩⟩, rfl⟩
    · obtain ⟨h2, y2, x⟩ := b
      obtain ⟨hx_, M2, A2_, F2, e2_⟩ := hb
      have hx : x = (len : Int) := hx_
      have A2 : At h2 c p L M2 := A2_
      have e2 : (len = 0 ∧ y2 = -1) ∨ (0 < len ∧ y2 = 1 ∧ M2 92 0 = 0) := e2_
      clear hx_ A2_ e2_
      subst hx
      have e2 : y2 = 1 ∧ M2 92 0 = 0 := by
        rcases e2 with e | e
        · omega
        · exact e.2
      have C2 := A2.md
      have Q2 := Q.f92 F2
      refine ⟨h2, M2, ?_, A2, F2⟩
      show f_Md_keeps_L84 _ 75 1 (q + 1) h2 y2 (len : Int) = _
      rw [f_Md_keeps_L84, chk_t (MH.of A2).T, show hpV h2 75 32 = M2 75 32 by simp only [C2], Q2.1, if_pos (Int.le_refl _), s_keepK A2 (n := 1) (by omega), e2.1, e2.2]
      by_cases w0 : w = 0
      · rw [if_pos w0, if_pos w0]
      · rw [if_neg w0, if_neg w0, if_pos (by omega)]
  · have g : n = 2 := by omega
    subst g
    rw [if_neg (by decide)]
    refine loop_r (F := fun q (b : mH × Int × Int) => f_Md_keeps_L84 (fun h4 x5 => (if w = 0 then some ((1, x5), h4) else chk (hpT h4 75 = 12) (chk (hpT h4 (hpV h4 75 31) = 21) (chk (0 ≤ w32 (w - 1) ∧ w32 (w - 1) < hpL h4 (hpV h4 75 31)) (some ((1, hpV h4 (hpV h4 75 31) (w32 (w - 1))), h4)))))) 75 2 q b.1 b.2.1 b.2.2) (P := fun r => ∃ h' M', r = some ((1, if w = 0 then (kI t (SB t (st t (po t))) (st t (pa t)) len len).1 else if w = 1 then (kI t (SB t (st t (po t))) (st t (pa t)) len len).2.1 else (kI t (SB t (st t (po t))) (st t (pa t)) len len).2.2), h') ∧ At h' c p L M' ∧ Fr [82, 92] M M') (fun i b => b.2.2 = (i : Int) ∧ ∃ M', At b.1 c p L M' ∧ Fr [82, 92] M M' ∧ KQR M' b.2.1 (kI t (SB t (st t (po t))) (st t (pa t)) len i)) len (fun i hi b hb q => Or.inr ?_) (fun b hb q => ?_) (i := 0) (b := (h, -1, 0)) ⟨rfl, M, A, Fr.rf _ _, Or.inl ⟨rfl, rfl⟩⟩ (by omega) (by omega)
    · obtain ⟨h2, y2, x⟩ := b
      obtain ⟨hx_, M2, A2_, F2, e2_⟩ := hb
      have hx : x = (i : Int) := hx_
      have A2 : At h2 c p L M2 := A2_
      have e2 : KQR M2 y2 (kI t (SB t (st t (po t))) (st t (pa t)) len i) := e2_
      clear hx_ A2_ e2_
      subst hx
      have I2 := I.fm (F2.fm (by decide) (by decide))
      have C2 := A2.md
      have Q2 := Q.f92 F2
      obtain ⟨h3, M3, y3, f3, A3, F3, e3⟩ := s_keepL2 A2 I2 hS2 Q2 h40 hl (K180 := fun h1 x2 => wtv (w32 ((i : Int) + 1)) (fun x3 => (f_Md_keeps_L84 (fun h4 x5 => (if w = 0 then some ((1, x5), h4) else chk (hpT h4 75 = 12) (chk (hpT h4 (hpV h4 75 31) = 21) (chk (0 ≤ w32 (w - 1) ∧ w32 (w - 1) < hpL h4 (hpV h4 75 31)) (some ((1, hpV h4 (hpV h4 75 31) (w32 (w - 1))), h4)))))) 75 2 q) h1 x2 x3)) hi e2
      show ∃ b' : mH × Int × Int, _ ∧ f_Md_keeps_L84 _ 75 2 (q + 1) h2 y2 (i : Int) = _
      rw [f_Md_keeps_L84]
      simp only [C2]
      rw [chk_t trivial, Q2.1, if_neg (by omega), w32_n i (by omega)]
      unfold f_Md_keeps_J107
      rw [f3, wtv, w32_n i (by omega)]
      exact ⟨(h3, y3, ((i + 1 : Nat) : Int)), ⟨rfl, M3, A3, F2.tr F3, e3⟩, rfl⟩
    · obtain ⟨h2, y2, x⟩ := b
      obtain ⟨hx_, M2, A2_, F2, e2_⟩ := hb
      have hx : x = (len : Int) := hx_
      have A2 : At h2 c p L M2 := A2_
      have e2 : KQR M2 y2 (kI t (SB t (st t (po t))) (st t (pa t)) len len) := e2_
      clear hx_ A2_ e2_
      subst hx
      have hp : 0 < (kI t (SB t (st t (po t))) (st t (pa t)) len len).1 := by
        have := kI_last W X (by omega) (len - 1)
        rwa [show len - 1 + 1 = len by omega] at this
      have e2 : y2 = (kI t (SB t (st t (po t))) (st t (pa t)) len len).1 ∧ M2 92 0 = (kI t (SB t (st t (po t))) (st t (pa t)) len len).2.1 ∧ M2 92 1 = (kI t (SB t (st t (po t))) (st t (pa t)) len len).2.2 := by
        rcases e2 with e | e
        · omega
        · exact e.2
      have C2 := A2.md
      have Q2 := Q.f92 F2
      refine ⟨h2, M2, ?_, A2, F2⟩
      show f_Md_keeps_L84 _ 75 2 (q + 1) h2 y2 (len : Int) = _
      rw [f_Md_keeps_L84, chk_t (MH.of A2).T, show hpV h2 75 32 = M2 75 32 by simp only [C2], Q2.1, if_pos (Int.le_refl _), s_keepK A2 (n := 2) (by omega), e2.1, e2.2.1, e2.2.2]
theorem r_keeps (A : At h c p L M) (I : RI M t) (n w : Int) : RV c p L M 1 (f_Md_keeps h 75 n w) (kpV t n w) (if (1 ≤ n ∧ n ≤ 2) ∧ 0 ≤ w ∧ w ≤ 2 then (if nS t ≤ 20000 then 0 else 2) else 1) := by
  have W := I.2.1
  have j41 : ∀ k : Int, 0 ≤ k → (k = 0 → ((1 ≤ n ∧ n ≤ 2) ∧ 0 ≤ w ∧ w ≤ 2) ∧ nS t ≤ 20000) → RV c p L M 1 (f_Md_keeps_J41 75 n w 75 k h) (kpV t n w) k := fun k k0 hk => by
    unfold f_Md_keeps_J41
    refine RV_head A I k0 (fun _ => rfl) (fun e h1 M1 A1 I1 z1 F1 => ?_)
    obtain ⟨⟨hn, hw⟩, hS2⟩ := hk e
    obtain ⟨h2, M2, f2, A2, F2, V2⟩ := s_laysVerse A1 I1 hS2
    have I2 := I1.fm (F2.mono (by decide) (by decide))
    have C2 := A2.md
    have z2 : M2 75 5 = 0 := by rw [F2.2 5 (by decide)]; exact z1
    have F2' : FM M1 M2 := F2.mono (by decide) (by decide)
    have hf := (SB_B W I1.opnr.1 I1.opnr.2).fle (st t (pa t))
    rw [chk_t (I1.mh A1).T, f2, bndT_ok (by decide)]
    by_cases g : bF (SB t (st t (po t))) (st t (pa t)) = -1 ∨ 40 < bF (SB t (st t (po t))) (st t (pa t))
    · rw [if_pos (show (if bF (SB t (st t (po t))) (st t (pa t)) = -1 ∨ 40 < bF (SB t (st t (po t))) (st t (pa t)) then (0 : Int) else 1) = 0 by rw [if_pos g])]
      have : kpV t n w = -1 := by unfold kpV; rw [if_pos (by omega)]
      rw [this]
      exact RV_mv F2' (RV_ok A2 z2)
    · rw [if_neg (show ¬ (if bF (SB t (st t (po t))) (st t (pa t)) = -1 ∨ 40 < bF (SB t (st t (po t))) (st t (pa t)) then (0 : Int) else 1) = 0 by rw [if_neg g]; decide)]
      obtain ⟨len, hlen⟩ : ∃ len : Nat, bF (SB t (st t (po t))) (st t (pa t)) = len := ⟨(bF (SB t (st t (po t))) (st t (pa t))).toNat, by omega⟩
      have Q2 := V2 len hlen (by omega)
      rw [chk_t (MH.of A2).T, show hpV h2 75 32 = M2 75 32 by simp only [C2], Q2.1]
      by_cases g2 : (len : Int) < n
      · rw [if_pos g2]
        have : kpV t n w = -1 := by unfold kpV; rw [if_pos (by omega)]
        rw [this]
        exact RV_mv F2' (RV_ok A2 z2)
      · rw [if_neg g2]
        by_cases g3 : w ≤ n
        · rw [if_pos g3]
          obtain ⟨h3, M3, f3, A3, F3⟩ := s_keepRun A2 I2 hS2 Q2 (by omega) hlen hn ⟨hw.1, g3⟩ (by omega)
          rw [f3]
          exact RV_mv (F2'.tr (F3.fm (by decide) (by decide))) (RV_ok A3 (by rw [F3 75 (by decide)]; exact z2))
        · rw [if_neg g3]
          have : kpV t n w = -1 := by unfold kpV; rw [if_pos (by omega)]
          rw [this]
          exact RV_mv F2' (RV_ok A2 z2)
  unfold f_Md_keeps
  rw [s_Md_amid, bndT_ok (by decide)]
  by_cases g1 : 1 ≤ n ∧ n ≤ 2
  · rw [b2d g1, if_neg (by decide), s_Md_amid, bndT_ok (by decide)]
    by_cases g2 : 0 ≤ w ∧ w ≤ 2
    · rw [b2d g2, if_neg (show ¬ (1 : Int) = 0 by decide), chk_t (I.mh A).T, s_Md_spent A I, bndT_ok (by decide)]
      by_cases g3 : nS t ≤ 20000
      · rw [show (if (1 ≤ n ∧ n ≤ 2) ∧ 0 ≤ w ∧ w ≤ 2 then (if nS t ≤ 20000 then (0 : Int) else 2) else 1) = 0 by rw [if_pos ⟨g1, g2⟩, if_pos g3], show (if nS t ≤ 20000 then (0 : Int) else 1) = 0 from if_pos g3, if_pos rfl]; exact j41 0 (by decide) (fun _ => ⟨⟨g1, g2⟩, g3⟩)
      · rw [show (if (1 ≤ n ∧ n ≤ 2) ∧ 0 ≤ w ∧ w ≤ 2 then (if nS t ≤ 20000 then (0 : Int) else 2) else 1) = 2 by rw [if_pos ⟨g1, g2⟩, if_neg g3], show (if nS t ≤ 20000 then (0 : Int) else 1) = 1 from if_neg g3, if_neg (show ¬ (1 : Int) = 0 by decide)]; exact j41 2 (by decide) (fun e => absurd e (by decide))
    · rw [b2n g2, if_pos rfl, if_neg (fun q => g2 q.2)]; unfold f_Md_keeps_J25; exact j41 1 (by decide) (fun e => absurd e (by decide))
  · rw [b2n g1, if_pos rfl, if_neg (fun q => g1 q.1)]; unfold f_Md_keeps_J25; exact j41 1 (by decide) (fun e => absurd e (by decide))
end
