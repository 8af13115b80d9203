/-! LINES TO KEEP: the call -/
def kpV (t : tT) (n w : Int) : Int :=
  if bF (SB t (st t (po t))) (st t (pa t)) < n ∨ 40 < bF (SB t (st t (po t))) (st t (pa t)) ∨ n < w then -1 else
  if n = 1 then (if w = 0 then 1 else 0) else
  if w = 0 then (kI t (SB t (st t (po t))) (st t (pa t)) (bF (SB t (st t (po t))) (st t (pa t))).toNat (bF (SB t (st t (po t))) (st t (pa t))).toNat).1 else
  if w = 1 then (kI t (SB t (st t (po t))) (st t (pa t)) (bF (SB t (st t (po t))) (st t (pa t))).toNat (bF (SB t (st t (po t))) (st t (pa t))).toNat).2.1 else
  (kI t (SB t (st t (po t))) (st t (pa t)) (bF (SB t (st t (po t))) (st t (pa t))).toNat (bF (SB t (st t (po t))) (st t (pa t))).toNat).2.2
section
variable {h : mH} {c : Int} {p L : Int → Int} {M : aM} {E : Int → tT} {t : tT}
theorem s_Kept_seek (A : At h c p L M) (W : WS t) (hS2 : nS t ≤ 20000) (G : GP M M L t) {o z : Int} (ho0 : 0 ≤ o) (ho1 : o < nS t) (h0 : 0 ≤ z) (h1' : z < nS t) {len : Nat} (hl : bF (SB t o) z = len) (h40 : len ≤ 40) (V : VQ M t (SB t o) z len) {n : Int} (hn : n = 1 ∨ n = 2) :
    ∃ h' M', f_Kept_seek h 67 41 n = some ((3, 0), h') ∧ At h' c p L M' ∧ FK M M' ∧ (n = 1 → M' 67 4 = 1 ∧ M' 67 5 = 0) ∧ (n = 2 → M' 67 4 = (kI t (SB t o) z len len).1 ∧ M' 67 5 = (kI t (SB t o) z len len).2.1 ∧ M' 67 6 = (kI t (SB t o) z len len).2.2) := by
  have C := A.ke
  have A1 := A.fput (v := 67) (i := 4) 0 (by decide) (by decide) (by decide) (by decide +kernel) (by decide)
  have C1 := A1.ke
  have A2 := A1.fput (v := 67) (i := 5) (-1) (by decide) (by decide) (by decide) (by decide +kernel) (by decide)
  have C2 := A2.ke
  have A3 := A2.fput (v := 67) (i := 6) (-1) (by decide) (by decide) (by decide) (by decide +kernel) (by decide)
  have C3 := A3.ke
  have F3 : FK M (mup (mup (mup M 67 4 0) 67 5 (-1)) 67 6 (-1)) := (((Fs.rf _ _ _ _).ps (by decide)).ps (by decide)).ps (by decide)
  have V3 : VQ (mup (mup (mup M 67 4 0) 67 5 (-1)) 67 6 (-1)) t (SB t o) z len := V.fk (by rw [mup_ne (Or.inr (by decide)), mup_ne (Or.inr (by decide)), mup_ne (Or.inr (by decide))]) (by rw [mup_fn (by decide), mup_fn (by decide), mup_fn (by decide)]) (by rw [mup_fn (by decide), mup_fn (by decide), mup_fn (by decide)])
  unfold f_Kept_seek
  simp only [C]
  rw [chk_t trivial, wth]
  simp only [C1]
  rw [chk_t trivial, wth]
  simp only [C2]
  rw [chk_t trivial, wth]
  rcases hn with e | e
  · subst e
    have A4 := A3.fput (v := 67) (i := 4) 1 (by decide) (by decide) (by decide) (by decide +kernel) (by decide)
    have C4 := A4.ke
    have A5 := A4.fput (v := 67) (i := 5) 0 (by decide) (by decide) (by decide) (by decide +kernel) (by decide)
    rw [if_pos rfl]
    simp only [C3]
    rw [chk_t trivial, wth]
    simp only [C4]
    rw [chk_t trivial, wth]
    exact ⟨_, _, rfl, A5, (F3.ps (by decide)).ps (by decide), fun _ => ⟨by rw [mup_ne (Or.inr (by decide)), mup_eq], mup_eq _ _ _ _⟩, fun q => absurd q (by decide)⟩
  · subst e
    rw [if_neg (by decide)]
    have key : ∀ o' : Option mR, (∃ h' M', o' = some ((3, 0), h') ∧ At h' c p L M' ∧ FK M M' ∧ VQ M' t (SB t o) z len ∧ M' 67 4 = (kI t (SB t o) z len len).1 ∧ M' 67 5 = (kI t (SB t o) z len len).2.1 ∧ M' 67 6 = (kI t (SB t o) z len len).2.2) → ∃ h' M', o' = some ((3, 0), h') ∧ At h' c p L M' ∧ FK M M' ∧ ((2 : Int) = 1 → M' 67 4 = 1 ∧ M' 67 5 = 0) ∧ ((2 : Int) = 2 → M' 67 4 = (kI t (SB t o) z len len).1 ∧ M' 67 5 = (kI t (SB t o) z len len).2.1 ∧ M' 67 6 = (kI t (SB t o) z len len).2.2) := fun o' ⟨h', M', a, b, d, _, e⟩ => ⟨h', M', a, b, d, fun q => absurd q (by decide), fun _ => e⟩
    refine key _ ?_
    refine loop_r (F := fun n (x : mH × Int) => f_Kept_seek_L33 67 41 n x.1 x.2) (P := fun r => ∃ h' M', r = some ((3, 0), h') ∧ At h' c p L M' ∧ FK M M' ∧ VQ M' t (SB t o) z len ∧ M' 67 4 = (kI t (SB t o) z len len).1 ∧ M' 67 5 = (kI t (SB t o) z len len).2.1 ∧ M' 67 6 = (kI t (SB t o) z len len).2.2) (fun i x => x.2 = (i : Int) ∧ ∃ M', At x.1 c p L M' ∧ FK M M' ∧ VQ M' t (SB t o) z len ∧ M' 67 4 = (kI t (SB t o) z len i).1 ∧ M' 67 5 = (kI t (SB t o) z len i).2.1 ∧ M' 67 6 = (kI t (SB t o) z len i).2.2) len (fun i hi x hx n => ?_) (fun x hx n => ?_) (i := 0) (b := (hput (hput (hput h 67 4 0) 67 5 (-1)) 67 6 (-1), 0)) ⟨rfl, _, A3, F3, V3, by rw [mup_ne (Or.inr (by decide)), mup_ne (Or.inr (by decide)), mup_eq]; rfl, by rw [mup_ne (Or.inr (by decide)), mup_eq]; rfl, by rw [mup_eq]; rfl⟩ (Nat.zero_le _) (by clear key V3 F3 A3 C3 A2 C2 A1 C1 C V hl; omega)
    · obtain ⟨h2, r⟩ := x
      obtain ⟨hr_, M4, A4_, F4, V4, Q4⟩ := hx
      have hr : r = (i : Int) := hr_
      have A4 : At h2 c p L M4 := A4_
      clear hr_ A4_
      subst hr
      right
      have C4 := A4.ke
      obtain ⟨h5, M5, f5, A5, F5, V5, Q5⟩ := s_seekWith A4 W hS2 (G.fk F4) ho0 ho1 h0 h1' hl h40 V4 hi (K := kI t (SB t o) z len i) Q4 (kI_pos i)
      have hi3 : ¬ ((len : Int) ≤ i) := fun q => by have := Int.ofNat_le.mp q; exact absurd hi (Nat.not_lt.mpr this)
      have hiw : w32 ((i : Int) + 1) = ((i + 1 : Nat) : Int) := w32_n i (Nat.lt_of_lt_of_le hi (Nat.le_trans h40 (by decide)))
      refine ⟨(h5, ((i + 1 : Nat) : Int)), ⟨rfl, M5, A5, F4.tr F5, V5, Q5⟩, ?_⟩
      show f_Kept_seek_L33 67 41 (n + 1) h2 i = f_Kept_seek_L33 67 41 n h5 ((i + 1 : Nat) : Int)
      rw [f_Kept_seek_L33]
      simp only [C4]
      rw [chk_t trivial, V4.1, if_neg hi3, chk_t trivial, f5, bndT_ok (by decide), wtv, hiw]
    · obtain ⟨h2, r⟩ := x
      obtain ⟨hr_, M4, A4_, F4, V4, Q4⟩ := hx
      have hr : r = (len : Int) := hr_
      have A4 : At h2 c p L M4 := A4_
      clear hr_ A4_
      subst hr
      have C4 := A4.ke
      refine ⟨h2, M4, ?_, A4, F4, V4, Q4⟩
      show f_Kept_seek_L33 67 41 (n + 1) h2 len = _
      rw [f_Kept_seek_L33]
      simp only [C4]
      rw [chk_t trivial, V4.1, if_pos (Int.le_refl _)]
theorem c_keeps (A : At h c p L M) (K : KS E M L t) (n w : Int) : CR c M E t (f_Nb_keeps h 1 n w) (if (1 ≤ n ∧ n ≤ 2) ∧ 0 ≤ w ∧ w ≤ 2 then (if nS t ≤ 20000 then (1, kpV t n w) else (4, xS)) else (4, xA)) := by
  have C := A.nb
  have hk : PK 51 52 53 := by unfold PK; decide
  unfold f_Nb_keeps
  by_cases g1 : n < 1
  · rw [if_pos g1, if_neg (by omega)]; exact CR_ex A K
  rw [if_neg g1]
  by_cases g2 : 2 < n
  · rw [if_pos g2, if_neg (by omega)]; exact CR_ex A K
  rw [if_neg g2]
  by_cases g3 : w < 0
  · rw [if_pos g3, if_neg (by omega)]; exact CR_ex A K
  rw [if_neg g3]
  by_cases g4 : w ≤ 2
  · rw [if_pos g4, if_pos (show (1 ≤ n ∧ n ≤ 2) ∧ 0 ≤ w ∧ w ≤ 2 by omega)]
    simp only [C]
    rw [chk_t trivial]
    refine CR_graph A K (fun h1 p1 L1 M1 A1 K1 G1 F1 hS2 => ?_)
    have C1 := A1.nb
    have D1 := A1.b5
    simp only [C1, D1]
    rw [chk_t trivial, chk_t trivial, chk_t trivial, chk_t trivial, s_standNow5 A1 K1, bndT_ok (by decide)]
    simp only [C1]
    rw [chk_t trivial]
    refine CR_open A1 K1 hS2 G1 (fun h2 p2 L2 M2 A2 K2 G2 P2 _ => ?_)
    have C2 := A2.nb
    have D2 := A2.p51
    have E2 := A2.gr
    have T2 := A2.ke
    have hz := K.now
    have ho := K.opn
    have far : f_Paths_farOf h2 51 (st t (pa t)) = some ((0, bF (SB t (st t (po t))) (st t (pa t))), h2) := PR_far A2 hk P2 hz.1 hz.2
    simp only [D2]
    rw [chk_t trivial, far, bndT_ok (by decide)]
    have ekp : kpV t n w = if bF (SB t (st t (po t))) (st t (pa t)) < n ∨ 40 < bF (SB t (st t (po t))) (st t (pa t)) ∨ n < w then -1 else
        if n = 1 then (if w = 0 then 1 else 0) else
        if w = 0 then (kI t (SB t (st t (po t))) (st t (pa t)) (bF (SB t (st t (po t))) (st t (pa t))).toNat (bF (SB t (st t (po t))) (st t (pa t))).toNat).1 else
        if w = 1 then (kI t (SB t (st t (po t))) (st t (pa t)) (bF (SB t (st t (po t))) (st t (pa t))).toNat (bF (SB t (st t (po t))) (st t (pa t))).toNat).2.1 else
        (kI t (SB t (st t (po t))) (st t (pa t)) (bF (SB t (st t (po t))) (st t (pa t))).toNat (bF (SB t (st t (po t))) (st t (pa t))).toNat).2.2 := rfl
    rw [ekp]
    by_cases q1 : bF (SB t (st t (po t))) (st t (pa t)) < n
    · rw [if_pos q1, if_pos (Or.inl q1)]; exact CR_ok A2 K2
    · rw [if_neg q1]
      by_cases q2 : 40 < bF (SB t (st t (po t))) (st t (pa t))
      · rw [if_pos q2, if_pos (Or.inr (Or.inl q2))]; exact CR_ok A2 K2
      · rw [if_neg q2]
        by_cases q3 : w ≤ n
        · rw [if_pos q3, if_neg (by rintro (q | q | q) <;> omega)]
          obtain ⟨len, hlen⟩ : ∃ len : Nat, bF (SB t (st t (po t))) (st t (pa t)) = len := ⟨(bF (SB t (st t (po t))) (st t (pa t))).toNat, by omega⟩
          have h40 : len ≤ 40 := by omega
          rw [hlen, Int.toNat_natCast]
          obtain ⟨h3, M3, f3, A3, F3, V3⟩ := s_takeVerse A2 K.W hS2 G2 P2 ho.1 ho.2 hz.1 hz.2 hlen h40
          have C3 := A3.nb
          have E3 := A3.gr
          have T3 := A3.ke
          obtain ⟨h4, M4, f4, A4, F4, e1, e2⟩ := s_Kept_seek A3 K.W hS2 (G2.fk F3) ho.1 ho.2 hz.1 hz.2 hlen h40 V3 (n := n) (by clear hlen; omega)
          have C4 := A4.nb
          have T4 := A4.ke
          simp only [C2, T2]
          rw [chk_t trivial, chk_t trivial, chk_t trivial, chk_t trivial, f3, bndT_ok (by decide)]
          simp only [C3, T3]
          rw [chk_t trivial, chk_t trivial, chk_t trivial, f4, bndT_ok (by decide)]
          have KK := (K2.fk F3).fk F4
          refine CR_mv (F3.r.tr F4.r) ?_
          simp only [C4, T4]
          by_cases n1 : n = 1
          · have e1 := e1 n1
            rw [if_pos n1]
            by_cases w0 : w = 0
            · rw [if_pos w0, if_pos w0, chk_t trivial, chk_t trivial, e1.1]; exact CR_ok A4 KK
            · rw [if_neg w0, if_neg w0, if_pos (by clear hlen; omega), chk_t trivial, chk_t trivial, e1.2]; exact CR_ok A4 KK
          · have e2 := e2 (by clear hlen; omega)
            rw [if_neg n1]
            by_cases w0 : w = 0
            · rw [if_pos w0, if_pos w0, chk_t trivial, chk_t trivial, e2.1]; exact CR_ok A4 KK
            · rw [if_neg w0, if_neg w0]
              by_cases w1 : w = 1
              · rw [if_pos w1, if_pos w1, chk_t trivial, chk_t trivial, e2.2.1]; exact CR_ok A4 KK
              · rw [if_neg w1, if_neg w1, chk_t trivial, chk_t trivial, e2.2.2]; exact CR_ok A4 KK
        · rw [if_neg q3, if_pos (Or.inr (Or.inr (by omega)))]; exact CR_ok A2 K2
  · rw [if_neg g4, if_neg (by omega)]; exact CR_ex A K
end
