/-! THE CLASS PUTS IN A BAR, A RULE, A FACT -/
def c18 : List Int := [18, 19, 20, 21, 22, 23, 24, 25, 26, 27, 28, 29, 30]
section
variable {h : mH} {c : Int} {p L : Int → Int} {M : aM}
theorem At.s19 (A : At h c p L M) (i x : Int) : At (hput h 19 i x) c p L (mup M 19 i x) := A.aput i x (by decide) (by decide) (by decide) (by decide +kernel) (by decide) (by decide)
theorem At.s20 (A : At h c p L M) (i x : Int) : At (hput h 20 i x) c p L (mup M 20 i x) := A.aput i x (by decide) (by decide) (by decide) (by decide +kernel) (by decide) (by decide)
theorem At.s21 (A : At h c p L M) (i x : Int) : At (hput h 21 i x) c p L (mup M 21 i x) := A.aput i x (by decide) (by decide) (by decide) (by decide +kernel) (by decide) (by decide)
theorem At.s22 (A : At h c p L M) (i x : Int) : At (hput h 22 i x) c p L (mup M 22 i x) := A.aput i x (by decide) (by decide) (by decide) (by decide +kernel) (by decide) (by decide)
theorem At.s23 (A : At h c p L M) (i x : Int) : At (hput h 23 i x) c p L (mup M 23 i x) := A.aput i x (by decide) (by decide) (by decide) (by decide +kernel) (by decide) (by decide)
theorem At.s24 (A : At h c p L M) (i x : Int) : At (hput h 24 i x) c p L (mup M 24 i x) := A.aput i x (by decide) (by decide) (by decide) (by decide +kernel) (by decide) (by decide)
theorem At.s25 (A : At h c p L M) (i x : Int) : At (hput h 25 i x) c p L (mup M 25 i x) := A.aput i x (by decide) (by decide) (by decide) (by decide +kernel) (by decide) (by decide)
theorem At.s26 (A : At h c p L M) (i x : Int) : At (hput h 26 i x) c p L (mup M 26 i x) := A.aput i x (by decide) (by decide) (by decide) (by decide +kernel) (by decide) (by decide)
theorem At.s27 (A : At h c p L M) (i x : Int) : At (hput h 27 i x) c p L (mup M 27 i x) := A.aput i x (by decide) (by decide) (by decide) (by decide +kernel) (by decide) (by decide)
theorem At.s28 (A : At h c p L M) (i x : Int) : At (hput h 28 i x) c p L (mup M 28 i x) := A.aput i x (by decide) (by decide) (by decide) (by decide +kernel) (by decide) (by decide)
theorem At.s29 (A : At h c p L M) (i x : Int) : At (hput h 29 i x) c p L (mup M 29 i x) := A.aput i x (by decide) (by decide) (by decide) (by decide +kernel) (by decide) (by decide)
theorem At.s30 (A : At h c p L M) (i x : Int) : At (hput h 30 i x) c p L (mup M 30 i x) := A.aput i x (by decide) (by decide) (by decide) (by decide +kernel) (by decide) (by decide)
theorem At.s18 (A : At h c p L M) (i x : Int) (hi : pt 18 i = 0) : At (hput h 18 i x) c p L (mup M 18 i x) := A.fput x (by decide) (by decide) (by decide) hi (by decide)
theorem s_cAddBar (A : At h c p L M) {u : tT} (R : BR18 M u) (P : PW u) (h9 : nb u ≠ 9) (n a o : Int) : ∃ h' M', f_Box_addBar h 18 n a o = some ((3, 0), h') ∧ At h' c p L M' ∧ Fr c18 M M' ∧ BR18 M' (aBar u n a o) ∧ M' 18 2 = nb u + 1 := by
  have hb := P.1.1
  have e0 : M 18 2 = nb u := R.1.2.1
  have C := A.b18
  have A1 := A.s19 (nb u) n
  have C1 := A1.b18
  have A2 := A1.s20 (nb u) a
  have C2 := A2.b18
  have A3 := A2.s21 (nb u) o
  have C3 := A3.b18
  have A4 := A3.s22 (nb u) a
  have C4 := A4.b18
  have A5 := A4.s23 (nb u) 0
  have C5 := A5.b18
  have A6 := A5.s18 2 (nb u + 1) (by decide +kernel)
  have w1 : w32 (nb u + 1) = nb u + 1 := w32_id (by omega) (by omega)
  unfold f_Box_addBar
  simp only [C]
  rw [chk_t trivial, e0, if_pos (show nb u < 9 by omega), chk_t trivial, chk_t trivial, chk_t trivial, chk_t (by omega), wth]
  simp only [C1]
  rw [chk_t trivial, chk_t trivial, chk_t trivial, mup_fn (show (18 : Int) ≠ 19 by decide), e0, chk_t (by omega), wth]
  simp only [C2]
  rw [chk_t trivial, chk_t trivial, chk_t trivial, mup_fn (show (18 : Int) ≠ 20 by decide), mup_fn (show (18 : Int) ≠ 19 by decide), e0, chk_t (by omega), wth]
  simp only [C3]
  rw [chk_t trivial, chk_t trivial, chk_t trivial, mup_fn (show (18 : Int) ≠ 21 by decide), mup_fn (show (18 : Int) ≠ 20 by decide), mup_fn (show (18 : Int) ≠ 19 by decide), e0, chk_t (by omega), wth]
  simp only [C4]
  rw [chk_t trivial, chk_t trivial, chk_t trivial, mup_fn (show (18 : Int) ≠ 22 by decide), mup_fn (show (18 : Int) ≠ 21 by decide), mup_fn (show (18 : Int) ≠ 20 by decide), mup_fn (show (18 : Int) ≠ 19 by decide), e0, chk_t (by omega), wth]
  simp only [C5]
  rw [chk_t trivial, chk_t trivial, mup_fn (show (18 : Int) ≠ 23 by decide), mup_fn (show (18 : Int) ≠ 22 by decide), mup_fn (show (18 : Int) ≠ 21 by decide), mup_fn (show (18 : Int) ≠ 20 by decide), mup_fn (show (18 : Int) ≠ 19 by decide), e0, w1, wth]
  refine ⟨_, _, rfl, A6, ((((((Fr.rf _ _).pu (by decide)).pu (by decide)).pu (by decide)).pu (by decide)).pu (by decide)).pu (by decide), ?_, mup_eq _ _ _ _⟩
  have lo : ∀ j : Int, j ≠ 1 → j ≠ 425 + nb u → ¬ (5 + 4 * nb u ≤ j ∧ j ≤ 7 + 4 * nb u) → aBar u n a o j = u j := fun j g1 g2 g3 => by
    rw [aBar_at, if_neg g1, if_neg g2, if_neg (by omega), if_neg (by omega), if_neg (by omega)]
  have e1 : nb (aBar u n a o) = nb u + 1 := rfl
  have e2 : nr (aBar u n a o) = nr u := lo 2 (by omega) (by omega) (by omega)
  have hr := P.1.2.1
  refine ⟨⟨?_, ?_, ?_, ?_, ?_⟩, fun b b0 b1 => ?_, fun r r0 r1 => ?_⟩
  · rw [mup_ne (Or.inr (by decide)), mup_fn (by decide), mup_fn (by decide), mup_fn (by decide), mup_fn (by decide), mup_fn (by decide), R.1.1, lo 0 (by omega) (by omega) (by omega)]
  · rw [mup_eq]; rfl
  · rw [mup_ne (Or.inr (by decide)), mup_fn (by decide), mup_fn (by decide), mup_fn (by decide), mup_fn (by decide), mup_fn (by decide), R.1.2.2.1, e2]
  · rw [mup_ne (Or.inr (by decide)), mup_fn (by decide), mup_fn (by decide), mup_fn (by decide), mup_fn (by decide), mup_fn (by decide), R.1.2.2.2.1]; exact (lo 3 (by omega) (by omega) (by omega)).symm
  · rw [mup_ne (Or.inr (by decide)), mup_fn (by decide), mup_fn (by decide), mup_fn (by decide), mup_fn (by decide), mup_fn (by decide), R.1.2.2.2.2]; exact (lo 4 (by omega) (by omega) (by omega)).symm
  · have q19 : mup (mup (mup (mup (mup (mup M 19 (nb u) n) 20 (nb u) a) 21 (nb u) o) 22 (nb u) a) 23 (nb u) 0) 18 2 (nb u + 1) 19 = u1 (M 19) (nb u) n := by
      rw [mup_fn (by decide), mup_fn (by decide), mup_fn (by decide), mup_fn (by decide), mup_fn (by decide), mup_self]
    have q20 : mup (mup (mup (mup (mup (mup M 19 (nb u) n) 20 (nb u) a) 21 (nb u) o) 22 (nb u) a) 23 (nb u) 0) 18 2 (nb u + 1) 20 = u1 (M 20) (nb u) a := by
      rw [mup_fn (by decide), mup_fn (by decide), mup_fn (by decide), mup_fn (by decide), mup_self, mup_fn (by decide)]
    have q21 : mup (mup (mup (mup (mup (mup M 19 (nb u) n) 20 (nb u) a) 21 (nb u) o) 22 (nb u) a) 23 (nb u) 0) 18 2 (nb u + 1) 21 = u1 (M 21) (nb u) o := by
      rw [mup_fn (by decide), mup_fn (by decide), mup_fn (by decide), mup_self, mup_fn (by decide), mup_fn (by decide)]
    have q22 : mup (mup (mup (mup (mup (mup M 19 (nb u) n) 20 (nb u) a) 21 (nb u) o) 22 (nb u) a) 23 (nb u) 0) 18 2 (nb u + 1) 22 = u1 (M 22) (nb u) a := by
      rw [mup_fn (by decide), mup_fn (by decide), mup_self, mup_fn (by decide), mup_fn (by decide), mup_fn (by decide)]
    have q23 : mup (mup (mup (mup (mup (mup M 19 (nb u) n) 20 (nb u) a) 21 (nb u) o) 22 (nb u) a) 23 (nb u) 0) 18 2 (nb u + 1) 23 = u1 (M 23) (nb u) 0 := by
      rw [mup_fn (by decide), mup_self, mup_fn (by decide), mup_fn (by decide), mup_fn (by decide), mup_fn (by decide)]
    rw [q19, q20, q21, q22, q23]
    by_cases e : b = nb u
    · have g : md u (nb u) = 0 := P.2.2.1 (nb u) hb.1 (by omega)
      rw [e, u1_eq, u1_eq, u1_eq, u1_eq, u1_eq]
      unfold md at g
      unfold pl pa po ps md
      rw [aBar_at, aBar_at, aBar_at, aBar_at, aBar_at]
      refine ⟨?_, ?_, ?_, ?_, ?_⟩
      · rw [if_neg (by omega), if_neg (by omega), if_neg (by omega), if_neg (by omega), if_pos rfl]
      · rw [if_neg (by omega), if_pos rfl]
      · rw [if_neg (by omega), if_neg (by omega), if_pos rfl]
      · rw [if_neg (by omega), if_neg (by omega), if_neg (by omega), if_pos rfl]
      · rw [if_neg (by omega), if_neg (by omega), if_neg (by omega), if_neg (by omega), if_neg (by omega)]; exact g.symm
    · have x := R.2.1 b b0 (by omega)
      rw [u1_ne e, u1_ne e, u1_ne e, u1_ne e, u1_ne e]
      refine ⟨?_, ?_, ?_, ?_, ?_⟩
      · rw [x.1]; exact (lo _ (by omega) (by omega) (by omega)).symm
      · rw [x.2.1]; exact (lo _ (by omega) (by omega) (by omega)).symm
      · rw [x.2.2.1]; exact (lo _ (by omega) (by omega) (by omega)).symm
      · rw [x.2.2.2.1]; exact (lo _ (by omega) (by omega) (by omega)).symm
      · rw [x.2.2.2.2]; exact (lo _ (by omega) (by omega) (by omega)).symm
  · rw [e2] at r1
    have nn : ∀ v : Int, 24 ≤ v → v ≤ 30 → mup (mup (mup (mup (mup (mup M 19 (nb u) n) 20 (nb u) a) 21 (nb u) o) 22 (nb u) a) 23 (nb u) 0) 18 2 (nb u + 1) v = M v := fun v v0 v1 => by
      rw [mup_fn (by omega), mup_fn (by omega), mup_fn (by omega), mup_fn (by omega), mup_fn (by omega), mup_fn (by omega)]
    rw [nn 24 (by decide) (by decide), nn 25 (by decide) (by decide), nn 26 (by decide) (by decide), nn 27 (by decide) (by decide), nn 28 (by decide) (by decide), nn 29 (by decide) (by decide), nn 30 (by decide) (by decide)]
    have x := R.2.2 r r0 r1
    have k3 : rn (aBar u n a o) r = rn u r := lo _ (by omega) (by omega) (by omega)
    have c4 := (P.1.2.2.2.2.2.2 r r0 r1).2.2.2.2.1
    rw [k3]
    refine ⟨?_, ?_, ?_, x.2.2.2.1, fun g g0 g1 => ?_⟩
    · rw [x.1]; exact (lo _ (by omega) (by omega) (by omega)).symm
    · rw [x.2.1]; exact (lo _ (by omega) (by omega) (by omega)).symm
    · rw [x.2.2.1]; exact (lo _ (by omega) (by omega) (by omega)).symm
    · have y := x.2.2.2.2 g g0 g1
      refine ⟨?_, ?_, ?_⟩
      · rw [y.1]; exact (lo _ (by omega) (by omega) (by omega)).symm
      · rw [y.2.1]; exact (lo _ (by omega) (by omega) (by omega)).symm
      · rw [y.2.2]; exact (lo _ (by omega) (by omega) (by omega)).symm
/-- the rules told before stay, when no more than the rule at k changes -/
theorem BR18.old {M' : aM} {u w : tT} (R : BR18 M u) (W : WS u) (h24 : nr u ≠ 24) (h : ∀ j, j ≠ 2 → ¬ (41 + 16 * nr u ≤ j ∧ j < 41 + 16 * nr u + 16) → w j = u j) (h1 : ∀ i, i ≠ 3 → M' 18 i = M 18 i) (h2 : ∀ v, 19 ≤ v → v ≤ 23 → M' v = M v) (h3 : ∀ v r, 24 ≤ v → v ≤ 27 → r < nr u → M' v r = M v r) (h4 : ∀ v r, 28 ≤ v → v ≤ 30 → r < 4 * nr u → M' v r = M v r) (h5 : M' 18 3 = nr w) (h6 : nr w = nr u + 1)
    (h7 : M' 24 (nr u) = rb w (nr u) ∧ M' 25 (nr u) = rf w (nr u) ∧ M' 26 (nr u) = rt w (nr u) ∧ M' 27 (nr u) = rn w (nr u) ∧ ∀ f, 0 ≤ f → f < rn w (nr u) → M' 28 (4 * nr u + f) = fb w (nr u) f ∧ M' 29 (4 * nr u + f) = fp w (nr u) f ∧ M' 30 (4 * nr u + f) = fn w (nr u) f) : BR18 M' w := by
  have hr := W.2.1
  have hb := W.1
  have e1 : nb w = nb u := h 1 (by omega) (by omega)
  refine ⟨⟨?_, ?_, h5, ?_, ?_⟩, fun b b0 b1 => ?_, fun r r0 r1 => ?_⟩
  · rw [h1 1 (by decide), R.1.1]; exact (h 0 (by omega) (by omega)).symm
  · rw [h1 2 (by decide), R.1.2.1, e1]
  · rw [h1 4 (by decide), R.1.2.2.2.1]; exact (h 3 (by omega) (by omega)).symm
  · rw [h1 5 (by decide), R.1.2.2.2.2]; exact (h 4 (by omega) (by omega)).symm
  · rw [h2 19 (by decide) (by decide), h2 20 (by decide) (by decide), h2 21 (by decide) (by decide), h2 22 (by decide) (by decide), h2 23 (by decide) (by decide)]
    have x := R.2.1 b b0 (by omega)
    refine ⟨?_, ?_, ?_, ?_, ?_⟩
    · rw [x.1]; exact (h _ (by omega) (by omega)).symm
    · rw [x.2.1]; exact (h _ (by omega) (by omega)).symm
    · rw [x.2.2.1]; exact (h _ (by omega) (by omega)).symm
    · rw [x.2.2.2.1]; exact (h _ (by omega) (by omega)).symm
    · rw [x.2.2.2.2]; exact (h _ (by omega) (by omega)).symm
  · by_cases e : r = nr u
    · rw [e]; exact h7
    · have r2 : r < nr u := by omega
      have x := R.2.2 r r0 r2
      have c4 := (W.2.2.2.2.2.2 r r0 r2).2.2.2.2.1
      have k3 : rn w r = rn u r := h _ (by omega) (by omega)
      rw [h3 24 r (by decide) (by decide) r2, h3 25 r (by decide) (by decide) r2, h3 26 r (by decide) (by decide) r2, h3 27 r (by decide) (by decide) r2, k3]
      refine ⟨?_, ?_, ?_, x.2.2.2.1, fun g g0 g1 => ?_⟩
      · rw [x.1]; exact (h _ (by omega) (by omega)).symm
      · rw [x.2.1]; exact (h _ (by omega) (by omega)).symm
      · rw [x.2.2.1]; exact (h _ (by omega) (by omega)).symm
      · have y := x.2.2.2.2 g g0 g1
        rw [h4 28 _ (by decide) (by decide) (by omega), h4 29 _ (by decide) (by decide) (by omega), h4 30 _ (by decide) (by decide) (by omega)]
        refine ⟨?_, ?_, ?_⟩
        · rw [y.1]; exact (h _ (by omega) (by omega)).symm
        · rw [y.2.1]; exact (h _ (by omega) (by omega)).symm
        · rw [y.2.2]; exact (h _ (by omega) (by omega)).symm
theorem aRule_o {u : tT} {b a o j : Int} {r : Int} (h2 : j ≠ 2) (h3 : ¬ (41 + 16 * r ≤ j ∧ j < 44 + 16 * r)) : aRule u (41 + 16 * r) b a o j = u j := by
  rw [aRule_at, if_neg h2, if_neg (by omega), if_neg (by omega), if_neg (by omega)]
theorem aRule_new {u : tT} {b a o r : Int} (h0 : 0 ≤ r) : rb (aRule u (41 + 16 * r) b a o) r = b ∧ rf (aRule u (41 + 16 * r) b a o) r = a ∧ rt (aRule u (41 + 16 * r) b a o) r = o ∧ rn (aRule u (41 + 16 * r) b a o) r = u (41 + 16 * r + 3) := by
  unfold rb rf rt rn
  rw [aRule_at, aRule_at, aRule_at, aRule_at]
  refine ⟨?_, ?_, ?_, ?_⟩
  · rw [if_neg (by omega), if_neg (by omega), if_neg (by omega), if_pos rfl]
  · rw [if_neg (by omega), if_neg (by omega), if_pos (by omega)]
  · rw [if_neg (by omega), if_pos (by omega)]
  · rw [if_neg (by omega), if_neg (by omega), if_neg (by omega), if_neg (by omega), show 44 + 16 * r = 41 + 16 * r + 3 by omega]
theorem s_cAddRule (A : At h c p L M) {u : tT} (R : BR18 M u) (W : WS u) (h24 : nr u ≠ 24) (b a o : Int) : ∃ h' M', f_Box_addRule h 18 b a o = some ((3, 0), h') ∧ At h' c p L M' ∧ Fr c18 M M' ∧ BR18 M' (aRule (u1 u (41 + 16 * nr u + 3) 0) (41 + 16 * nr u) b a o) := by
  have hr := W.2.1
  have e0 : M 18 3 = nr u := R.1.2.2.1
  have C := A.b18
  have A1 := A.s24 (nr u) b
  have C1 := A1.b18
  have A2 := A1.s25 (nr u) a
  have C2 := A2.b18
  have A3 := A2.s26 (nr u) o
  have C3 := A3.b18
  have A4 := A3.s27 (nr u) 0
  have C4 := A4.b18
  have A5 := A4.s18 3 (nr u + 1) (by decide +kernel)
  have w1 : w32 (nr u + 1) = nr u + 1 := w32_id (by omega) (by omega)
  unfold f_Box_addRule
  simp only [C]
  rw [chk_t trivial, e0, if_pos (show nr u < 24 by omega), chk_t trivial, chk_t trivial, chk_t trivial, chk_t (by omega), wth]
  simp only [C1]
  rw [chk_t trivial, chk_t trivial, chk_t trivial, mup_fn (show (18 : Int) ≠ 24 by decide), e0, chk_t (by omega), wth]
  simp only [C2]
  rw [chk_t trivial, chk_t trivial, chk_t trivial, mup_fn (show (18 : Int) ≠ 25 by decide), mup_fn (show (18 : Int) ≠ 24 by decide), e0, chk_t (by omega), wth]
  simp only [C3]
  rw [chk_t trivial, chk_t trivial, chk_t trivial, mup_fn (show (18 : Int) ≠ 26 by decide), mup_fn (show (18 : Int) ≠ 25 by decide), mup_fn (show (18 : Int) ≠ 24 by decide), e0, chk_t (by omega), wth]
  simp only [C4]
  rw [chk_t trivial, chk_t trivial, mup_fn (show (18 : Int) ≠ 27 by decide), mup_fn (show (18 : Int) ≠ 26 by decide), mup_fn (show (18 : Int) ≠ 25 by decide), mup_fn (show (18 : Int) ≠ 24 by decide), e0, w1, wth]
  have nw := aRule_new (u := u1 u (41 + 16 * nr u + 3) 0) (b := b) (a := a) (o := o) hr.1
  have e6 : nr (aRule (u1 u (41 + 16 * nr u + 3) 0) (41 + 16 * nr u) b a o) = nr u + 1 := by
    show aRule _ _ _ _ _ 2 = _
    rw [aRule_at, if_pos rfl]
    show u1 u _ 0 2 + 1 = u 2 + 1
    rw [u1_ne (by omega)]
  refine ⟨_, _, rfl, A5, (((((Fr.rf _ _).pu (by decide)).pu (by decide)).pu (by decide)).pu (by decide)).pu (by decide), ?_⟩
  refine R.old W h24 (fun j j2 j3 => ?_) (fun i hi => ?_) (fun v v0 v1 => ?_) (fun v r v0 v1 r1 => ?_) (fun v r v0 v1 r1 => ?_) ?_ e6 ?_
  · rw [aRule_o j2 (by omega), u1_ne (by omega)]
  · rw [mup_ne (Or.inr hi), mup_fn (by decide), mup_fn (by decide), mup_fn (by decide), mup_fn (by decide)]
  · rw [mup_fn (by omega), mup_fn (by omega), mup_fn (by omega), mup_fn (by omega), mup_fn (by omega)]
  · rw [mup_ne (Or.inl (by omega)), mup_ne (Or.inr (by omega)), mup_ne (Or.inr (by omega)), mup_ne (Or.inr (by omega)), mup_ne (Or.inr (by omega))]
  · rw [mup_fn (by omega), mup_fn (by omega), mup_fn (by omega), mup_fn (by omega), mup_fn (by omega)]
  · rw [mup_eq, e6]
  · rw [nw.1, nw.2.1, nw.2.2.1, nw.2.2.2, u1_eq]
    refine ⟨?_, ?_, ?_, ?_, fun g g0 g1 => by omega⟩
    · rw [mup_fn (by decide), mup_fn (by decide), mup_fn (by decide), mup_fn (by decide), mup_eq]
    · rw [mup_fn (by decide), mup_fn (by decide), mup_fn (by decide), mup_eq]
    · rw [mup_fn (by decide), mup_fn (by decide), mup_eq]
    · rw [mup_fn (by decide), mup_eq]
theorem s_cAddFact (A : At h c p L M) {u0 u : tT} {b a o : Int} (R : BR18 M (aRule u (41 + 16 * nr u0) b a o)) (W : WS u0) (h24 : nr u0 ≠ 24) (F : FK0 u0 u) (h4 : u (41 + 16 * nr u0 + 3) ≠ 4) (d nt x : Int) : ∃ h' M', f_Box_addFact h 18 d nt x = some ((3, 0), h') ∧ At h' c p L M' ∧ Fr c18 M M' ∧ BR18 M' (aRule (aFact u (41 + 16 * nr u0) d nt x) (41 + 16 * nr u0) b a o) := by
  have hr := W.2.1
  have hk := F.2.1
  have u2 : u 2 = nr u0 := F.1 2 (by omega)
  have n1 : nr (aRule u (41 + 16 * nr u0) b a o) = nr u0 + 1 := by
    show aRule _ _ _ _ _ 2 = _
    rw [aRule_at, if_pos rfl]
    show u 2 + 1 = _
    rw [u2]
  have e0 : M 18 3 = nr u0 + 1 := R.1.2.2.1.trans n1
  have nw := aRule_new (u := u) (b := b) (a := a) (o := o) hr.1
  have x0 := R.2.2 (nr u0) hr.1 (by omega)
  have e27 : M 27 (nr u0) = u (41 + 16 * nr u0 + 3) := x0.2.2.2.1.trans nw.2.2.2
  have hfa : ∀ j, aFact u (41 + 16 * nr u0) d nt x j = if j = 41 + 16 * nr u0 + 3 then u (41 + 16 * nr u0 + 3) + 1 else if j = 41 + 16 * nr u0 + 6 + 3 * u (41 + 16 * nr u0 + 3) then x else if j = 41 + 16 * nr u0 + 5 + 3 * u (41 + 16 * nr u0 + 3) then nt else if j = 41 + 16 * nr u0 + 4 + 3 * u (41 + 16 * nr u0 + 3) then d else u j := aFact_at u _ d nt x
  generalize hkk : u (41 + 16 * nr u0 + 3) = k at hk h4 nw e27 hfa
  have C := A.b18
  have A1 := A.s28 (4 * nr u0 + k) d
  have C1 := A1.b18
  have A2 := A1.s30 (4 * nr u0 + k) nt
  have C2 := A2.b18
  have A3 := A2.s29 (4 * nr u0 + k) x
  have C3 := A3.b18
  have A4 := A3.s27 (nr u0) (k + 1)
  have w1 : w32 (nr u0 + 1 - 1) = nr u0 := by rw [w32_id (by omega) (by omega)]; omega
  have w2 : w32 (w32 (nr u0 * 4) + k) = 4 * nr u0 + k := by rw [w32_id (x := nr u0 * 4) (by omega) (by omega), w32_id (by omega) (by omega)]; omega
  have w3 : w32 (k + 1) = k + 1 := w32_id (by omega) (by omega)
  unfold f_Box_addFact
  simp only [C]
  rw [chk_t trivial, e0, w1, wtv, if_neg (show ¬ nr u0 < 0 by omega), chk_t trivial, chk_t trivial, chk_t (by omega), e27, if_pos (show k < 4 by omega), chk_t trivial, chk_t trivial, chk_t (by omega), w2, wtv, chk_t trivial, chk_t trivial, chk_t (by omega), wth]
  simp only [C1]
  rw [chk_t trivial, chk_t trivial, chk_t (by omega), wth]
  simp only [C2]
  rw [chk_t trivial, chk_t trivial, chk_t (by omega), wth]
  simp only [C3]
  rw [chk_t trivial, chk_t trivial, chk_t (by omega), chk_t trivial, chk_t (by omega), mup_fn (show (27 : Int) ≠ 29 by decide), mup_fn (show (27 : Int) ≠ 30 by decide), mup_fn (show (27 : Int) ≠ 28 by decide), e27, w3, wth]
  refine ⟨_, _, rfl, A4, ((((Fr.rf _ _).pu (by decide)).pu (by decide)).pu (by decide)).pu (by decide), ?_⟩
  generalize hw : aRule u (41 + 16 * nr u0) b a o = w at R x0 n1
  have hwj : ∀ j, j ≠ 41 + 16 * nr u0 + 3 → ¬ (41 + 16 * nr u0 + 4 + 3 * k ≤ j ∧ j ≤ 41 + 16 * nr u0 + 6 + 3 * k) → aRule (aFact u (41 + 16 * nr u0) d nt x) (41 + 16 * nr u0) b a o j = w j := fun j j1 j2 => by
    rw [← hw, aRule_at, aRule_at]
    have : nr (aFact u (41 + 16 * nr u0) d nt x) = nr u := by
      show aFact _ _ _ _ _ 2 = u 2
      rw [hfa, if_neg (by omega), if_neg (by omega), if_neg (by omega), if_neg (by omega)]
    rw [this, hfa, if_neg j1, if_neg (show ¬ j = 41 + 16 * nr u0 + 6 + 3 * k by omega), if_neg (show ¬ j = 41 + 16 * nr u0 + 5 + 3 * k by omega), if_neg (show ¬ j = 41 + 16 * nr u0 + 4 + 3 * k by omega)]
  have hnb : nb w = nb u0 := by
    show w 1 = u0 1
    rw [← hw, aRule_at, if_neg (by omega), if_neg (by omega), if_neg (by omega), if_neg (by omega)]
    exact F.1 1 (by omega)
  have nw2 := aRule_new (u := aFact u (41 + 16 * nr u0) d nt x) (b := b) (a := a) (o := o) hr.1
  have nf : ∀ j : Int, 44 + 16 * nr u0 ≤ j → aRule (aFact u (41 + 16 * nr u0) d nt x) (41 + 16 * nr u0) b a o j = aFact u (41 + 16 * nr u0) d nt x j := fun j hj => aRule_o (by omega) (by omega)
  have wf : ∀ j : Int, 44 + 16 * nr u0 ≤ j → w j = u j := fun j hj => by rw [← hw]; exact aRule_o (by omega) (by omega)
  generalize hN : aRule (aFact u (41 + 16 * nr u0) d nt x) (41 + 16 * nr u0) b a o = N at hwj nw2 nf
  have n18 : ∀ i, mup (mup (mup (mup M 28 (4 * nr u0 + k) d) 30 (4 * nr u0 + k) nt) 29 (4 * nr u0 + k) x) 27 (nr u0) (k + 1) 18 i = M 18 i := fun i => by
    rw [mup_fn (by decide), mup_fn (by decide), mup_fn (by decide), mup_fn (by decide)]
  have hb := W.1
  have nnr : nr N = nr w := hwj 2 (by omega) (by omega)
  have nnb : nb N = nb w := hwj 1 (by omega) (by omega)
  refine ⟨⟨?_, ?_, ?_, ?_, ?_⟩, fun b b0 b1 => ?_, fun r r0 r1 => ?_⟩
  · rw [n18, R.1.1]; exact (hwj 0 (by omega) (by omega)).symm
  · rw [n18, R.1.2.1, nnb]
  · rw [n18, R.1.2.2.1, nnr]
  · rw [n18, R.1.2.2.2.1]; exact (hwj 3 (by omega) (by omega)).symm
  · rw [n18, R.1.2.2.2.2]; exact (hwj 4 (by omega) (by omega)).symm
  · rw [nnb, hnb] at b1
    have y := R.2.1 b b0 (by omega)
    rw [mup_fn (by decide), mup_fn (by decide), mup_fn (by decide), mup_fn (by decide), mup_fn (by decide), mup_fn (by decide), mup_fn (by decide), mup_fn (by decide), mup_fn (by decide), mup_fn (by decide), mup_fn (by decide), mup_fn (by decide), mup_fn (by decide), mup_fn (by decide), mup_fn (by decide), mup_fn (by decide), mup_fn (by decide), mup_fn (by decide), mup_fn (by decide), mup_fn (by decide)]
    refine ⟨?_, ?_, ?_, ?_, ?_⟩
    · rw [y.1]; exact (hwj _ (by omega) (by omega)).symm
    · rw [y.2.1]; exact (hwj _ (by omega) (by omega)).symm
    · rw [y.2.2.1]; exact (hwj _ (by omega) (by omega)).symm
    · rw [y.2.2.2.1]; exact (hwj _ (by omega) (by omega)).symm
    · rw [y.2.2.2.2]; exact (hwj _ (by omega) (by omega)).symm
  · rw [nnr, n1] at r1
    have y := R.2.2 r r0 (by omega)
    have q24 : mup (mup (mup (mup M 28 (4 * nr u0 + k) d) 30 (4 * nr u0 + k) nt) 29 (4 * nr u0 + k) x) 27 (nr u0) (k + 1) 24 = M 24 := by rw [mup_fn (by decide), mup_fn (by decide), mup_fn (by decide), mup_fn (by decide)]
    have q25 : mup (mup (mup (mup M 28 (4 * nr u0 + k) d) 30 (4 * nr u0 + k) nt) 29 (4 * nr u0 + k) x) 27 (nr u0) (k + 1) 25 = M 25 := by rw [mup_fn (by decide), mup_fn (by decide), mup_fn (by decide), mup_fn (by decide)]
    have q26 : mup (mup (mup (mup M 28 (4 * nr u0 + k) d) 30 (4 * nr u0 + k) nt) 29 (4 * nr u0 + k) x) 27 (nr u0) (k + 1) 26 = M 26 := by rw [mup_fn (by decide), mup_fn (by decide), mup_fn (by decide), mup_fn (by decide)]
    have q27 : mup (mup (mup (mup M 28 (4 * nr u0 + k) d) 30 (4 * nr u0 + k) nt) 29 (4 * nr u0 + k) x) 27 (nr u0) (k + 1) 27 = u1 (M 27) (nr u0) (k + 1) := by rw [mup_self, mup_fn (by decide), mup_fn (by decide), mup_fn (by decide)]
    have q28 : mup (mup (mup (mup M 28 (4 * nr u0 + k) d) 30 (4 * nr u0 + k) nt) 29 (4 * nr u0 + k) x) 27 (nr u0) (k + 1) 28 = u1 (M 28) (4 * nr u0 + k) d := by rw [mup_fn (by decide), mup_fn (by decide), mup_fn (by decide), mup_self]
    have q29 : mup (mup (mup (mup M 28 (4 * nr u0 + k) d) 30 (4 * nr u0 + k) nt) 29 (4 * nr u0 + k) x) 27 (nr u0) (k + 1) 29 = u1 (M 29) (4 * nr u0 + k) x := by rw [mup_fn (by decide), mup_self, mup_fn (by decide), mup_fn (by decide)]
    have q30 : mup (mup (mup (mup M 28 (4 * nr u0 + k) d) 30 (4 * nr u0 + k) nt) 29 (4 * nr u0 + k) x) 27 (nr u0) (k + 1) 30 = u1 (M 30) (4 * nr u0 + k) nt := by rw [mup_fn (by decide), mup_fn (by decide), mup_self, mup_fn (by decide)]
    rw [q24, q25, q26, q27, q28, q29, q30]
    have f0 : rb N r = rb w r := hwj _ (by omega) (by omega)
    have f1 : rf N r = rf w r := hwj _ (by omega) (by omega)
    have f2 : rt N r = rt w r := hwj _ (by omega) (by omega)
    by_cases e : r = nr u0
    · subst e
      rw [f0, f1, f2, u1_eq]
      have f3 : rn N (nr u0) = k + 1 := by rw [nw2.2.2.2, hfa, if_pos rfl]
      rw [f3]
      refine ⟨y.1, y.2.1, y.2.2.1, rfl, fun g g0 g1 => ?_⟩
      unfold fb fp fn
      rw [nf _ (by omega), nf _ (by omega), nf _ (by omega), hfa, hfa, hfa]
      by_cases e2 : g = k
      · rw [e2, u1_eq, u1_eq, u1_eq]
        refine ⟨?_, ?_, ?_⟩
        · rw [if_neg (by omega), if_neg (by omega), if_neg (by omega), if_pos (by omega)]
        · rw [if_neg (by omega), if_pos (by omega)]
        · rw [if_neg (by omega), if_neg (by omega), if_pos (by omega)]
      · have rw_ : rn w (nr u0) = k := by
          show w (44 + 16 * nr u0) = k
          rw [wf _ (by omega), ← hkk, show 44 + 16 * nr u0 = 41 + 16 * nr u0 + 3 by omega]
        have z := y.2.2.2.2 g g0 (by omega)
        unfold fb fp fn at z
        rw [wf _ (by omega), wf _ (by omega), wf _ (by omega)] at z
        rw [u1_ne (by omega), u1_ne (by omega), u1_ne (by omega)]
        refine ⟨?_, ?_, ?_⟩
        · rw [if_neg (by omega), if_neg (by omega), if_neg (by omega), if_neg (by omega)]; exact z.1
        · rw [if_neg (by omega), if_neg (by omega), if_neg (by omega), if_neg (by omega)]; exact z.2.1
        · rw [if_neg (by omega), if_neg (by omega), if_neg (by omega), if_neg (by omega)]; exact z.2.2
    · have c4 : 0 ≤ rn w r ∧ rn w r ≤ 4 := by
        have := (W.2.2.2.2.2.2 r r0 (by omega)).2.2.2.2.1
        have q : rn w r = rn u0 r := by
          show w (44 + 16 * r) = u0 (44 + 16 * r)
          rw [← hw, aRule_o (by omega) (by omega)]; exact F.1 _ (by omega)
        rw [q]; exact this
      have f3 : rn N r = rn w r := hwj _ (by omega) (by omega)
      rw [f0, f1, f2, f3, u1_ne e]
      refine ⟨y.1, y.2.1, y.2.2.1, y.2.2.2.1, fun g g0 g1 => ?_⟩
      have z := y.2.2.2.2 g g0 g1
      rw [u1_ne (by omega), u1_ne (by omega), u1_ne (by omega)]
      refine ⟨?_, ?_, ?_⟩
      · rw [z.1]; exact (hwj _ (by omega) (by omega)).symm
      · rw [z.2.1]; exact (hwj _ (by omega) (by omega)).symm
      · rw [z.2.2]; exact (hwj _ (by omega) (by omega)).symm
end
