/-! WHERE TO TRY -/
def hfk (S : tF) (b x k : Int) : Bool := decide (S.1 k / 100 = b) && (decide (x = S.1 k % 10) == decide (S.1 k / 10 % 10 = 0))
def hs (t : tT) (S : tF) (s : Int) : Int := cnN (fun k => decide (dg t s (S.1 k / 100) = S.1 k % 10) == decide (S.1 k / 10 % 10 = 0)) S.2.toNat
def wo (t : tT) (S : tF) (s : Int) : Int := if hs t S s < S.2 - hs t S s then S.2 - hs t S s else hs t S s
def tr (t : tT) (S : tF) : Nat → Int × Int
  | 0 => (-1, -1)
  | n + 1 => if (tr t S n).1 = -1 ∨ wo t S n < (tr t S n).2 then ((n : Int), wo t S n) else tr t S n
theorem smN_add (f g : Int → Int) : ∀ n : Nat, smN (fun i => f i + g i) n = smN f n + smN g n
  | 0 => rfl
  | n + 1 => by
    show smN (fun i => f i + g i) n + (f n + g n) = (smN f n + f n) + (smN g n + g n)
    rw [smN_add f g n]; omega
theorem smN_congr {f g : Int → Int} {n : Nat} (h : ∀ i : Int, 0 ≤ i → i < n → f i = g i) : smN f n = smN g n := by
  induction n with
  | zero => rfl
  | succ n ih => show smN f n + f n = smN g n + g n; rw [ih (fun i g0 g1 => h i g0 (by omega)), h n (by omega) (by omega)]
theorem smN_0 : ∀ n : Nat, smN (fun _ => 0) n = 0
  | 0 => rfl
  | n + 1 => by show smN (fun _ => 0) n + 0 = 0; rw [smN_0 n]; rfl
theorem smN_one {x : Int} {Q : Int → Bool} : ∀ {n : Nat}, 0 ≤ x → x < n → smN (fun b => if (decide (x = b) && Q b) = true then 1 else 0) n = if Q x = true then 1 else 0
  | 0, h0, h1 => absurd h1 (by omega)
  | n + 1, h0, h1 => by
    show smN (fun b => if (decide (x = b) && Q b) = true then 1 else 0) n + (if (decide (x = (n : Int)) && Q n) = true then 1 else 0) = _
    by_cases e : x = n
    · rw [smN_congr (g := fun _ => 0) (fun i g0 g1 => by rw [decide_eq_false (by omega)]; rfl), smN_0, decide_eq_true e, Bool.true_and, e]; omega
    · rw [smN_one h0 (by omega), decide_eq_false e]; simp
theorem hs_sum {S : tF} {r : Int → Int} {n : Nat} : ∀ {m : Nat}, (∀ k : Int, 0 ≤ k → k < m → 0 ≤ S.1 k / 100 ∧ S.1 k / 100 < n) → smN (fun b => cnN (hfk S b (r b)) m) n = cnN (fun k => decide (r (S.1 k / 100) = S.1 k % 10) == decide (S.1 k / 10 % 10 = 0)) m
  | 0, _ => smN_0 n
  | m + 1, h => by
    show smN (fun b => cnN (hfk S b (r b)) m + (if hfk S b (r b) m = true then 1 else 0)) n = cnN _ m + _
    rw [smN_add, hs_sum (fun k g0 g1 => h k g0 (by omega))]
    congr 1
    exact smN_one (Q := fun b => decide (r b = S.1 m % 10) == decide (S.1 m / 10 % 10 = 0)) (h m (by omega) (by omega)).1 (h m (by omega) (by omega)).2
def HQ (M : aM) (t : tT) (S : tF) (m : Nat) : Prop := ∀ b x, 0 ≤ b → b < nb t → 0 ≤ x → x < pl t b → M 73 (4 * b + x) = cnN (hfk S b x) m
section
variable {h : mH} {c : Int} {p L : Int → Int} {M : aM} {E : Int → tT}
theorem FQ.ft {M M' : aM} {S : tF} (Q : FQ M S) (h71 : M' 71 3 = M 71 3) (h72 : M' 72 = M 72) : FQ M' S := by
  unfold FQ at Q ⊢; rw [h71, h72]; exact Q
theorem s_Fits_count (A : At h c p L M) {t : tT} (K : KS E M L t) {S : tF} (Q : FQ M S) (V : FV t S) (h72 : S.2 ≤ 72) : ∃ h' M', f_Fits_countHolding h 71 5 = some ((3, 0), h') ∧ At h' c p L M' ∧ Fr [73] M M' ∧ HQ M' t S S.2.toNat := by
  have hn := K.W.1
  have KF : ∀ {M' : aM}, Fr [73] M M' → KS E M' L t := fun F => K.ft ((F.fs (by decide)).mono (by decide) (is2 := [3, 4, 5]) (is := []) (fun _ q => by cases q))
  have QF : ∀ {M' : aM}, Fr [73] M M' → FQ M' S := fun F => Q.ft (by rw [F 71 (by decide)]) (F 72 (by decide))
  have main : ∀ h1 M1, At h1 c p L M1 → Fr [73] M M1 → (∀ j, 0 ≤ j → j < 36 → M1 73 j = 0) → ∃ h' M', f_Fits_countHolding_L26 71 5 1000000 h1 0 = some ((3, 0), h') ∧ At h' c p L M' ∧ Fr [73] M M' ∧ HQ M' t S S.2.toNat := by
    intro h1 M1 A1 F1 z1
    refine loop_r (F := fun n (x : mH × Int) => f_Fits_countHolding_L26 71 5 n x.1 x.2) (P := fun o => ∃ h' M', o = some ((3, 0), h') ∧ At h' c p L M' ∧ Fr [73] M M' ∧ HQ M' t S S.2.toNat) (fun i x => x.2 = (i : Int) ∧ ∃ M', At x.1 c p L M' ∧ Fr [73] M M' ∧ HQ M' t S i) S.2.toNat (fun i hi x hx n => ?_) (fun x hx n => ?_) (i := 0) (b := (h1, 0)) ⟨rfl, M1, A1, F1, fun b x g0 g1 g2 g3 => by
      have := K.W.2.2.2.2.2.1 b g0 g1
      rw [z1 (4 * b + x) (by omega) (by omega)]; rfl⟩ (by omega) (by have := V.1; omega)
    · obtain ⟨h2, r⟩ := x
      obtain ⟨hr_, M2, A2_, F2, H2⟩ := hx
      have hr : r = (i : Int) := hr_
      have A2 : At h2 c p L M2 := A2_
      clear hr_ A2_
      subst hr
      right
      have C2 := A2.fi
      have Q2 := QF F2
      have hv := V.2 i (by omega) (by omega)
      obtain ⟨v1, v2, v3, v4, v5⟩ := hv
      have hpl := K.W.2.2.2.2.2.1 (S.1 i / 100) (by omega) v3
      have e72 : M2 72 i = S.1 i := Q2.2 i (by omega) (by omega)
      have inner : ∃ h3 M3, f_Fits_countHolding_L61 (fun h3 => wtv (w32 ((i : Int) + 1)) (fun x4 => (f_Fits_countHolding_L26 71 5 n) h3 x4)) 71 5 i (S.1 i / 100) (S.1 i / 10 % 10) 1000000 h2 0 = wtv (w32 ((i : Int) + 1)) (fun x4 => (f_Fits_countHolding_L26 71 5 n) h3 x4) ∧ At h3 c p L M3 ∧ Fr [73] M M3 ∧ HQ M3 t S (i + 1) := by
        refine loop_r (F := fun n' (x : mH × Int) => f_Fits_countHolding_L61 (fun h3 => wtv (w32 ((i : Int) + 1)) (fun x4 => (f_Fits_countHolding_L26 71 5 n) h3 x4)) 71 5 i (S.1 i / 100) (S.1 i / 10 % 10) n' x.1 x.2) (P := fun o => ∃ h3 M3, o = wtv (w32 ((i : Int) + 1)) (fun x4 => (f_Fits_countHolding_L26 71 5 n) h3 x4) ∧ At h3 c p L M3 ∧ Fr [73] M M3 ∧ HQ M3 t S (i + 1)) (fun j x => x.2 = (j : Int) ∧ ∃ M', At x.1 c p L M' ∧ Fr [73] M M' ∧ ∀ b x, 0 ≤ b → b < nb t → 0 ≤ x → x < pl t b → M' 73 (4 * b + x) = if b = S.1 i / 100 ∧ x < (j : Int) then cnN (hfk S b x) (i + 1) else cnN (hfk S b x) i) (pl t (S.1 i / 100)).toNat (fun j hj x hx n' => ?_) (fun x hx n' => ?_) (i := 0) (b := (h2, 0)) ⟨rfl, M2, A2, F2, fun b x g0 g1 g2 g3 => by rw [if_neg (by omega)]; exact H2 b x g0 g1 g2 g3⟩ (by omega) (by omega)
        · obtain ⟨h4, r⟩ := x
          obtain ⟨hr_, M4, A4_, F4, H4⟩ := hx
          have hr : r = (j : Int) := hr_
          have A4 : At h4 c p L M4 := A4_
          clear hr_ A4_
          subst hr
          right
          have C4 := A4.fi
          have K4 := KF F4
          have B4 := BH.of5 A4 K4.R
          have Q4 := QF F4
          have e4 := H4 (S.1 i / 100) j (by omega) v3 (by omega) (by omega)
          rw [if_neg (by omega)] at e4
          have hcn := cnN_rng (hfk S (S.1 i / 100) j) i
          have step : ∀ y : Int, y = (if hfk S (S.1 i / 100) j i = true then 1 else 0) → ∃ b' : mH × Int, (b'.2 = ((j + 1 : Nat) : Int) ∧ ∃ M', At b'.1 c p L M' ∧ Fr [73] M M' ∧ ∀ b x, 0 ≤ b → b < nb t → 0 ≤ x → x < pl t b → M' 73 (4 * b + x) = if b = S.1 i / 100 ∧ x < ((j + 1 : Nat) : Int) then cnN (hfk S b x) (i + 1) else cnN (hfk S b x) i) ∧ f_Fits_countHolding_J121 (f_Fits_countHolding_L61 (fun h3 => wtv (w32 ((i : Int) + 1)) (fun x4 => (f_Fits_countHolding_L26 71 5 n) h3 x4)) 71 5 i (S.1 i / 100) (S.1 i / 10 % 10) n') j 73 (4 * (S.1 i / 100) + j) (cnN (hfk S (S.1 i / 100) j) i) y h4 = f_Fits_countHolding_L61 (fun h3 => wtv (w32 ((i : Int) + 1)) (fun x4 => (f_Fits_countHolding_L26 71 5 n) h3 x4)) 71 5 i (S.1 i / 100) (S.1 i / 10 % 10) n' b'.1 b'.2 := by
            intro y hy
            have e5 : cnN (hfk S (S.1 i / 100) j) (i + 1) = cnN (hfk S (S.1 i / 100) j) i + y := by rw [hy]; rfl
            have hy2 : 0 ≤ y ∧ y ≤ 1 := by rw [hy]; split <;> omega
            have A5 := A4.aput (v := 73) (4 * (S.1 i / 100) + j) (cnN (hfk S (S.1 i / 100) j) i + y) (by decide) (by decide) (by decide) (by decide +kernel) (by decide) (by decide)
            refine ⟨(hput h4 73 (4 * (S.1 i / 100) + j) (cnN (hfk S (S.1 i / 100) j) i + y), ((j + 1 : Nat) : Int)), ⟨rfl, _, A5, F4.pu (by decide), fun b x g0 g1 g2 g3 => ?_⟩, ?_⟩
            · have hpb := K.W.2.2.2.2.2.1 b g0 g1
              by_cases q : 4 * b + x = 4 * (S.1 i / 100) + j
              · have q1 : b = S.1 i / 100 := by omega
                have q2 : x = j := by omega
                rw [q, mup_eq, if_pos ⟨q1, by omega⟩, q1, q2, e5]
              · rw [mup_ne (Or.inr q), H4 b x g0 g1 g2 g3]
                by_cases q3 : b = S.1 i / 100 ∧ x < (j : Int)
                · rw [if_pos q3, if_pos ⟨q3.1, by omega⟩]
                · rw [if_neg q3, if_neg (fun q4 => q3 ⟨q4.1, by omega⟩)]
            · unfold f_Fits_countHolding_J121
              simp only [C4]
              rw [chk_t trivial, chk_t (by omega), w32_id (by omega) (by omega), wth, wtv, w32_n j (by omega)]
          show ∃ b' : mH × Int, _ ∧ f_Fits_countHolding_L61 _ 71 5 i (S.1 i / 100) (S.1 i / 10 % 10) (n' + 1) h4 j = _
          rw [f_Fits_countHolding_L61, chk_t B4.T, s_Box_placesOf B4 K4.W, bndT_ok (by decide), if_pos (show 0 ≤ S.1 i / 100 ∧ S.1 i / 100 < nb t by omega), if_neg (by omega)]
          simp only [C4]
          rw [w32_id (x := 4 * (S.1 i / 100)) (by omega) (by omega), w32_id (x := 4 * (S.1 i / 100) + j) (by omega) (by omega), e4, Q4.2 i (by omega) (by omega), chk_t trivial, chk_t trivial, chk_t (by omega), chk_t trivial, chk_t trivial, chk_t (by omega), chk_t (by decide), Int.tmod_eq_emod_of_nonneg v1]
          unfold f_Fits_countHolding_J102 f_Fits_countHolding_J113
          unfold hfk at step
          by_cases g1 : (j : Int) = S.1 i % 10 <;> rcases v5 with g2 | g2
          all_goals (first | rw [if_pos g1] | rw [if_neg g1])
          · rw [if_neg (show ¬ S.1 i / 10 % 10 = 1 by omega), if_neg (by decide)]; exact step 1 (by simp [g1, g2])
          · rw [if_pos g2, if_pos rfl]; exact step 0 (by simp [g1, g2])
          · rw [if_neg (show ¬ S.1 i / 10 % 10 = 1 by omega), if_pos rfl]; exact step 0 (by simp [g1, g2])
          · rw [if_pos g2, if_neg (by decide)]; exact step 1 (by simp [g1, g2])
        · obtain ⟨h4, r⟩ := x
          obtain ⟨hr_, M4, A4_, F4, H4⟩ := hx
          have hr : r = ((pl t (S.1 i / 100)).toNat : Int) := hr_
          have A4 : At h4 c p L M4 := A4_
          clear hr_ A4_
          subst hr
          have K4 := KF F4
          have B4 := BH.of5 A4 K4.R
          refine ⟨h4, M4, ?_, A4, F4, fun b x g0 g1 g2 g3 => ?_⟩
          · show f_Fits_countHolding_L61 _ 71 5 i (S.1 i / 100) (S.1 i / 10 % 10) (n' + 1) h4 _ = _
            rw [f_Fits_countHolding_L61, chk_t B4.T, s_Box_placesOf B4 K4.W, bndT_ok (by decide), if_pos (show 0 ≤ S.1 i / 100 ∧ S.1 i / 100 < nb t by omega), if_pos (by omega)]
          · rw [H4 b x g0 g1 g2 g3]
            by_cases q : b = S.1 i / 100
            · rw [if_pos ⟨q, by rw [← q]; omega⟩]
            · rw [if_neg (fun q2 => q q2.1)]
              show cnN (hfk S b x) i = cnN (hfk S b x) i + (if hfk S b x i = true then 1 else 0)
              unfold hfk
              rw [decide_eq_false (fun q2 : S.1 i / 100 = b => q q2.symm)]; simp
      obtain ⟨h3, M3, f3, A3, F3, H3⟩ := inner
      refine ⟨(h3, ((i + 1 : Nat) : Int)), ⟨rfl, M3, A3, F3, H3⟩, ?_⟩
      show f_Fits_countHolding_L26 71 5 (n + 1) h2 i = f_Fits_countHolding_L26 71 5 n h3 ((i + 1 : Nat) : Int)
      rw [f_Fits_countHolding_L26]
      simp only [C2]
      rw [chk_t trivial, Q2.1, if_neg (by omega), chk_t trivial, chk_t trivial, chk_t (by omega), chk_t (by decide), e72, wtv, chk_t trivial, chk_t trivial, chk_t (by omega), chk_t (by decide), chk_t (by decide), wtv, Int.tdiv_eq_ediv_of_nonneg v1, Int.tdiv_eq_ediv_of_nonneg v1, w32_id (x := S.1 i / 100) (by omega) (by omega), w32_id (x := S.1 i / 10) (by omega) (by omega), Int.tmod_eq_emod_of_nonneg (by omega), f3, wtv, w32_n i (by omega)]
    · obtain ⟨h2, r⟩ := x
      obtain ⟨hr_, M2, A2_, F2, H2⟩ := hx
      have hr : r = (S.2.toNat : Int) := hr_
      have A2 : At h2 c p L M2 := A2_
      clear hr_ A2_
      subst hr
      have C2 := A2.fi
      refine ⟨h2, M2, ?_, A2, F2, H2⟩
      show f_Fits_countHolding_L26 71 5 (n + 1) h2 _ = _
      rw [f_Fits_countHolding_L26]
      simp only [C2]
      rw [chk_t trivial, (QF F2).1, if_pos (by omega)]
  unfold f_Fits_countHolding
  refine loop_r (F := fun n (x : mH × Int) => f_Fits_countHolding_L2 (fun h1 => f_Fits_countHolding_L26 71 5 1000000 h1 0) 71 n x.1 x.2) (P := fun o => ∃ h' M', o = some ((3, 0), h') ∧ At h' c p L M' ∧ Fr [73] M M' ∧ HQ M' t S S.2.toNat) (fun i x => x.2 = (i : Int) ∧ ∃ M', At x.1 c p L M' ∧ Fr [73] M M' ∧ ∀ j, 0 ≤ j → j < (i : Int) → M' 73 j = 0) 36 (fun i hi x hx n => ?_) (fun x hx n => ?_) (i := 0) (b := (h, 0)) ⟨rfl, M, A, Fr.rf _ _, fun j g0 g1 => by omega⟩ (by omega) (by omega)
  · obtain ⟨h2, r⟩ := x
    obtain ⟨hr_, M2, A2_, F2, H2⟩ := hx
    have hr : r = (i : Int) := hr_
    have A2 : At h2 c p L M2 := A2_
    clear hr_ A2_
    subst hr
    right
    have C2 := A2.fi
    have A3 := A2.aput (v := 73) i 0 (by decide) (by decide) (by decide) (by decide +kernel) (by decide) (by decide)
    refine ⟨(hput h2 73 i 0, ((i + 1 : Nat) : Int)), ⟨rfl, _, A3, F2.pu (by decide), fun j g0 g1 => ?_⟩, ?_⟩
    · by_cases e : j = i
      · rw [e, mup_eq]
      · rw [mup_ne (Or.inr e)]; exact H2 j g0 (by omega)
    · show f_Fits_countHolding_L2 _ 71 (n + 1) h2 i = f_Fits_countHolding_L2 _ 71 n (hput h2 73 i 0) ((i + 1 : Nat) : Int)
      rw [f_Fits_countHolding_L2]
      simp only [C2]
      rw [chk_t trivial, chk_t (Nat.le_refl _), if_neg (by omega), chk_t trivial, chk_t trivial, chk_t (by omega), wth, wtv, w32_n i (by omega)]
  · obtain ⟨h2, r⟩ := x
    obtain ⟨hr_, M2, A2_, F2, H2⟩ := hx
    have hr : r = ((36 : Nat) : Int) := hr_
    have A2 : At h2 c p L M2 := A2_
    clear hr_ A2_
    subst hr
    have C2 := A2.fi
    show ∃ h' M', f_Fits_countHolding_L2 _ 71 (n + 1) h2 ((36 : Nat) : Int) = _ ∧ _
    rw [f_Fits_countHolding_L2]
    simp only [C2]
    rw [chk_t trivial, chk_t (Nat.le_refl _), if_pos (by decide)]
    exact main h2 M2 A2 F2 (fun j g0 g1 => H2 j g0 (by omega))
theorem tr_rng {t : tT} {S : tF} : ∀ n : Nat, ((tr t S n).1 = -1 ∧ n = 0) ∨ (0 ≤ (tr t S n).1 ∧ (tr t S n).1 < n)
  | 0 => Or.inl ⟨rfl, rfl⟩
  | n + 1 => by
    right
    rw [tr]; split
    · show 0 ≤ (n : Int) ∧ (n : Int) < ((n + 1 : Nat) : Int); omega
    · rename_i h
      rcases tr_rng (t := t) (S := S) n with h1 | h1
      · exact absurd (Or.inl h1.1) h
      · push_cast; omega
theorem hs_rng (t : tT) (S : tF) (h : 0 ≤ S.2) (s : Int) : 0 ≤ hs t S s ∧ hs t S s ≤ S.2 := by
  have := cnN_rng (fun k => decide (dg t s (S.1 k / 100) = S.1 k % 10) == decide (S.1 k / 10 % 10 = 0)) S.2.toNat
  unfold hs; omega
theorem s_Fits_seekTry (A : At h c p L M) {t : tT} (K : KS E M L t) (hS2 : nS t ≤ 20000) {S : tF} (Q : FQ M S) (V : FV t S) (h72 : S.2 ≤ 72) : ∃ h' M', f_Fits_seekTry h 71 5 = some ((3, 0), h') ∧ At h' c p L M' ∧ FT M M' ∧ M' 71 4 = (tr t S (nN t)).1 ∧ M' 71 5 = (tr t S (nN t)).2 := by
  have hn := K.W.1
  have hS := nS_rng K.W
  have hnn := nN_eq K.W
  have C := A.fi
  obtain ⟨h1, M1, f1, A1, F1, H1⟩ := s_Fits_count A K Q V h72
  have C1 := A1.fi
  have A2 := A1.fput (v := 71) (i := 4) (-1) (by decide) (by decide) (by decide) (by decide +kernel) (by decide)
  have C2 := A2.fi
  have A3 := A2.fput (v := 71) (i := 5) (-1) (by decide) (by decide) (by decide) (by decide +kernel) (by decide)
  have F3 : FT M (mup (mup M1 71 4 (-1)) 71 5 (-1)) := ((((F1.fs (d := 71) (is := []) (by decide)).mono (by decide) (fun _ q => by cases q)) : FT M M1).ps (by decide)).ps (by decide)
  unfold f_Fits_seekTry
  simp only [C]
  rw [chk_t trivial, f1, bndT_ok (by decide)]
  simp only [C1]
  rw [chk_t trivial, wth]
  simp only [C2]
  rw [chk_t trivial, wth]
  -- the walk
  have walk : ∀ h4 M4, At h4 c p L M4 → FT M M4 → M4 71 4 = -1 → M4 71 5 = -1 → HQ M4 t S S.2.toNat → M4 71 3 = M 71 3 → (∀ b, 0 ≤ b → b < nb t → M4 74 b = 0) → ∃ h' M', f_Fits_seekTry_L43 71 5 (nS t) 1000000 h4 0 = some ((3, 0), h') ∧ At h' c p L M' ∧ FT M M' ∧ M' 71 4 = (tr t S (nN t)).1 ∧ M' 71 5 = (tr t S (nN t)).2 := by
    intro h4 M4 A4 F4 z4 z5 H4 e3 zr
    refine loop_r (F := fun n (x : mH × Int) => f_Fits_seekTry_L43 71 5 (nS t) n x.1 x.2) (P := fun o => ∃ h' M', o = some ((3, 0), h') ∧ At h' c p L M' ∧ FT M M' ∧ M' 71 4 = (tr t S (nN t)).1 ∧ M' 71 5 = (tr t S (nN t)).2) (fun s x => x.2 = (s : Int) ∧ ∃ M', At x.1 c p L M' ∧ FT M M' ∧ M' 71 4 = (tr t S s).1 ∧ M' 71 5 = (tr t S s).2 ∧ HQ M' t S S.2.toNat ∧ M' 71 3 = M 71 3 ∧ ((s : Int) < nS t → ∀ b, 0 ≤ b → b < nb t → M' 74 b = dg t s b)) (nN t) (fun s hs_ x hx n => ?_) (fun x hx n => ?_) (i := 0) (b := (h4, 0)) ⟨rfl, M4, A4, F4, z4, z5, H4, e3, fun _ b g0 g1 => by rw [zr b g0 g1]; exact (dg_0 b).symm⟩ (by omega) (by omega)
    · obtain ⟨h5, r⟩ := x
      obtain ⟨hr_, M5, A5_, F5, t4, t5, H5, e5, r5⟩ := hx
      have hr : r = (s : Int) := hr_
      have A5 : At h5 c p L M5 := A5_
      clear hr_ A5_
      subst hr
      right
      have r5 := r5 (by omega)
      have C5 := A5.fi
      have K5 := K.ft F5
      have B5 := BH.of5 A5 K5.R
      have hsr := hs_rng t S V.1 s
      have e5' : M5 71 3 = S.2 := by rw [e5]; exact Q.1
      have hm : ∀ b, 0 ≤ b → b < nb t → M5 73 (4 * b + dg t s b) = cnN (hfk S b (dg t s b)) S.2.toNat := fun b g0 g1 => by
        have := dg_rw K.W s b g0 g1
        exact H5 b _ g0 g1 this.1 this.2
      have hcn : ∀ b, 0 ≤ cnN (hfk S b (dg t s b)) S.2.toNat ∧ cnN (hfk S b (dg t s b)) S.2.toNat ≤ 72 := fun b => by
        have := cnN_rng (hfk S b (dg t s b)) S.2.toNat
        have := V.1
        omega
      have hsum : ∀ (n' : Nat) (K91 : mH → Int → Option mR), f_Fits_seekTry_L54 K91 71 5 1000000 h5 0 0 = K91 h5 (hs t S s) := by
        intro n' K91
        refine loop_r (F := fun n (x : Int × Int) => f_Fits_seekTry_L54 K91 71 5 n h5 x.1 x.2) (P := fun o => o = K91 h5 (hs t S s)) (fun i x => x = (smN (fun b => cnN (hfk S b (dg t s b)) S.2.toNat) i, (i : Int))) (nb t).toNat (fun i hi x hx n => ?_) (fun x hx n => ?_) (i := 0) (b := (0, 0)) rfl (by omega) (by omega)
        · subst hx
          right
          have hd := dg_rw K.W s i (by omega) (by omega)
          have hpi := K.W.2.2.2.2.2.1 i (by omega) (by omega)
          have hr1 := smN_rng (f := fun b => cnN (hfk S b (dg t s b)) S.2.toNat) (m := 72) (n := i) (fun b _ _ => hcn b)
          have hci := hcn i
          refine ⟨_, rfl, ?_⟩
          show f_Fits_seekTry_L54 K91 71 5 (n + 1) h5 (smN _ i) i = f_Fits_seekTry_L54 K91 71 5 n h5 (smN _ i + cnN (hfk S i (dg t s i)) S.2.toNat) ((i + 1 : Nat) : Int)
          rw [f_Fits_seekTry_L54, chk_t B5.T, B5.s2, if_neg (by omega)]
          simp only [C5]
          rw [r5 i (by omega) (by omega), w32_id (x := 4 * (i : Int)) (by omega) (by omega), w32_id (x := 4 * (i : Int) + dg t s i) (by omega) (by omega), hm i (by omega) (by omega), chk_t trivial, chk_t trivial, chk_t trivial, chk_t (by omega), chk_t trivial, chk_t (by omega), wtv, wtv, w32_id (by omega) (by omega), w32_n i (by omega)]
        · subst hx
          show f_Fits_seekTry_L54 K91 71 5 (n + 1) h5 (smN _ (nb t).toNat) ((nb t).toNat : Int) = _
          rw [f_Fits_seekTry_L54, chk_t B5.T, B5.s2, if_pos (by omega)]
          rw [hs_sum (S := S) (r := dg t s) (n := (nb t).toNat) (m := S.2.toNat) (fun k g0 g1 => by
            have := V.2 k g0 (by omega)
            have h3 := this.2.2.1
            have h1 := this.1
            omega)]
          rfl
      have hwo : (if hs t S s < w32 (S.2 - hs t S s) then w32 (S.2 - hs t S s) else hs t S s) = wo t S s := by
        rw [w32_id (by omega) (by omega)]; rfl
      have j133 : ∀ h6 M6, At h6 c p L M6 → FT M M6 → M6 71 4 = (tr t S (s + 1)).1 → M6 71 5 = (tr t S (s + 1)).2 → HQ M6 t S S.2.toNat → M6 71 3 = M 71 3 → M6 74 = M5 74 → ∃ b' : mH × Int, (b'.2 = ((s + 1 : Nat) : Int) ∧ ∃ M', At b'.1 c p L M' ∧ FT M M' ∧ M' 71 4 = (tr t S (s + 1)).1 ∧ M' 71 5 = (tr t S (s + 1)).2 ∧ HQ M' t S S.2.toNat ∧ M' 71 3 = M 71 3 ∧ (((s + 1 : Nat) : Int) < nS t → ∀ b, 0 ≤ b → b < nb t → M' 74 b = dg t ((s + 1 : Nat) : Int) b)) ∧ f_Fits_seekTry_J133 (f_Fits_seekTry_L43 71 5 (nS t) n) 71 5 s h6 = f_Fits_seekTry_L43 71 5 (nS t) n b'.1 b'.2 := by
        intro h6 M6 A6 F6 t6 t7 H6 e6 r6
        have C6 := A6.fi
        have K6 := K.ft F6
        have B6 := BH.of5 A6 K6.R
        obtain ⟨h7, M7, f7, A7, F7, hnx⟩ := s_Box_advance A6 K6.R K.W (a := 74) (Or.inr rfl) (s := s) (by omega) (by omega) (fun b g0 g1 => by rw [r6]; exact r5 b g0 g1)
        refine ⟨(h7, ((s + 1 : Nat) : Int)), ⟨rfl, M7, A7, F6.tr ((F7.fs (d := 71) (is := []) (by decide)).mono (by decide) (fun _ q => by cases q)), by rw [F7 71 (by decide)]; exact t6, by rw [F7 71 (by decide)]; exact t7, ?_, by rw [F7 71 (by decide)]; exact e6, fun g b g0 g1 => ?_⟩, ?_⟩
        · unfold HQ; rw [F7 73 (by decide)]; exact H6
        · rw [hnx (by omega) b g0 g1]; rfl
        · unfold f_Fits_seekTry_J133
          simp only [C6]
          rw [chk_t trivial, chk_t B6.T, f7, bndT_ok (by decide), wtv, w32_n s (by omega)]
      have j122 : tr t S (s + 1) = ((s : Int), wo t S s) → ∃ b' : mH × Int, (b'.2 = ((s + 1 : Nat) : Int) ∧ ∃ M', At b'.1 c p L M' ∧ FT M M' ∧ M' 71 4 = (tr t S (s + 1)).1 ∧ M' 71 5 = (tr t S (s + 1)).2 ∧ HQ M' t S S.2.toNat ∧ M' 71 3 = M 71 3 ∧ (((s + 1 : Nat) : Int) < nS t → ∀ b, 0 ≤ b → b < nb t → M' 74 b = dg t ((s + 1 : Nat) : Int) b)) ∧ f_Fits_seekTry_J122 (f_Fits_seekTry_L43 71 5 (nS t) n) 71 5 s (wo t S s) h5 = f_Fits_seekTry_L43 71 5 (nS t) n b'.1 b'.2 := by
        intro e
        have A6 := A5.fput (v := 71) (i := 4) s (by decide) (by decide) (by decide) (by decide +kernel) (by decide)
        have C6 := A6.fi
        have A7 := A6.fput (v := 71) (i := 5) (wo t S s) (by decide) (by decide) (by decide) (by decide +kernel) (by decide)
        obtain ⟨b', hb, hf⟩ := j133 _ _ A7 ((F5.ps (by decide)).ps (by decide)) (by rw [e, mup_ne (Or.inr (by decide)), mup_eq]) (by rw [e, mup_eq]) (by unfold HQ; rw [mup_fn (by decide), mup_fn (by decide)]; exact H5) (by rw [mup_ne (Or.inr (by decide)), mup_ne (Or.inr (by decide))]; exact e5) (by rw [mup_fn (by decide), mup_fn (by decide)])
        refine ⟨b', hb, ?_⟩
        unfold f_Fits_seekTry_J122
        simp only [C5]
        rw [chk_t trivial, wth]
        simp only [C6]
        rw [chk_t trivial, wth, hf]
      show ∃ b' : mH × Int, _ ∧ f_Fits_seekTry_L43 71 5 (nS t) (n + 1) h5 s = _
      rw [f_Fits_seekTry_L43, if_neg (by omega), hsum 0]
      simp only [C5]
      rw [chk_t trivial, e5', wtv, hwo, t4, t5, chk_t trivial]
      by_cases g : (tr t S s).1 = -1
      · rw [if_pos g]
        exact j122 (by rw [tr, if_pos (Or.inl g)])
      · rw [if_neg g, chk_t trivial]
        by_cases g2 : (tr t S s).2 ≤ wo t S s
        · rw [if_pos g2]
          have e : tr t S (s + 1) = tr t S s := by rw [tr, if_neg]; rintro (q | q); exact g q; omega
          exact j133 h5 M5 A5 F5 (by rw [e]; exact t4) (by rw [e]; exact t5) H5 e5 rfl
        · rw [if_neg g2]
          exact j122 (by rw [tr, if_pos (Or.inr (by omega))])
    · obtain ⟨h5, r⟩ := x
      obtain ⟨hr_, M5, A5_, F5, t4, t5, H5, e5, r5⟩ := hx
      have hr : r = ((nN t : Nat) : Int) := hr_
      have A5 : At h5 c p L M5 := A5_
      clear hr_ A5_
      subst hr
      refine ⟨h5, M5, ?_, A5, F5, t4, t5⟩
      show f_Fits_seekTry_L43 71 5 (nS t) (n + 1) h5 _ = _
      rw [f_Fits_seekTry_L43, if_pos (by omega)]
  refine loop_r (F := fun n (x : mH × Int) => f_Fits_seekTry_L17 (fun h5 => chk (hpT h5 5 = 1) (bndT 0 (f_Box_standCount h5 5) (fun x7 h6 => f_Fits_seekTry_L43 71 5 x7 1000000 h6 0))) 71 n x.1 x.2) (P := fun o => ∃ h' M', o = some ((3, 0), h') ∧ At h' c p L M' ∧ FT M M' ∧ M' 71 4 = (tr t S (nN t)).1 ∧ M' 71 5 = (tr t S (nN t)).2) (fun i x => x.2 = (i : Int) ∧ ∃ M', At x.1 c p L M' ∧ Fr [74] (mup (mup M1 71 4 (-1)) 71 5 (-1)) M' ∧ ∀ b, 0 ≤ b → b < (i : Int) → M' 74 b = 0) 9 (fun i hi x hx n => ?_) (fun x hx n => ?_) (i := 0) (b := (hput (hput h1 71 4 (-1)) 71 5 (-1), 0)) ⟨rfl, _, A3, Fr.rf _ _, fun j g0 g1 => by omega⟩ (by omega) (by omega)
  · obtain ⟨h5, r⟩ := x
    obtain ⟨hr_, M5, A5_, F5, z5⟩ := hx
    have hr : r = (i : Int) := hr_
    have A5 : At h5 c p L M5 := A5_
    clear hr_ A5_
    subst hr
    right
    have C5 := A5.fi
    have A6 := A5.aput (v := 74) i 0 (by decide) (by decide) (by decide) (by decide +kernel) (by decide) (by decide)
    refine ⟨(hput h5 74 i 0, ((i + 1 : Nat) : Int)), ⟨rfl, _, A6, F5.pu (by decide), fun j g0 g1 => ?_⟩, ?_⟩
    · by_cases e : j = i
      · rw [e, mup_eq]
      · rw [mup_ne (Or.inr e)]; exact z5 j g0 (by omega)
    · show f_Fits_seekTry_L17 _ 71 (n + 1) h5 i = f_Fits_seekTry_L17 _ 71 n (hput h5 74 i 0) ((i + 1 : Nat) : Int)
      rw [f_Fits_seekTry_L17, if_neg (by omega)]
      simp only [C5]
      rw [chk_t trivial, chk_t trivial, chk_t (by omega), wth, wtv, w32_n i (by omega)]
  · obtain ⟨h5, r⟩ := x
    obtain ⟨hr_, M5, A5_, F5, z5⟩ := hx
    have hr : r = ((9 : Nat) : Int) := hr_
    have A5 : At h5 c p L M5 := A5_
    clear hr_ A5_
    subst hr
    have F5' : FT M M5 := F3.tr ((F5.fs (d := 71) (is := []) (by decide)).mono (by decide) (fun _ q => by cases q))
    have K5 := K.ft F5'
    have B5 := BH.of5 A5 K5.R
    show ∃ h' M', f_Fits_seekTry_L17 _ 71 (n + 1) h5 ((9 : Nat) : Int) = _ ∧ _
    rw [f_Fits_seekTry_L17, if_pos (by decide), chk_t B5.T, s_Box_standCount B5 K5.W, bndT_ok (by decide)]
    refine walk h5 M5 A5 F5' (by rw [F5 71 (by decide), mup_ne (Or.inr (by decide)), mup_eq]) (by rw [F5 71 (by decide), mup_eq]) ?_ (by rw [F5 71 (by decide), mup_ne (Or.inr (by decide)), mup_ne (Or.inr (by decide)), F1 71 (by decide)]) (fun b g0 g1 => z5 b g0 (by omega))
    unfold HQ
    rw [F5 73 (by decide), mup_fn (by decide), mup_fn (by decide)]
    exact H1
def trV (t : tT) (S : tF) (w : Int) : Int := if S.2 < 2 then -1 else if w = 0 then (tr t S (nN t)).1 else (tr t S (nN t)).2
theorem c_tries (A : At h c p L M) {t : tT} (K : KS E M L t) {w τ : Int} (k : Int) (hw : -2147483648 ≤ w ∧ w < 2147483648) (hm : 0 ≤ τ → τ < 4 → -1 ≤ M (33 + 2 * τ) 2 ∧ M (33 + 2 * τ) 2 ≤ 40) :
    CR c M E t (f_Nb_tries h 1 w τ k) (if (0 ≤ w / 2 ∧ w / 2 < nb t) ∧ 0 ≤ τ ∧ τ < 4 then (if M (33 + 2 * τ) 2 ≠ -1 ∧ nS t ≤ 20000 then (if abN t (M (34 + 2 * τ)) (M (33 + 2 * τ) 2).toNat = true then (if k = 0 ∨ k = 1 then (0, trV t (fFS t (M (34 + 2 * τ)) (M (33 + 2 * τ) 2).toNat (w / 2)) k) else (4, xA)) else (4, xA)) else (4, xS)) else (4, xN)) := by
  have C := A.nb
  unfold f_Nb_tries
  simp only [C]
  rw [chk_t trivial]
  refine CR_fits A K hw hm (fun hS2 h1 M1 A1 K1 F1 Q1 => ?_)
  have C1 := A1.nb
  have D1 := A1.fi
  have hb := K.W.1
  have hc := fC_rng K.W (M (34 + 2 * τ)) (M (33 + 2 * τ) 2).toNat (w / 2) (nb t).toNat (by omega)
  have V : FV t (fFS t (M (34 + 2 * τ)) (M (33 + 2 * τ) 2).toNat (w / 2)) := fC_V K.W _ (by omega)
  have hc2 : (fFS t (M (34 + 2 * τ)) (M (33 + 2 * τ) 2).toNat (w / 2)).2 ≤ 72 := by
    have := hc.2
    show (fC _ _ _ _ _).2 ≤ 72
    omega
  generalize fFS t (M (34 + 2 * τ)) (M (33 + 2 * τ) 2).toNat (w / 2) = S at Q1 hc2 V
  have j26 : k = 0 ∨ k = 1 → CR c M1 E t (f_Nb_tries_J26 1 k h1) (0, trV t S k) := by
    intro hk
    unfold f_Nb_tries_J26 trV
    simp only [C1, D1]
    rw [chk_t trivial, chk_t trivial, Q1.1]
    by_cases g : 2 ≤ S.2
    · obtain ⟨h2, M2, f2, A2, F2, e4, e5⟩ := s_Fits_seekTry A1 K1 hS2 Q1 V hc2
      have C2 := A2.nb
      have D2 := A2.fi
      rw [if_pos g, if_neg (by omega), chk_t trivial, chk_t trivial, chk_t trivial, f2, bndT_ok (by decide)]
      simp only [C2, D2]
      refine CR_mv F2.r ?_
      rcases hk with rfl | rfl
      · rw [if_pos rfl, if_pos rfl, chk_t trivial, chk_t trivial, e4]; exact CR_ok A2 (K1.ft F2)
      · rw [if_neg (by decide), if_neg (by decide), chk_t trivial, chk_t trivial, e5]; exact CR_ok A2 (K1.ft F2)
    · rw [if_neg g, if_pos (by omega)]; exact CR_ok A1 K1
  by_cases g : k = 0
  · rw [if_pos g, if_pos (Or.inl g)]; exact j26 (Or.inl g)
  · rw [if_neg g]
    by_cases g2 : k = 1
    · rw [if_pos g2, if_pos (Or.inr g2)]; exact j26 (Or.inr g2)
    · rw [if_neg g2, if_neg (by omega)]; exact CR_ex A1 K1
end
