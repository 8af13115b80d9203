/-! THE REFERENCE'S STEPS -/
def wM (w : Int) (b : Int) : Bool := bt w b.toNat
theorem wM_mk {f : Int → Bool} {n : Nat} (hn : n ≤ 31) {b : Int} (h0 : 0 ≤ b) (h1 : b < n) : wM (mkM f n) b = f b := by
  unfold wM
  rw [bt_mkM f (by omega) (by omega), decide_eq_true (show b.toNat < n by omega), Bool.true_and]
  congr 1; omega
/-- the extra rule, if there is one -/
def XO (t : tT) (x : Bool) (X : tT) : Prop := x = true → X 3 = 1 ∧ 0 ≤ X 4 ∧ X 4 < nb t
section
variable {h : mH} {t : tT} {row : Int → Int} {X : tT} {e : Int}
theorem s_Md_whyNot {x : Bool} (B : MH h t row X e) (W : WS t) (he : e = b2i x) (hX : XO t x X) {b up w : Int} (hr : ∀ b, 0 ≤ b → b < nb t → -1000 ≤ row b ∧ row b < 1000) (hw : -2147483648 ≤ w ∧ w < 2147483648) : f_Md_whyNot h 75 b up w = some ((0, why t x X row (wM w) b up), h) := by
  have hn := W.1
  have hn2 := W.2.1
  unfold f_Md_whyNot
  rw [chk_t B.T, s_Md_isBar B W, bndT_ok (by decide)]
  by_cases h0 : b < 0 ∨ nb t ≤ b
  · have : (decide (0 ≤ b) && decide (b < nb t)) = false := by
      rcases h0 with h0 | h0
      · rw [decide_eq_false (show ¬ 0 ≤ b by omega)]; rfl
      · rw [decide_eq_false (show ¬ b < nb t by omega), Bool.and_false]
    rw [this, if_pos (b2i_0.mpr rfl)]
    unfold why; rw [if_pos h0]
  · rw [decide_eq_true (show 0 ≤ b by omega), decide_eq_true (show b < nb t by omega), if_neg (by decide), chk_t B.T, B.P17, chk_t B.T17, chk_t (by rw [B.L17]; omega), B.V17]
    have hrb := hr b (by omega) (by omega)
    unfold why
    rw [if_neg h0]
    have e34 : ∀ u : Int, u = tow row b up → f_Md_whyNot_J34 75 b w (row b) u h = some ((0, if tow row b up < 0 ∨ pl t b ≤ tow row b up then 2 else if b < ne t ∧ row b + tow row b up = 1 ∧ fre row b = false then 3 else if wM w b = true then 0 else if (hld t row b (row b) (tow row b up) || (x && xm X b (row b) (tow row b up) && xh X row)) = true then 0 else if (rld t b (row b) (tow row b up) || (x && xm X b (row b) (tow row b up))) = true then 4 else 0), h) := by
      intro u hu
      have hur : -2000 ≤ u ∧ u ≤ 2000 := by rw [hu]; unfold tow; split <;> omega
      unfold f_Md_whyNot_J34
      have hp := W.2.2.2.2.2.1 b (by omega) (by omega)
      rw [chk_t B.T, s_Md_pl B W (by omega) (by omega), bndT_ok (by decide), w32_id (by omega) (by omega), s_Md_amid, bndT_ok (by decide), ← hu]
      by_cases h2 : u < 0 ∨ pl t b ≤ u
      · have : (decide (0 ≤ u) && decide (u ≤ pl t b - 1)) = false := by
          rcases h2 with h2 | h2
          · rw [decide_eq_false (show ¬ 0 ≤ u by omega)]; rfl
          · rw [decide_eq_false (show ¬ u ≤ pl t b - 1 by omega), Bool.and_false]
        rw [this, if_pos (b2i_0.mpr rfl), if_pos h2]
      · rw [decide_eq_true (show 0 ≤ u by omega), decide_eq_true (show u ≤ pl t b - 1 by omega), if_neg (by decide), if_neg h2, chk_t B.T, B.P0, chk_t B.T0, chk_t (by rw [B.L0]; omega), B.V0]
        have e3 : t 3 = ne t := rfl
        rw [e3]
        have e86 : f_Md_whyNot_J86 75 b w (row b) u h = some ((0, if wM w b = true then 0 else if (hld t row b (row b) u || (x && xm X b (row b) u && xh X row)) = true then 0 else if (rld t b (row b) u || (x && xm X b (row b) u)) = true then 4 else 0), h) := by
          unfold f_Md_whyNot_J86
          by_cases hwn : wM w b = true
          · rw [if_pos hwn, if_pos ((bt_at hw.1 hw.2 (by omega) (by omega)).mpr hwn)]
          · rw [if_neg hwn, if_neg (fun g => hwn ((bt_at hw.1 hw.2 (by omega) (by omega)).mp g))]
            have HK : ∀ s : Bool, (chk (hpT h 75 = 12) ((if hpV h 75 19 = (0 : Int) then f_Md_whyNot_J246 (b2i s) h else chk (hpT h 75 = 12) (chk (hpT h (hpV h 75 18) = 21) (chk ((0 : Int) ≤ 0 ∧ 0 < hpL h (hpV h 75 18)) ((if hpV h (hpV h 75 18) 0 = b then chk (hpT h 75 = 12) (chk (hpT h (hpV h 75 18) = 21) (chk ((0 : Int) ≤ 1 ∧ 1 < hpL h (hpV h 75 18)) ((if hpV h (hpV h 75 18) 1 = row b then chk (hpT h 75 = 12) (chk (hpT h (hpV h 75 18) = 21) (chk ((0 : Int) ≤ 2 ∧ 2 < hpL h (hpV h 75 18)) ((if hpV h (hpV h 75 18) 2 = u then chk (hpT h 75 = 12) (chk (hpT h 75 = 12) (bndT 0 (f_Md_holds h 75 (hpV h 75 18) 0) (fun x4 h3 => (if x4 = (0 : Int) then f_Md_whyNot_J246 1 h3 else some ((0, 0), h3))))) else f_Md_whyNot_J246 (b2i s) h)))) else f_Md_whyNot_J246 (b2i s) h)))) else f_Md_whyNot_J246 (b2i s) h))))))) = some ((0, if (x && xm X b (row b) u && xh X row) = true then 0 else if (s || (x && xm X b (row b) u)) = true then 4 else 0), h) := by
              intro s
              have e246 : ∀ s : Bool, f_Md_whyNot_J246 (b2i s) h = some ((0, if s = true then 4 else 0), h) := fun s => by
                unfold f_Md_whyNot_J246; cases s <;> rfl
              rw [chk_t B.T, B.s19, he, B.P18]
              cases x with
              | false => rw [if_pos (b2i_0.mpr rfl), e246]; simp
              | true =>
                obtain ⟨x1, x2, x3⟩ := hX rfl
                rw [if_neg (by decide), chk_t B.T, chk_t B.T18, chk_t (by rw [B.L18]; omega), B.V18, B.V18, B.V18]
                unfold xm
                by_cases g1 : X 0 = b
                · rw [if_pos g1, decide_eq_true g1, chk_t B.T, chk_t B.T18, chk_t (by rw [B.L18]; omega)]
                  by_cases g2 : X 1 = row b
                  · rw [if_pos g2, decide_eq_true g2, chk_t B.T, chk_t B.T18, chk_t (by rw [B.L18]; omega)]
                    by_cases g3 : X 2 = u
                    · rw [if_pos g3, decide_eq_true g3, chk_t B.T, chk_t B.T, s_Md_holds B (m := 1) B.T18 B.V18 (by omega) (by omega) x1 (by omega) (by omega) (by rw [B.L18]; omega) (by rw [B.L18]; omega) (fun f g0 g1 => by rw [show f = 0 by omega]; exact ⟨x2, by have : X (0 + 4 + 3 * 0) = X 4 := rfl; omega⟩), bndT_ok (by decide)]
                      have : allN (fun f => decide (row (X (0 + 4 + 3 * f)) = X (0 + 4 + 3 * f + 2)) == decide (X (0 + 4 + 3 * f + 1) = 0)) (Int.toNat 1) = xh X row := by
                        show (true && _) = xh X row
                        rw [Bool.true_and]; rfl
                      rw [this]
                      cases xh X row
                      · rw [if_pos (b2i_0.mpr rfl), show (1 : Int) = b2i true from rfl, e246]; simp
                      · rw [if_neg (by decide)]; simp
                    · rw [if_neg g3, decide_eq_false g3, e246]; simp
                  · rw [if_neg g2, decide_eq_false g2, e246]; simp
                · rw [if_neg g1, decide_eq_false g1, e246]; simp
            refine loop_r (F := fun n (y : Int × Int) => f_Md_whyNot_L103 _ 75 b (row b) u n h y.1 y.2) (P := fun o => o = _) (fun i y => y = (b2i (anyN (mc t b (row b) u) i), (i : Int)) ∧ anyN (fun r => mc t b (row b) u r && hR t row r) i = false) (nr t).toNat (fun i hi y hy n => ?_) (fun y hy n => ?_) (i := 0) (b := (0, 0)) ⟨rfl, rfl⟩ (by omega) (by omega)
            · obtain ⟨rfl, hy⟩ := hy
              show f_Md_whyNot_L103 _ 75 b (row b) u (n + 1) h (b2i (anyN (mc t b (row b) u) i)) i = _ ∨ ∃ b', _ ∧ f_Md_whyNot_L103 _ 75 b (row b) u (n + 1) h (b2i (anyN (mc t b (row b) u) i)) i = _
              have e1 : w32 (41 + w32 (16 * (i : Int))) = 41 + 16 * i := by rw [w32_id (x := 16 * (i : Int)) (by omega) (by omega), w32_id (by omega) (by omega)]
              have ek0 : t (41 + 16 * (i : Int)) = rb t i := rfl
              have ek1 : t (41 + 16 * (i : Int) + 1) = rf t i := by rw [show 41 + 16 * (i : Int) + 1 = 42 + 16 * i by omega]; rfl
              have ek2 : t (41 + 16 * (i : Int) + 2) = rt t i := by rw [show 41 + 16 * (i : Int) + 2 = 43 + 16 * i by omega]; rfl
              rw [f_Md_whyNot_L103, chk_t B.T, B.P0, chk_t B.T0, chk_t (by rw [B.L0]; omega), B.V0, show t 2 = nr t from rfl, if_neg (by omega), wtv, e1]
              rw [chk_t B.T, chk_t B.T0, chk_t (by rw [B.L0]; omega), B.V0, ek0]
              unfold f_Md_whyNot_J184
              have no : mc t b (row b) u i = false → ∀ z, z = ((b2i (anyN (mc t b (row b) u) i), ((i + 1 : Nat) : Int)) : Int × Int) → z = (b2i (anyN (mc t b (row b) u) (i + 1)), ((i + 1 : Nat) : Int)) ∧ anyN (fun r => mc t b (row b) u r && hR t row r) (i + 1) = false := fun g z hz => ⟨by rw [hz, anyN, g, Bool.or_false], by rw [anyN, hy, g]; rfl⟩
              by_cases g1 : rb t i = b
              · rw [if_pos g1, chk_t B.T, chk_t B.T0, w32_id (x := 41 + 16 * (i : Int) + 1) (by omega) (by omega), chk_t (by rw [B.L0]; omega), B.V0, ek1]
                by_cases g2 : rf t i = row b
                · rw [if_pos g2, chk_t B.T, chk_t B.T0, w32_id (x := 41 + 16 * (i : Int) + 2) (by omega) (by omega), chk_t (by rw [B.L0]; omega), B.V0, ek2]
                  by_cases g3 : rt t i = u
                  · have g4 : mc t b (row b) u i = true := by unfold mc; rw [decide_eq_true g1, decide_eq_true g2, decide_eq_true g3]; rfl
                    rw [if_pos g3]
                    simp only [wtv]
                    rw [chk_t B.T, chk_t B.T, s_Md_hR B W (by omega) (by omega), bndT_ok (by decide)]
                    cases g5 : hR t row i
                    · right
                      rw [if_pos (b2i_0.mpr rfl), w32_n i (by omega)]
                      exact ⟨_, ⟨rfl, by rw [anyN, hy, g5, Bool.and_false]; rfl⟩, by rw [anyN, g4, Bool.or_true]; rfl⟩
                    · left
                      rw [if_neg (by decide), if_pos]
                      rw [show hld t row b (row b) u = true from anyN_iff.mpr ⟨i, by omega, by omega, by rw [g4, g5]; rfl⟩]; rfl
                  · right
                    rw [if_neg g3, wtv, w32_n i (by omega)]
                    exact ⟨_, no (by unfold mc; rw [decide_eq_false g3, Bool.and_false]) _ rfl, rfl⟩
                · right
                  rw [if_neg g2, wtv, w32_n i (by omega)]
                  exact ⟨_, no (by unfold mc; rw [decide_eq_false g2, Bool.and_false, Bool.false_and]) _ rfl, rfl⟩
              · right
                rw [if_neg g1, wtv, w32_n i (by omega)]
                exact ⟨_, no (by unfold mc; rw [decide_eq_false g1, Bool.false_and, Bool.false_and]) _ rfl, rfl⟩
            · obtain ⟨rfl, hy⟩ := hy
              show f_Md_whyNot_L103 _ 75 b (row b) u (n + 1) h _ _ = _
              rw [f_Md_whyNot_L103, chk_t B.T, B.P0, chk_t B.T0, chk_t (by rw [B.L0]; omega), B.V0, show t 2 = nr t from rfl, if_pos (by omega)]
              rw [HK (anyN (mc t b (row b) u) (nr t).toNat), show hld t row b (row b) u = false from hy, Bool.false_or]
              rfl
        by_cases h3 : ne t ≤ b
        · rw [if_pos h3, if_neg (by omega)]; exact e86
        · rw [if_neg h3, w32_id (by omega) (by omega)]
          by_cases h4 : row b + u = 1
          · rw [if_pos h4, chk_t B.T, s_Md_isFree B (by omega) (by omega), bndT_ok (by decide)]
            cases h5 : fre row b
            · rw [if_pos (b2i_0.mpr rfl), if_pos ⟨by omega, h4, rfl⟩]
            · rw [if_neg (by decide), if_neg (by simp)]; exact e86
          · rw [if_neg h4, if_neg (fun g => h4 g.2.1)]; exact e86
    by_cases hu : up = 0
    · simp only [wtv]
      rw [if_pos hu, w32_id (by omega) (by omega), e34 _ (by unfold tow; rw [if_pos hu])]
    · simp only [wtv]
      rw [if_neg hu, w32_id (by omega) (by omega), e34 _ (by unfold tow; rw [if_neg hu])]
end
section
variable {h : mH} {c : Int} {p L : Int → Int} {M : aM}
/-- all but these arrays are as they were -/
def Fr (l : List Int) (M M' : aM) : Prop := ∀ v, v ∉ l → M' v = M v
theorem mup_fn {M : aM} {v i x w : Int} (h : w ≠ v) : mup M v i x w = M w := funext fun j => mup_ne (Or.inl h)
theorem Fr.rf (l : List Int) (M : aM) : Fr l M M := fun _ _ => rfl
theorem Fr.tr {l : List Int} {M N K : aM} (a : Fr l M N) (b : Fr l N K) : Fr l M K := fun v hv => (b v hv).trans (a v hv)
theorem Fr.mono {l l2 : List Int} {M N : aM} (a : Fr l M N) (hl : ∀ v ∈ l, v ∈ l2) : Fr l2 M N := fun v hv => a v (fun g => hv (hl v g))
theorem Fr.pu {l : List Int} {M N : aM} (a : Fr l M N) {v i x : Int} (hv : v ∈ l) : Fr l M (mup N v i x) := fun w hw => by
  have e : w ≠ v := fun e => hw (by rw [e]; exact hv)
  rw [mup_fn e, a w hw]
theorem s_Md_laysNow (A : At h c p L M) (W : WS (M 76)) : ∃ h' M', f_Md_laysNow h 75 = some ((3, 0), h') ∧ At h' c p L M' ∧ Fr [82] M M' ∧ ∀ b, 0 ≤ b → b < nb (M 76) → M' 82 b = pa (M 76) b := by
  have hn := W.1
  unfold f_Md_laysNow
  refine loop_r (F := fun n (b : mH × Int) => f_Md_laysNow_L2 75 n b.1 b.2) (P := fun o => ∃ h' M', o = some ((3, 0), h') ∧ At h' c p L M' ∧ Fr [82] M M' ∧ ∀ b, 0 ≤ b → b < nb (M 76) → M' 82 b = pa (M 76) b) (fun i b => b.2 = (i : Int) ∧ ∃ M', At b.1 c p L M' ∧ Fr [82] M M' ∧ ∀ j : Int, 0 ≤ j → j < i → M' 82 j = pa (M 76) j) (nb (M 76)).toNat (fun i hi b hb n => ?_) (fun b hb n => ?_) (i := 0) (b := (h, 0)) ⟨rfl, M, A, Fr.rf _ _, fun j g0 g1 => by omega⟩ (by omega) (by omega)
  · obtain ⟨h1, r⟩ := b
    obtain ⟨hr, M1, A1, F1, hv⟩ := hb
    have hr : r = (i : Int) := hr
    subst hr
    have A1 : At h1 c p L M1 := A1
    right
    have B := MH.of A1
    rw [F1 76 (by decide)] at B
    have A2 := A1.aput (v := 82) i (pa (M 76) i) (by decide) (by decide) (by decide) (by decide +kernel) (by decide) (by decide)
    refine ⟨(hput h1 82 i (pa (M 76) i), ((i + 1 : Nat) : Int)), ⟨rfl, _, A2, F1.pu (by decide), fun j g0 g1 => ?_⟩, ?_⟩
    · by_cases e : j = i
      · rw [e, mup_eq]
      · rw [mup_ne (Or.inr e)]; exact hv j g0 (by omega)
    · show f_Md_laysNow_L2 75 (n + 1) h1 i = f_Md_laysNow_L2 75 n (hput h1 82 i (pa (M 76) i)) ((i + 1 : Nat) : Int)
      rw [f_Md_laysNow_L2, chk_t B.T, s_Md_bars B, bndT_ok (by decide), if_neg (by omega), chk_t B.T, chk_t B.T, s_Md_pa B W (by omega) (by omega), bndT_ok (by decide), B.P17, chk_t B.T17, chk_t (by rw [B.L17]; omega), wth, wtv, w32_n i (by omega)]
  · obtain ⟨h1, r⟩ := b
    obtain ⟨hr, M1, A1, F1, hv⟩ := hb
    have hr : r = ((nb (M 76)).toNat : Int) := hr
    have A1 : At h1 c p L M1 := A1
    have B := MH.of A1
    rw [F1 76 (by decide)] at B
    refine ⟨h1, M1, ?_, A1, F1, fun b g0 g1 => hv b g0 (by omega)⟩
    show f_Md_laysNow_L2 75 (n + 1) h1 r = _
    rw [f_Md_laysNow_L2, chk_t B.T, s_Md_bars B, bndT_ok (by decide), if_pos (by omega)]
theorem s_Md_lays (A : At h c p L M) (W : WS (M 76)) {s : Int} (hs0 : 0 ≤ s) (hs1 : s < 2147483648) : ∃ h' M', f_Md_lays h 75 s = some ((3, 0), h') ∧ At h' c p L M' ∧ Fr [82] M M' ∧ ∀ b, 0 ≤ b → b < nb (M 76) → M' 82 b = dg (M 76) s b := by
  have hn := W.1
  unfold f_Md_lays
  refine loop_r (F := fun n (b : mH × Int × Int) => f_Md_lays_L4 75 n b.1 b.2.1 b.2.2) (P := fun o => ∃ h' M', o = some ((3, 0), h') ∧ At h' c p L M' ∧ Fr [82] M M' ∧ ∀ b, 0 ≤ b → b < nb (M 76) → M' 82 b = dg (M 76) s b) (fun i b => b.2 = (s / pw (M 76) i, (i : Int)) ∧ ∃ M', At b.1 c p L M' ∧ Fr [82] M M' ∧ ∀ j : Int, 0 ≤ j → j < i → M' 82 j = dg (M 76) s j) (nb (M 76)).toNat (fun i hi b hb n => ?_) (fun b hb n => ?_) (i := 0) (b := (h, s, 0)) ⟨by show _ = (s / 1, _); rw [Int.ediv_one]; rfl, M, A, Fr.rf _ _, fun j g0 g1 => by omega⟩ (by omega) (by omega)
  · obtain ⟨h1, r⟩ := b
    obtain ⟨hr, M1, A1, F1, hv⟩ := hb
    have hr : r = (s / pw (M 76) i, (i : Int)) := hr
    subst hr
    have A1 : At h1 c p L M1 := A1
    right
    have B := MH.of A1
    rw [F1 76 (by decide)] at B
    have A2 := A1.aput (v := 82) i (dg (M 76) s i) (by decide) (by decide) (by decide) (by decide +kernel) (by decide) (by decide)
    have B2 := MH.of A2
    rw [mup_fn (w := 76) (by decide), F1 76 (by decide)] at B2
    have hp := W.2.2.2.2.2.1 i (by omega) (by omega)
    have hw := pw_pos (W.pp.mono (show i ≤ (nb (M 76)).toNat by omega))
    have hd : 0 ≤ s / pw (M 76) i := Int.ediv_nonneg hs0 (by omega)
    have hd2 : s / pw (M 76) i ≤ s := Int.ediv_le_self _ hs0
    have e2 : 0 ≤ s / pw (M 76) i / pl (M 76) i := Int.ediv_nonneg hd (by omega)
    have e3 : s / pw (M 76) i / pl (M 76) i ≤ s / pw (M 76) i := Int.ediv_le_self _ hd
    have e4 : Int.tmod (s / pw (M 76) i) (pl (M 76) i) = dg (M 76) s i := by
      rw [Int.tmod_eq_emod_of_nonneg hd]; unfold dg wg; rw [Int.toNat_natCast]
    refine ⟨(hput h1 82 i (dg (M 76) s i), s / pw (M 76) (i + 1), ((i + 1 : Nat) : Int)), ⟨rfl, _, A2, F1.pu (by decide), fun j g0 g1 => ?_⟩, ?_⟩
    · by_cases e : j = i
      · rw [e, mup_eq]
      · rw [mup_ne (Or.inr e)]; exact hv j g0 (by omega)
    · show f_Md_lays_L4 75 (n + 1) h1 (s / pw (M 76) i) i = f_Md_lays_L4 75 n (hput h1 82 i (dg (M 76) s i)) (s / (pw (M 76) i * pl (M 76) i)) ((i + 1 : Nat) : Int)
      rw [f_Md_lays_L4, chk_t B.T, s_Md_bars B, bndT_ok (by decide), if_neg (by omega), chk_t B.T, chk_t B.T, s_Md_pl B W (by omega) (by omega), bndT_ok (by decide), chk_t (by omega), B.P17, chk_t B.T17, chk_t (by rw [B.L17]; omega), wth, e4, chk_t B2.T, s_Md_pl B2 W (by omega) (by omega), bndT_ok (by decide), chk_t (by omega), wtv, wtv, Int.tdiv_eq_ediv_of_nonneg hd, w32_id (by omega) (by omega), w32_n i (by omega), Int.ediv_ediv_of_nonneg (by omega)]
  · obtain ⟨h1, r⟩ := b
    obtain ⟨hr, M1, A1, F1, hv⟩ := hb
    have hr : r = (s / pw (M 76) (nb (M 76)).toNat, ((nb (M 76)).toNat : Int)) := hr
    subst hr
    have A1 : At h1 c p L M1 := A1
    have B := MH.of A1
    rw [F1 76 (by decide)] at B
    refine ⟨h1, M1, ?_, A1, F1, fun b g0 g1 => hv b g0 (by omega)⟩
    show f_Md_lays_L4 75 (n + 1) h1 (s / pw (M 76) (nb (M 76)).toNat) ((nb (M 76)).toNat : Int) = _
    rw [f_Md_lays_L4, chk_t B.T, s_Md_bars B, bndT_ok (by decide), if_pos (by omega)]
theorem s_Md_whyNow (A : At h c p L M) (W : WS (M 76)) (R : RW (M 76) (pa (M 76))) (he : M 75 19 = 0) {X : tT} (b up : Int) : ∃ h' M', f_Md_whyNow h 75 b up = some ((0, why (M 76) false X (pa (M 76)) (wS (M 76)) b up), h') ∧ At h' c p L M' ∧ Fr [82] M M' := by
  have hn := W.1
  obtain ⟨h1, M1, f1, A1, F1, hv⟩ := s_Md_laysNow A W
  have B := MH.of A
  have B1 := MH.of A1
  rw [F1 76 (by decide), F1 75 (by decide), he] at B1
  refine ⟨h1, M1, ?_, A1, F1⟩
  unfold f_Md_whyNow
  rw [chk_t B.T, f1, bndT_ok (by decide), chk_t B1.T, s_Md_worn B1 W, bndT_ok (by decide), chk_t B1.T, s_Md_whyNot (x := false) B1 W rfl (fun g => by cases g) (fun b g0 g1 => by
    have := R b g0 g1
    have := W.2.2.2.2.2.1 b g0 g1
    rw [hv b g0 g1]; omega) (mkM_rng _ _), bndT_ok (by decide)]
  congr 3
  show why (M 76) false (M1 83) (M1 82) _ b up = why (M 76) false X (pa (M 76)) (wS (M 76)) b up
  rw [why_congr (r2 := pa (M 76)) (w2 := wS (M 76)) W (fun g => by cases g) hv (fun b g0 g1 => wM_mk (by omega) g0 (by omega))]
  rfl
theorem s_Md_then {x : Bool} (A : At h c p L M) (W : WS (M 76)) (he : M 75 19 = b2i x) (hX : XO (M 76) x (M 83)) {s v w : Int} (hs0 : 0 ≤ s) (hs1 : s < nS (M 76)) (hv0 : 0 ≤ v) (hv1 : v < 2 * nb (M 76)) (hw : -2147483648 ≤ w ∧ w < 2147483648) :
    ∃ h' M', f_Md_then h 75 s v w = some ((0, th (M 76) x (M 83) (wM w) s v), h') ∧ At h' c p L M' ∧ Fr [82] M M' := by
  have hn := W.1
  have hS := nS_rng W
  obtain ⟨h1, M1, f1, A1, F1, hv⟩ := s_Md_lays A W hs0 (by omega)
  have B := MH.of A
  have B1 := MH.of A1
  rw [F1 76 (by decide), F1 75 (by decide), F1 83 (by decide)] at B1
  refine ⟨h1, M1, ?_, A1, F1⟩
  have e1 : Int.tmod v 2 = v % 2 := Int.tmod_eq_emod_of_nonneg hv0
  have e2 : Int.tdiv v 2 = v / 2 := Int.tdiv_eq_ediv_of_nonneg hv0
  have hwg := wg_rng W (show 0 ≤ v / 2 by omega) (show v / 2 < nb (M 76) by omega)
  have hrow : ∀ b, 0 ≤ b → b < nb (M 76) → -1000 ≤ M1 82 b ∧ M1 82 b < 1000 := fun b g0 g1 => by
    rw [hv b g0 g1]
    have := dg_rw W s b g0 g1
    have := W.2.2.2.2.2.1 b g0 g1
    omega
  have e21 : ∀ u : Int, u = v % 2 → f_Md_then_J21 75 s v w 75 (v / 2) u h1 = some ((0, th (M 76) x (M 83) (wM w) s v), h1) := by
    intro u hu
    unfold f_Md_then_J21
    rw [chk_t B1.T, s_Md_whyNot B1 W he hX hrow hw, bndT_ok (by decide), why_congr (r2 := dg (M 76) s) (w2 := wM w) W (fun g => ⟨(hX g).2.1, (hX g).2.2⟩) hv (fun _ _ _ => rfl), hu]
    unfold th go
    by_cases g : why (M 76) x (M 83) (dg (M 76) s) (wM w) (v / 2) (v % 2) = 0
    · rw [if_pos g, decide_eq_true g, if_pos rfl, chk_t (by decide), e1, e2]
      unfold sf
      by_cases g2 : v % 2 = 1
      · rw [if_pos g2, if_neg (by omega), chk_t (by decide), chk_t B1.T, w32_id (by omega) (by omega), s_Md_weight B1 W (by omega) (by omega), bndT_ok (by decide), w32_id (by omega) (by omega)]
      · rw [if_neg g2, if_pos (by omega), chk_t (by decide), chk_t B1.T, w32_id (by omega) (by omega), s_Md_weight B1 W (by omega) (by omega), bndT_ok (by decide), w32_id (by omega) (by omega)]
        rfl
    · rw [if_neg g, decide_eq_false g, if_neg (by decide)]
  unfold f_Md_then
  rw [chk_t B.T, f1, bndT_ok (by decide), chk_t (by decide), chk_t (by decide), e1, e2, w32_id (by omega) (by omega)]
  by_cases g : v % 2 = 1
  · rw [if_pos g, e21 1 g.symm]
  · rw [if_neg g, e21 0 (by omega)]
end
