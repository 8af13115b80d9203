/-! THE REFERENCE'S CALLS -/
def rL : List Int := [78, 82, 83, 84, 85, 86, 87, 88, 89, 90, 91, 92, 93, 94, 95]
def rS : List Int := [5, 20, 21, 24, 32, 34]
abbrev FM : aM → aM → Prop := Fs rL 75 rS
/-- answers y (x, if nothing is thrown), thrown is k -/
def RV (c : Int) (p L : Int → Int) (M : aM) (tg : Nat) (f : Option mR) (x k : Int) : Prop := ∃ h' M' y, f = some ((tg, y), h') ∧ (k = 0 → y = x) ∧ At h' c p L M' ∧ FM M M' ∧ M' 75 5 = k
def RI (M : aM) (t : tT) : Prop := M 76 = t ∧ WS t ∧ RW t (pa t) ∧ M 75 19 = 0
section
variable {h : mH} {c : Int} {p L : Int → Int} {M : aM} {t : tT}
theorem RI.fm {M' : aM} (I : RI M t) (F : FM M M') : RI M' t := ⟨by rw [F.1 76 (by decide) (by decide)]; exact I.1, I.2.1, I.2.2.1, by rw [F.2 19 (by decide)]; exact I.2.2.2⟩
theorem RI.mh (I : RI M t) (A : At h c p L M) : MH h t (M 82) (M 83) (M 75 19) := by
  have := MH.of A
  rw [I.1] at this; exact this
theorem RV_mv {M1 : aM} {tg : Nat} {f : Option mR} {x k : Int} (F : FM M M1) (r : RV c p L M1 tg f x k) : RV c p L M tg f x k := by
  obtain ⟨h', M', y, a, b, d, e, g⟩ := r
  exact ⟨h', M', y, a, b, d, F.tr e, g⟩
theorem RV_ok (A : At h c p L M) {tg : Nat} {x k : Int} (hk : M 75 5 = k) : RV c p L M tg (some ((tg, x), h)) x k := ⟨h, M, x, rfl, fun _ => rfl, A, Fs.rf _ _ _ _, hk⟩
theorem RV_no (A : At h c p L M) {tg : Nat} {x y k : Int} (hk : M 75 5 = k) (h0 : k ≠ 0) : RV c p L M tg (some ((tg, y), h)) x k := ⟨h, M, y, rfl, fun q => absurd q h0, A, Fs.rf _ _ _ _, hk⟩
theorem At.thr (A : At h c p L M) (k : Int) : At (hput h 75 5 k) c p L (mup M 75 5 k) := A.fput (v := 75) (i := 5) k (by decide) (by decide) (by decide) (by decide +kernel) (by decide)
theorem FM.thr (M : aM) (k : Int) : FM M (mup M 75 5 k) := (Fs.rf _ _ _ _).ps (by decide)
theorem Fr.fm {M' : aM} {l : List Int} (F : Fr l M M') (hl : ∀ v ∈ l, v ∈ rL) (h75 : (75 : Int) ∉ l) : FM M M' := (F.fs (d := 75) (is := []) h75).mono hl (fun _ q => by cases q)
theorem FL.fm {M' : aM} (F : FL M M') : FM M M' := F.mono (by decide) (by decide)
theorem thr_eq (M : aM) (k : Int) : mup M 75 5 k 75 5 = k := mup_eq _ _ _ _
theorem r_fails (A : At h c p L M) (k : Int) : f_Md_fails h 75 k = some ((0, 0), hput h 75 5 k) := by
  have C := (MH.of A).T
  unfold f_Md_fails
  rw [chk_t C, wth]
theorem r_fault (A : At h c p L M) (w : Int) : RV c p L M 0 (f_Md_fault h 75 w) (if w = 0 then M 75 15 else if w = 1 then M 75 16 else -1) 0 := by
  have A1 := A.thr 0
  have C1 := A1.md
  unfold f_Md_fault
  rw [chk_t (MH.of A).T, wth]
  refine RV_mv (FM.thr M 0) ?_
  simp only [C1]
  by_cases g : w = 0
  · rw [if_pos g, if_pos g, chk_t trivial, mup_ne (Or.inr (by decide))]; exact RV_ok A1 (thr_eq _ _)
  · rw [if_neg g, if_neg g]
    by_cases g1 : w = 1
    · rw [if_pos g1, if_pos g1, chk_t trivial, mup_ne (Or.inr (by decide))]; exact RV_ok A1 (thr_eq _ _)
    · rw [if_neg g1, if_neg g1]; exact RV_ok A1 (thr_eq _ _)
theorem b2d {P Q : Prop} [Decidable P] [Decidable Q] (h : P ∧ Q) : b2i (decide P && decide Q) = 1 := by rw [decide_eq_true h.1, decide_eq_true h.2]; rfl
theorem b2n {P Q : Prop} [Decidable P] [Decidable Q] (h : ¬ (P ∧ Q)) : b2i (decide P && decide Q) = 0 := by
  by_cases g : P
  · rw [decide_eq_false (fun q => h ⟨g, q⟩), Bool.and_false]; rfl
  · rw [decide_eq_false g]; rfl
theorem r_bar (A : At h c p L M) (I : RI M t) (b w : Int) : RV c p L M 0 (f_Md_bar h 75 b w) (baV t b w) (if 0 ≤ b ∧ b < nb t then (if 0 ≤ w ∧ w ≤ 5 then 0 else 2) else 1) := by
  have W := I.2.1
  have hn := W.1
  have A1 := A.thr 0
  have I1 := I.fm (FM.thr M 0)
  have B1 := I1.mh A1
  unfold f_Md_bar
  rw [chk_t (MH.of A).T, wth, chk_t B1.T, s_Md_isBar B1 W, bndT_ok (by decide)]
  refine RV_mv (FM.thr M 0) ?_
  by_cases g : 0 ≤ b ∧ b < nb t
  · rw [if_pos g, b2d g, if_neg (by decide), s_Md_amid, bndT_ok (by decide)]
    by_cases g1 : 0 ≤ w ∧ w ≤ 5
    · rw [if_pos g1, b2d g1, if_neg (by decide)]
      by_cases g3 : 3 ≤ w
      · rw [if_pos g3]
        by_cases e3 : w = 3
        · rw [if_pos e3, chk_t B1.T, s_Md_md B1 W g.1 g.2, bndT_ok (by decide), e3]; exact RV_ok A1 (thr_eq _ _)
        · rw [if_neg e3]
          by_cases e4 : w = 4
          · subst e4
            have e : baV t b 4 = b2i (wS t b) := rfl
            rw [if_pos rfl, chk_t B1.T, s_Md_isWorn B1 W g.1 g.2, bndT_ok (by decide), e]
            cases wS t b
            · exact RV_ok A1 (thr_eq _ _)
            · exact RV_ok A1 (thr_eq _ _)
          · have e5 : w = 5 := by omega
            subst e5
            have e : baV t b 5 = cnN (fun r => decide (rb t r = b)) (nr t).toNat := rfl
            have hr := W.2.1
            rw [if_neg e4, e]
            refine loop_r (F := fun n (x : Int × Int) => f_Md_bar_L86 75 b n (hput h 75 5 0) x.1 x.2) (P := fun o => RV c p L (mup M 75 5 0) 0 o (cnN (fun r => decide (rb t r = b)) (nr t).toNat) 0) (fun i x => x = (cnN (fun r => decide (rb t r = b)) i, (i : Int))) (nr t).toNat (fun i hi x hx n => ?_) (fun x hx n => ?_) (i := 0) (b := (0, 0)) rfl (by omega) (by omega)
            · subst hx
              right
              have hc := cnN_rng (fun r => decide (rb t r = b)) i
              refine ⟨_, rfl, ?_⟩
              show f_Md_bar_L86 75 b (n + 1) (hput h 75 5 0) (cnN (fun r => decide (rb t r = b)) i) i = f_Md_bar_L86 75 b n (hput h 75 5 0) (cnN (fun r => decide (rb t r = b)) i + (if decide (rb t i = b) = true then 1 else 0)) ((i + 1 : Nat) : Int)
              have e1 : w32 (41 + w32 (16 * (i : Int))) = 41 + 16 * i := by rw [w32_id (x := 16 * (i : Int)) (by omega) (by omega), w32_id (by omega) (by omega)]
              rw [f_Md_bar_L86, chk_t B1.T, B1.P0, chk_t B1.T0, chk_t (by rw [B1.L0]; decide), B1.V0, show t 2 = nr t from rfl, if_neg (by omega), chk_t B1.T, chk_t B1.T0, e1, chk_t (by rw [B1.L0]; omega), B1.V0, show t (41 + 16 * (i : Int)) = rb t i from rfl]
              unfold f_Md_bar_J120
              by_cases q : rb t i = b
              · rw [if_pos q, if_pos (decide_eq_true q), wtv, wtv, w32_id (by omega) (by omega), w32_n i (by omega)]
              · rw [if_neg q, if_neg (by rw [decide_eq_false q]; decide), wtv, wtv, w32_id (by omega) (by omega), w32_n i (by omega)]
            · subst hx
              show RV c p L (mup M 75 5 0) 0 (f_Md_bar_L86 75 b (n + 1) (hput h 75 5 0) (cnN (fun r => decide (rb t r = b)) (nr t).toNat) ((nr t).toNat : Int)) _ 0
              rw [f_Md_bar_L86, chk_t B1.T, B1.P0, chk_t B1.T0, chk_t (by rw [B1.L0]; decide), B1.V0, show t 2 = nr t from rfl, if_pos (by omega)]
              exact RV_ok A1 (thr_eq _ _)
      · rw [if_neg g3, chk_t B1.T, s_Md_of B1 W g.1 (by omega) g1.1 (by omega), bndT_ok (by decide)]
        have e : baV t b w = t (5 + 4 * b + w) := by
          unfold baV
          have : w = 0 ∨ w = 1 ∨ w = 2 := by omega
          rcases this with rfl | rfl | rfl
          · rw [if_pos rfl, Int.add_zero]; rfl
          · rw [if_neg (by decide), if_pos rfl]; unfold pa; congr 1; omega
          · rw [if_neg (by decide), if_neg (by decide), if_pos rfl]; unfold po; congr 1; omega
        rw [e]; exact RV_ok A1 (thr_eq _ _)
    · rw [if_neg g1, b2n g1, if_pos rfl, chk_t B1.T, r_fails A1, bndT_ok (by decide)]
      exact RV_mv (FM.thr _ 2) (RV_no (A1.thr 2) (thr_eq _ _) (by decide))
  · rw [if_neg g, b2n g, if_pos rfl, chk_t B1.T, r_fails A1, bndT_ok (by decide)]
    exact RV_mv (FM.thr _ 1) (RV_no (A1.thr 1) (thr_eq _ _) (by decide))
theorem r_rule (A : At h c p L M) (I : RI M t) (r w : Int) : RV c p L M 0 (f_Md_rule h 75 r w) (ruV t r w) (if 0 ≤ r ∧ r < nr t then (if 0 ≤ w ∧ w ≤ 4 then 0 else 2) else 1) := by
  have W := I.2.1
  have hn := W.1
  have hr := W.2.1
  have A1 := A.thr 0
  have I1 := I.fm (FM.thr M 0)
  have B1 := I1.mh A1
  unfold f_Md_rule
  rw [chk_t (MH.of A).T, wth, chk_t B1.T, B1.P0, chk_t B1.T0, chk_t (by rw [B1.L0]; decide), B1.V0, show t 2 = nr t from rfl, w32_id (by omega) (by omega), s_Md_amid, bndT_ok (by decide), show decide (r ≤ nr t - 1) = decide (r < nr t) from by congr 1; apply propext; omega]
  refine RV_mv (FM.thr M 0) ?_
  by_cases g : 0 ≤ r ∧ r < nr t
  · rw [if_pos g, b2d g, if_neg (by decide), s_Md_amid, bndT_ok (by decide)]
    by_cases g1 : 0 ≤ w ∧ w ≤ 4
    · obtain ⟨h2, M2, f2, A2, F2, hv⟩ := s_Md_laysNow A1 (by rw [I1.1]; exact W)
      rw [I1.1] at hv
      have F2' : FM (mup M 75 5 0) M2 := F2.fm (by decide) (by decide)
      have I2 := I1.fm F2'
      have B2 := I2.mh A2
      have e5 : M2 75 5 = 0 := by rw [F2 75 (by decide)]; exact thr_eq _ _
      have e1 : w32 (41 + w32 (16 * r)) = 41 + 16 * r := by rw [w32_id (x := 16 * r) (by omega) (by omega), w32_id (by omega) (by omega)]
      rw [if_pos g1, b2d g1, if_neg (by decide), chk_t B1.T, f2, bndT_ok (by decide)]
      refine RV_mv F2' ?_
      by_cases g4 : 4 ≤ w
      · have e4 : w = 4 := by omega
        subst e4
        have e : ruV t r 4 = b2i (hR t (pa t) r) := rfl
        rw [if_pos g4, chk_t B2.T, chk_t B2.T, B2.P0, e1, s_Md_hR B2 W g.1 g.2, bndT_ok (by decide), fT_congr W hv g.1 g.2, e]
        cases hR t (pa t) r
        · exact RV_ok A2 e5
        · exact RV_ok A2 e5
      · rw [if_neg g4, chk_t B2.T, B2.P0, chk_t B2.T0, e1, w32_id (by omega) (by omega), chk_t (by rw [B2.L0]; omega), B2.V0]
        have e : ruV t r w = t (41 + 16 * r + w) := by
          unfold ruV
          have : w = 0 ∨ w = 1 ∨ w = 2 ∨ w = 3 := by omega
          rcases this with rfl | rfl | rfl | rfl
          · rw [if_pos rfl, Int.add_zero]; rfl
          · rw [if_neg (by decide), if_pos rfl]; unfold rf; congr 1; omega
          · rw [if_neg (by decide), if_neg (by decide), if_pos rfl]; unfold rt; congr 1; omega
          · rw [if_neg (by decide), if_neg (by decide), if_neg (by decide), if_pos rfl]; unfold rn; congr 1; omega
        rw [e]; exact RV_ok A2 e5
    · rw [if_neg g1, b2n g1, if_pos rfl, chk_t B1.T, r_fails A1, bndT_ok (by decide)]
      exact RV_mv (FM.thr _ 2) (RV_no (A1.thr 2) (thr_eq _ _) (by decide))
  · rw [if_neg g, b2n g, if_pos rfl, chk_t B1.T, r_fails A1, bndT_ok (by decide)]
    exact RV_mv (FM.thr _ 1) (RV_no (A1.thr 1) (thr_eq _ _) (by decide))
theorem r_stand (A : At h c p L M) (I : RI M t) : RV c p L M 0 (f_Md_stand h 75) (if 20000 < nS t then -1000 else st t (pa t)) 0 := by
  have W := I.2.1
  have A1 := A.thr 0
  have B1 := (I.fm (FM.thr M 0)).mh A1
  unfold f_Md_stand
  rw [chk_t (MH.of A).T, wth, chk_t B1.T, s_Md_isSpent B1 W, bndT_ok (by decide)]
  refine RV_mv (FM.thr M 0) ?_
  by_cases g : 20000 < nS t
  · rw [if_pos g, decide_eq_true g, if_neg (by decide)]; exact RV_ok A1 (thr_eq _ _)
  · rw [if_neg g, decide_eq_false g, if_pos (by decide), chk_t B1.T, s_Md_standNow B1 W I.2.2.1, bndT_ok (by decide)]; exact RV_ok A1 (thr_eq _ _)
theorem s_Md_isStand (A : At h c p L M) (I : RI M t) (s : Int) : f_Md_isStand h 75 s = some ((0, b2i (decide (0 ≤ s) && decide (s < nS t))), h) := by
  have B := I.mh A
  have hS := nS_rng I.2.1
  unfold f_Md_isStand
  rw [chk_t B.T, s_Md_stands B I.2.1, bndT_ok (by decide), w32_id (by omega) (by omega), s_Md_amid, bndT_ok (by decide), chk_t (b2i_01 _), show decide (s ≤ nS t - 1) = decide (s < nS t) from by congr 1; apply propext; omega]
theorem s_Md_spent (A : At h c p L M) (I : RI M t) : f_Md_isSpent h 75 = some ((0, if nS t ≤ 20000 then 0 else 1), h) := by
  rw [s_Md_isSpent (I.mh A) I.2.1]
  by_cases g : nS t ≤ 20000
  · rw [if_pos g, decide_eq_false (by omega)]; rfl
  · rw [if_neg g, decide_eq_true (by omega)]; rfl
theorem r_placeIn (A : At h c p L M) (I : RI M t) (s b : Int) : RV c p L M 0 (f_Md_placeIn h 75 s b) (dg t s b) (if (0 ≤ b ∧ b < nb t) ∧ 0 ≤ s ∧ s < nS t then (if nS t ≤ 20000 then 0 else 2) else 1) := by
  have W := I.2.1
  have B := I.mh A
  have j34 : ∀ k : Int, 0 ≤ k → ((k = 0) → (0 ≤ b ∧ b < nb t) ∧ (0 ≤ s ∧ s < nS t) ∧ nS t ≤ 20000) → RV c p L M 0 (f_Md_placeIn_J34 75 s b 75 k h) (dg t s b) k := by
    intro k h0 hk
    have A1 := A.thr k
    have B1 := (I.fm (FM.thr M k)).mh A1
    have C1 := A1.md
    unfold f_Md_placeIn_J34
    rw [chk_t B.T, wth]
    refine RV_mv (FM.thr M k) ?_
    simp only [C1]
    rw [chk_t trivial, mup_eq]
    by_cases g : k = 0
    · have := hk g
      rw [if_pos (by omega), chk_t trivial, s_Md_placeOf B1 W this.2.1.1 (by omega) this.1.1 this.1.2, bndT_ok (by decide)]
      exact RV_ok A1 (thr_eq _ _)
    · rw [if_neg (by omega)]; exact RV_no A1 (thr_eq _ _) g
  unfold f_Md_placeIn f_Md_placeIn_J18
  rw [chk_t B.T, s_Md_isBar B W, bndT_ok (by decide)]
  by_cases g : 0 ≤ b ∧ b < nb t
  · rw [b2d g, if_neg (by decide), chk_t B.T, s_Md_isStand A I, bndT_ok (by decide)]
    by_cases g1 : 0 ≤ s ∧ s < nS t
    · rw [b2d g1, if_neg (by decide), chk_t B.T, s_Md_spent A I, bndT_ok (by decide), if_pos (show (0 ≤ b ∧ b < nb t) ∧ 0 ≤ s ∧ s < nS t from ⟨g, g1⟩)]
      by_cases g2 : nS t ≤ 20000
      · rw [if_pos g2, if_pos rfl, if_pos g2]; exact j34 0 (by decide) (fun _ => ⟨g, g1, g2⟩)
      · rw [if_neg g2, if_neg (by decide), if_neg g2]; exact j34 2 (by decide) (fun q => absurd q (by decide))
    · rw [b2n g1, if_pos rfl, if_neg (fun q => g1 q.2)]; exact j34 1 (by decide) (fun q => absurd q (by decide))
  · rw [b2n g, if_pos rfl, if_neg (fun q => g q.1)]; exact j34 1 (by decide) (fun q => absurd q (by decide))
theorem s_Md_isOpenNow (A : At h c p L M) (I : RI M t) : f_Md_isOpenNow h 75 = some ((0, b2i (isO t)), h) := by
  have W := I.2.1
  have B := I.mh A
  have hn := W.1
  unfold f_Md_isOpenNow
  refine loop_r (F := fun n (b : Int) => f_Md_isOpenNow_L2 75 n h b) (P := fun o => o = some ((0, b2i (isO t)), h)) (fun i b => b = (i : Int) ∧ allN (fun b => decide (pa t b = po t b)) i = true) (nb t).toNat (fun i hi b hb n => ?_) (fun b hb n => ?_) (i := 0) (b := 0) ⟨rfl, rfl⟩ (by omega) (by omega)
  · obtain ⟨rfl, hb⟩ := hb
    show f_Md_isOpenNow_L2 75 (n + 1) h i = _ ∨ ∃ b', _ ∧ f_Md_isOpenNow_L2 75 (n + 1) h i = _
    rw [f_Md_isOpenNow_L2, chk_t B.T, s_Md_bars B, bndT_ok (by decide), if_neg (by omega), chk_t B.T, s_Md_pa B W (by omega) (by omega), bndT_ok (by decide), chk_t B.T, s_Md_po B W (by omega) (by omega), bndT_ok (by decide)]
    by_cases e : pa t i = po t i
    · right
      rw [if_pos e, wtv, w32_n i (by omega)]
      exact ⟨_, ⟨rfl, by rw [allN, hb, decide_eq_true e]; rfl⟩, rfl⟩
    · left
      have : isO t = false := by
        cases q : isO t
        · rfl
        · exact absurd (of_decide_eq_true (allN_iff.mp q i (by omega) (by omega))) e
      rw [if_neg e, chk_t (Or.inl rfl), this]; rfl
  · obtain ⟨rfl, hb⟩ := hb
    show f_Md_isOpenNow_L2 75 (n + 1) h _ = _
    rw [f_Md_isOpenNow_L2, chk_t B.T, s_Md_bars B, bndT_ok (by decide), if_pos (by omega), chk_t (Or.inr rfl), show isO t = true from hb]; rfl
theorem r_isOpen (A : At h c p L M) (I : RI M t) : RV c p L M 0 (f_Md_isOpen h 75) (b2i (isO t)) 0 := by
  have A1 := A.thr 0
  have I1 := I.fm (FM.thr M 0)
  unfold f_Md_isOpen
  rw [chk_t (MH.of A).T, wth, chk_t (I1.mh A1).T, s_Md_isOpenNow A1 I1, bndT_ok (by decide), chk_t (b2i_01 _)]
  exact RV_mv (FM.thr M 0) (RV_ok A1 (thr_eq _ _))
theorem s_whyNow (A : At h c p L M) (I : RI M t) (b up : Int) : ∃ h' M', f_Md_whyNow h 75 b up = some ((0, wy0 t b up), h') ∧ At h' c p L M' ∧ Fr [82] M M' := by
  obtain ⟨h1, M1, f1, A1, F1⟩ := s_Md_whyNow A (by rw [I.1]; exact I.2.1) (by rw [I.1]; exact I.2.2.1) I.2.2.2 (X := X0) b up
  rw [I.1] at f1
  exact ⟨h1, M1, f1, A1, F1⟩
theorem r_may (A : At h c p L M) (I : RI M t) (b up : Int) : RV c p L M 0 (f_Md_may h 75 b up) (why t false X0 (pa t) (wS t) b up) 0 := by
  have A1 := A.thr 0
  have I1 := I.fm (FM.thr M 0)
  obtain ⟨h2, M2, f2, A2, F2⟩ := s_whyNow A1 I1 b up
  unfold f_Md_may
  rw [chk_t (MH.of A).T, wth, chk_t (I1.mh A1).T, f2, bndT_ok (by decide)]
  exact RV_mv ((FM.thr M 0).tr (F2.fm (by decide) (by decide))) (RV_ok A2 (by rw [F2 75 (by decide)]; exact thr_eq _ _))
theorem r_count (A : At h c p L M) (I : RI M t) {m : Int} (hm : m ≤ 100000) (D : MDB t m) (w : Int) : RV c p L M 0 (f_Md_count h 75 w) (coV t (M 75 7) w) 0 := by
  have W := I.2.1
  have hn := W.1
  have A1 := A.thr 0
  have I1 := I.fm (FM.thr M 0)
  have B1 := I1.mh A1
  have C1 := A1.md
  have e7 : mup M 75 5 0 75 7 = M 75 7 := mup_ne (Or.inr (by decide))
  unfold f_Md_count
  rw [chk_t (MH.of A).T, wth]
  refine RV_mv (FM.thr M 0) ?_
  refine loop_r (F := fun n (x : Int × Int) => f_Md_count_L9 (fun h2 x3 => (if w = 0 then f_Md_count_J80 75 h2 else if w = 1 then f_Md_count_J87 75 h2 else if w = 2 then f_Md_count_J92 75 h2 else if w = 3 then f_Md_count_J99 75 h2 else if w = 4 then f_Md_count_J106 75 h2 else if w = 5 then f_Md_count_J113 75 h2 else if w = 6 then some ((0, x3), h2) else if w = 7 then f_Md_count_J120 75 h2 else some ((0, (-1)), h2))) 75 n (hput h 75 5 0) x.1 x.2) (P := fun o => RV c p L (mup M 75 5 0) 0 o (coV t (M 75 7) w) 0) (fun i x => x = (smN (md t) i, (i : Int))) (nb t).toNat (fun i hi x hx n => ?_) (fun x hx n => ?_) (i := 0) (b := (0, 0)) rfl (by omega) (by omega)
  · subst hx
    right
    have hs := smN_rng (f := md t) (m := 100000) (n := i) (fun j g0 g1 => by have := D j g0 (by omega); omega)
    have hd := D i (by omega) (by omega)
    refine ⟨_, rfl, ?_⟩
    show f_Md_count_L9 _ 75 (n + 1) (hput h 75 5 0) (smN (md t) i) i = f_Md_count_L9 _ 75 n (hput h 75 5 0) (smN (md t) i + md t i) ((i + 1 : Nat) : Int)
    rw [f_Md_count_L9, chk_t B1.T, s_Md_bars B1, bndT_ok (by decide), if_neg (by omega), chk_t B1.T, s_Md_md B1 W (by omega) (by omega), bndT_ok (by decide), wtv, wtv, w32_id (by omega) (by omega), w32_n i (by omega)]
  · subst hx
    show RV c p L (mup M 75 5 0) 0 (f_Md_count_L9 _ 75 (n + 1) (hput h 75 5 0) (smN (md t) (nb t).toNat) ((nb t).toNat : Int)) _ 0
    rw [f_Md_count_L9, chk_t B1.T, s_Md_bars B1, bndT_ok (by decide), if_pos (by omega)]
    unfold coV
    by_cases g0 : w = 0
    · rw [if_pos g0, if_pos g0]; unfold f_Md_count_J80; rw [chk_t B1.T, B1.P0, chk_t B1.T0, chk_t (by rw [B1.L0]; decide), B1.V0]; exact RV_ok A1 (thr_eq _ _)
    rw [if_neg g0, if_neg g0]
    by_cases g1 : w = 1
    · rw [if_pos g1, if_pos g1]; unfold f_Md_count_J87; rw [chk_t B1.T, s_Md_bars B1, bndT_ok (by decide)]; exact RV_ok A1 (thr_eq _ _)
    rw [if_neg g1, if_neg g1]
    by_cases g2 : w = 2
    · rw [if_pos g2, if_pos g2]; unfold f_Md_count_J92; rw [chk_t B1.T, B1.P0, chk_t B1.T0, chk_t (by rw [B1.L0]; decide), B1.V0]; exact RV_ok A1 (thr_eq _ _)
    rw [if_neg g2, if_neg g2]
    by_cases g3 : w = 3
    · rw [if_pos g3, if_pos g3]; unfold f_Md_count_J99; rw [chk_t B1.T, B1.P0, chk_t B1.T0, chk_t (by rw [B1.L0]; decide), B1.V0]; exact RV_ok A1 (thr_eq _ _)
    rw [if_neg g3, if_neg g3]
    by_cases g4 : w = 4
    · rw [if_pos g4, if_pos g4]; unfold f_Md_count_J106; rw [chk_t B1.T, B1.P0, chk_t B1.T0, chk_t (by rw [B1.L0]; decide), B1.V0]; exact RV_ok A1 (thr_eq _ _)
    rw [if_neg g4, if_neg g4]
    by_cases g5 : w = 5
    · rw [if_pos g5, if_pos g5]; unfold f_Md_count_J113; rw [chk_t B1.T, s_Md_stands B1 W, bndT_ok (by decide)]; exact RV_ok A1 (thr_eq _ _)
    rw [if_neg g5, if_neg g5]
    by_cases g6 : w = 6
    · rw [if_pos g6, if_pos g6]; exact RV_ok A1 (thr_eq _ _)
    rw [if_neg g6, if_neg g6]
    by_cases g7 : w = 7
    · rw [if_pos g7, if_pos g7]; unfold f_Md_count_J120; simp only [C1]; rw [chk_t trivial, e7]; exact RV_ok A1 (thr_eq _ _)
    rw [if_neg g7, if_neg g7]; exact RV_ok A1 (thr_eq _ _)
theorem qlshl1 {n : Int} (h0 : 1 ≤ n) (h1 : n ≤ 30) : qlshl 1 n = 2 ^ n.toNat := by
  have H : ∀ m : Fin 31, qlshl 1 ((m.val : Nat) : Int) = 2 ^ m.val := by decide +kernel
  have := H ⟨n.toNat, by omega⟩
  rw [show ((n.toNat : Nat) : Int) = n by omega] at this
  exact this
theorem s_Md_isHalves (h : mH) (n x : Int) : f_Md_isHalves h n x = some ((0, if (1 ≤ n ∧ n ≤ 30) ∧ 0 ≤ x ∧ x < 2 ^ n.toNat then 1 else 0), h) := by
  unfold f_Md_isHalves f_Md_isHalves_J30
  rw [s_Md_amid, bndT_ok (by decide)]
  by_cases g : 1 ≤ n ∧ n ≤ 30
  · have hp := pow30 g.1 g.2
    have hp2 : (0 : Int) < 2 ^ n.toNat := Int.pow_pos (by decide)
    rw [b2d g, if_neg (by decide), qlshl1 g.1 g.2, w64_id (by omega) (by omega), s_Md_amid, bndT_ok (by decide)]
    by_cases g1 : 0 ≤ x ∧ x ≤ 2 ^ n.toNat - 1
    · rw [b2d g1, if_neg (by decide), chk_t (by decide), if_pos ⟨g, g1.1, by omega⟩]
    · rw [b2n g1, if_pos rfl, chk_t (by decide), if_neg (fun q => g1 ⟨q.2.1, by omega⟩)]
  · rw [b2n g, if_pos rfl, chk_t (by decide), if_neg (fun q => g q.1)]
theorem r_halves (A : At h c p L M) (n x : Int) : RV c p L M 0 (f_Md_halves h 75 n x) (hvV x) (if (1 ≤ n ∧ n ≤ 30) ∧ 0 ≤ x ∧ x < 2 ^ n.toNat then 0 else 1) := by
  have B := MH.of A
  unfold f_Md_halves
  rw [s_Md_isHalves, bndT_ok (by decide)]
  by_cases g : (1 ≤ n ∧ n ≤ 30) ∧ 0 ≤ x ∧ x < 2 ^ n.toNat
  · have hp := pow30 g.1.1 g.1.2
    have A1 := A.thr 0
    have C1 := A1.md
    rw [if_pos g, if_neg (by decide), if_pos g]
    unfold f_Md_halves_J14
    rw [chk_t B.T, wth]
    simp only [C1]
    rw [chk_t trivial, mup_eq, if_pos (by decide), s_Md_counted _ _ g.2.1 (by omega), bndT_ok (by decide)]
    exact RV_mv (FM.thr M 0) (RV_ok A1 (thr_eq _ _))
  · have A1 := A.thr 1
    have C1 := A1.md
    rw [if_neg g, if_pos rfl, if_neg g]
    unfold f_Md_halves_J14
    rw [chk_t B.T, wth]
    simp only [C1]
    rw [chk_t trivial, mup_eq, if_neg (by decide)]
    exact RV_mv (FM.thr M 1) (RV_no A1 (thr_eq _ _) (by decide))
theorem r_halvesFirst (A : At h c p L M) (n x : Int) : RV c p L M 0 (f_Md_halvesFirst h 75 n x) (if x = 0 then -1 else tzV (hvV x)) (if (1 ≤ n ∧ n ≤ 30) ∧ 0 ≤ x ∧ x < 2 ^ n.toNat then 0 else 1) := by
  have B := MH.of A
  unfold f_Md_halvesFirst
  rw [s_Md_isHalves, bndT_ok (by decide)]
  by_cases g : (1 ≤ n ∧ n ≤ 30) ∧ 0 ≤ x ∧ x < 2 ^ n.toNat
  · have hp := pow30 g.1.1 g.1.2
    have A1 := A.thr 0
    have C1 := A1.md
    rw [if_pos g, if_neg (by decide), if_pos g]
    unfold f_Md_halvesFirst_J14 f_Md_halvesFirst_J28
    rw [chk_t B.T, wth]
    refine RV_mv (FM.thr M 0) ?_
    simp only [C1]
    rw [chk_t trivial, mup_eq, if_neg (by decide)]
    by_cases g0 : x = 0
    · rw [if_pos g0, if_pos g0, chk_t trivial, if_pos (by decide)]; exact RV_ok A1 (thr_eq _ _)
    · have hr := hvV_rng g.2.1 (by omega)
      have hne : hvV x ≠ 0 := fun e => g0 (hvV_0 g.2.1 (by omega) e)
      obtain ⟨b, hb, ⟨k, hk, e⟩, e2⟩ := tz_ex (y := hvV x) (by omega) hr.2
      rw [if_neg g0, if_neg g0, s_Md_counted _ _ g.2.1 (by omega), bndT_ok (by decide), e2]
      generalize hvV x = y at hr hne e
      refine loop_r (F := fun n (z : Int × Int) => f_Md_halvesFirst_L49 n (hput h 75 5 0) z.1 z.2) (P := fun o => RV c p L (mup M 75 5 0) 0 o b 0) (fun i z => z.1 = (i : Int) ∧ z.2 = 2 ^ (b - i) * (2 * k + 1) ∧ 0 ≤ z.2 ∧ z.2 < 1073741824) b (fun i hi z hz m => ?_) (fun z hz m => ?_) (i := 0) (b := (0, y)) ⟨rfl, by rw [Nat.sub_zero]; exact e, hr.1, hr.2⟩ (by omega) (by omega)
      · obtain ⟨u, v⟩ := z
        obtain ⟨q1, q2, q3, q4⟩ := hz
        have q1 : u = (i : Int) := q1
        subst q1
        have q2 : v = 2 ^ (b - i) * (2 * k + 1) := q2
        have q3 : 0 ≤ v := q3
        have q4 : v < 1073741824 := q4
        right
        have q5 : v = 2 * (2 ^ (b - (i + 1)) * (2 * k + 1)) := by
          rw [q2, show b - i = (b - (i + 1)) + 1 by omega, Int.pow_succ, Int.mul_comm (2 ^ (b - (i + 1))) 2, Int.mul_assoc]
        refine ⟨(((i + 1 : Nat) : Int), v / 2), ⟨rfl, by show v / 2 = _; omega, by show 0 ≤ v / 2; omega, by show v / 2 < _; omega⟩, ?_⟩
        show f_Md_halvesFirst_L49 (m + 1) (hput h 75 5 0) i v = f_Md_halvesFirst_L49 m (hput h 75 5 0) ((i + 1 : Nat) : Int) (v / 2)
        rw [f_Md_halvesFirst_L49, chk_t (by decide), Int.tmod_eq_emod_of_nonneg q3, if_pos (by omega), wtv, chk_t (by decide), wtv, Int.tdiv_eq_ediv_of_nonneg q3, w32_id (x := v / 2) (by omega) (by omega), w32_n i (by omega)]
      · obtain ⟨u, v⟩ := z
        obtain ⟨q1, q2, q3, q4⟩ := hz
        have q1 : u = (b : Int) := q1
        subst q1
        have q2 : v = 2 ^ (b - b) * (2 * k + 1) := q2
        have q3 : 0 ≤ v := q3
        rw [Nat.sub_self, show ((2 : Int) ^ 0) = 1 from rfl, Int.one_mul] at q2
        show RV c p L (mup M 75 5 0) 0 (f_Md_halvesFirst_L49 (m + 1) (hput h 75 5 0) b v) b 0
        rw [f_Md_halvesFirst_L49, chk_t (by decide), Int.tmod_eq_emod_of_nonneg q3, if_neg (by omega)]
        exact RV_ok A1 (thr_eq _ _)
  · have A1 := A.thr 1
    have C1 := A1.md
    rw [if_neg g, if_pos rfl, if_neg g]
    unfold f_Md_halvesFirst_J14 f_Md_halvesFirst_J28
    rw [chk_t B.T, wth]
    simp only [C1]
    rw [chk_t trivial, mup_eq, if_pos (by decide), chk_t trivial, if_neg (by decide)]
    exact RV_mv (FM.thr M 1) (RV_no A1 (thr_eq _ _) (by decide))
theorem r_stops (A : At h c p L M) (I : RI M t) (b up : Int) (hu : up = 0 ∨ up = 1) : RV c p L M 0 (f_Md_stops h 75 b up) (sto t b up) 0 := by
  have W := I.2.1
  have hn := W.1
  have A1 := A.thr 0
  have I1 := I.fm (FM.thr M 0)
  obtain ⟨h2, M2, f2, A2, F2⟩ := s_whyNow A1 I1 b up
  have F2' : FM (mup M 75 5 0) M2 := F2.fm (by decide) (by decide)
  have I2 := I1.fm F2'
  have B2 := I2.mh A2
  have e5 : M2 75 5 = 0 := by rw [F2 75 (by decide)]; exact thr_eq _ _
  have hwr := wy0_le t b up
  unfold f_Md_stops
  rw [chk_t (MH.of A).T, wth, chk_t (I1.mh A1).T, f2, bndT_ok (by decide)]
  refine RV_mv ((FM.thr M 0).tr F2') ?_
  by_cases g : 3 ≤ wy0 t b up
  · have eS : sto t b up = f1 (fun d => decide (d ≠ b) && anyN (elq t d b up) (pl t d).toNat) (nb t).toNat := by unfold sto; rw [if_neg (by omega)]
    rw [if_pos g, chk_t B2.T, s_Md_worn B2 W, bndT_ok (by decide), eS]
    have hrow : ∀ d x : Int, 0 ≤ d → d < nb t → 0 ≤ x → x < pl t d → ∀ e, 0 ≤ e → e < nb t → -1000 ≤ u1 (pa t) d x e ∧ u1 (pa t) d x e < 1000 := fun d x d0 d1 x0 x1 e e0 e1 => by
      have := W.2.2.2.2.2.1 e e0 e1
      have := W.2.2.2.2.2.1 d d0 d1
      unfold u1
      split
      · omega
      · have := I.2.2.1 e e0 e1; omega
    refine loop_r (F := fun n (y : mH × Int) => f_Md_stops_L25 75 b up (mkM (wS t) (nb t).toNat) n y.1 y.2) (P := fun o => RV c p L M2 0 o (f1 (fun d => decide (d ≠ b) && anyN (elq t d b up) (pl t d).toNat) (nb t).toNat) 0) (fun d y => y.2 = (d : Int) ∧ (∀ j, 0 ≤ j → j < (d : Int) → (decide (j ≠ b) && anyN (elq t j b up) (pl t j).toNat) = false) ∧ ∃ M', At y.1 c p L M' ∧ FM M2 M' ∧ M' 75 5 = 0) (nb t).toNat (fun d hd y hy n => ?_) (fun y hy n => ?_) (i := 0) (b := (h2, 0)) ⟨rfl, fun j g0 g1 => by omega, M2, A2, Fs.rf _ _ _ _, e5⟩ (by omega) (by omega)
    · obtain ⟨h3, r⟩ := y
      obtain ⟨hr_, hno, M3, A3_, F3, e3⟩ := hy
      have hr : r = (d : Int) := hr_
      have A3 : At h3 c p L M3 := A3_
      clear hr_ A3_
      subst hr
      have I3 := I2.fm F3
      have B3 := I3.mh A3
      have hp := W.2.2.2.2.2.1 d (by omega) (by omega)
      have next : ∀ h4 M4, At h4 c p L M4 → FM M2 M4 → M4 75 5 = 0 → (decide ((d : Int) ≠ b) && anyN (elq t d b up) (pl t d).toNat) = false → ∃ b' : mH × Int, (b'.2 = ((d + 1 : Nat) : Int) ∧ (∀ j, 0 ≤ j → j < ((d + 1 : Nat) : Int) → (decide (j ≠ b) && anyN (elq t j b up) (pl t j).toNat) = false) ∧ ∃ M', At b'.1 c p L M' ∧ FM M2 M' ∧ M' 75 5 = 0) ∧ f_Md_stops_J87 (f_Md_stops_L25 75 b up (mkM (wS t) (nb t).toNat) n) d h4 = f_Md_stops_L25 75 b up (mkM (wS t) (nb t).toNat) n b'.1 b'.2 := fun h4 M4 A4 F4 e4 hq => by
        refine ⟨(h4, ((d + 1 : Nat) : Int)), ⟨rfl, fun j g0 g1 => ?_, M4, A4, F4, e4⟩, ?_⟩
        · by_cases q : j = d
          · rw [q]; exact hq
          · exact hno j g0 (by omega)
        · unfold f_Md_stops_J87
          rw [wtv, w32_n d (by omega)]
      show RV c p L M2 0 (f_Md_stops_L25 75 b up (mkM (wS t) (nb t).toNat) (n + 1) h3 d) _ 0 ∨ ∃ b', _ ∧ f_Md_stops_L25 75 b up (mkM (wS t) (nb t).toNat) (n + 1) h3 d = _
      rw [f_Md_stops_L25, chk_t B3.T, s_Md_bars B3, bndT_ok (by decide), if_neg (by omega)]
      by_cases gb : (d : Int) = b
      · right
        have : f_Md_stops_L37 (fun h3 => f_Md_stops_J87 (f_Md_stops_L25 75 b up (mkM (wS t) (nb t).toNat) n) d h3) 75 b up (mkM (wS t) (nb t).toNat) d 1000000 h3 0 = f_Md_stops_J87 (f_Md_stops_L25 75 b up (mkM (wS t) (nb t).toNat) n) d h3 := by
          rw [show (1000000 : Nat) = 999999 + 1 from rfl, f_Md_stops_L37, chk_t B3.T, s_Md_pl B3 W (by omega) (by omega), bndT_ok (by decide), if_neg (by omega), if_pos gb]
        rw [this]
        exact next h3 M3 A3 F3 e3 (by rw [decide_eq_false (fun q => q gb)]; rfl)
      · have inner : ((decide ((d : Int) ≠ b) && anyN (elq t d b up) (pl t d).toNat) = true ∧ ∃ h4 M4, f_Md_stops_L37 (fun h3 => f_Md_stops_J87 (f_Md_stops_L25 75 b up (mkM (wS t) (nb t).toNat) n) d h3) 75 b up (mkM (wS t) (nb t).toNat) d 1000000 h3 0 = some ((0, (d : Int)), h4) ∧ At h4 c p L M4 ∧ FM M2 M4 ∧ M4 75 5 = 0) ∨ ((decide ((d : Int) ≠ b) && anyN (elq t d b up) (pl t d).toNat) = false ∧ ∃ h4 M4, f_Md_stops_L37 (fun h3 => f_Md_stops_J87 (f_Md_stops_L25 75 b up (mkM (wS t) (nb t).toNat) n) d h3) 75 b up (mkM (wS t) (nb t).toNat) d 1000000 h3 0 = f_Md_stops_J87 (f_Md_stops_L25 75 b up (mkM (wS t) (nb t).toNat) n) d h4 ∧ At h4 c p L M4 ∧ FM M2 M4 ∧ M4 75 5 = 0) := by
          refine loop_r (F := fun n' (y : mH × Int) => f_Md_stops_L37 (fun h3 => f_Md_stops_J87 (f_Md_stops_L25 75 b up (mkM (wS t) (nb t).toNat) n) d h3) 75 b up (mkM (wS t) (nb t).toNat) d n' y.1 y.2) (P := fun o => ((decide ((d : Int) ≠ b) && anyN (elq t d b up) (pl t d).toNat) = true ∧ ∃ h4 M4, o = some ((0, (d : Int)), h4) ∧ At h4 c p L M4 ∧ FM M2 M4 ∧ M4 75 5 = 0) ∨ ((decide ((d : Int) ≠ b) && anyN (elq t d b up) (pl t d).toNat) = false ∧ ∃ h4 M4, o = f_Md_stops_J87 (f_Md_stops_L25 75 b up (mkM (wS t) (nb t).toNat) n) d h4 ∧ At h4 c p L M4 ∧ FM M2 M4 ∧ M4 75 5 = 0)) (fun x y => y.2 = (x : Int) ∧ anyN (elq t d b up) x = false ∧ ∃ M', At y.1 c p L M' ∧ FM M2 M' ∧ M' 75 5 = 0) (pl t d).toNat (fun x hx y hy n' => ?_) (fun y hy n' => ?_) (i := 0) (b := (h3, 0)) ⟨rfl, rfl, M3, A3, F3, e3⟩ (by omega) (by omega)
          · obtain ⟨h4, r⟩ := y
            obtain ⟨hr_, ha, M4, A4_, F4, e4⟩ := hy
            have hr : r = (x : Int) := hr_
            have A4 : At h4 c p L M4 := A4_
            clear hr_ A4_
            subst hr
            have I4 := I2.fm F4
            have B4 := I4.mh A4
            obtain ⟨h5, M5, f5, A5, F5, hv5⟩ := s_Md_laysNow A4 (by rw [I4.1]; exact W)
            rw [I4.1] at hv5
            have F5' : FM M2 M5 := F4.tr (F5.fm (by decide) (by decide))
            have B5 := (I2.fm F5').mh A5
            have A6 := A5.aput (v := 82) d x (by decide) (by decide) (by decide) (by decide +kernel) (by decide) (by decide)
            have F6 : FM M2 (mup M5 82 d x) := F5'.pu (by decide) (by decide)
            have I6 := I2.fm F6
            have B6 := I6.mh A6
            have hv6 : ∀ e, 0 ≤ e → e < nb t → mup M5 82 d x 82 e = u1 (pa t) d x e := fun e e0 e1 => by
              unfold u1
              by_cases q : e = d
              · rw [if_pos q, q, mup_eq]
              · rw [if_neg q, mup_ne (Or.inr q), hv5 e e0 e1]
            have ew : f_Md_whyNot (hput h5 82 d x) 75 b up (mkM (wS t) (nb t).toNat) = some ((0, why t false X0 (u1 (pa t) d x) (wS t) b up), hput h5 82 d x) := by
              rw [s_Md_whyNot (x := false) B6 W I6.2.2.2 (fun q => by cases q) (fun e e0 e1 => by rw [hv6 e e0 e1]; exact hrow d x (by omega) (by omega) (by omega) (by omega) e e0 e1) (mkM_rng _ _)]
              congr 3
              rw [why_congr (r2 := u1 (pa t) d x) (w2 := wS t) W (fun q => by cases q) hv6 (fun e e0 e1 => wM_mk (by omega) e0 (by omega))]
              rfl
            have e6 : mup M5 82 d x 75 5 = 0 := by rw [mup_fn (by decide), F5 75 (by decide)]; exact e4
            show _ ∨ ∃ b', _ ∧ f_Md_stops_L37 (fun h3 => f_Md_stops_J87 (f_Md_stops_L25 75 b up (mkM (wS t) (nb t).toNat) n) d h3) 75 b up (mkM (wS t) (nb t).toNat) d (n' + 1) h4 x = _
            have step : f_Md_stops_L37 (fun h3 => f_Md_stops_J87 (f_Md_stops_L25 75 b up (mkM (wS t) (nb t).toNat) n) d h3) 75 b up (mkM (wS t) (nb t).toNat) d (n' + 1) h4 x = if why t false X0 (u1 (pa t) d x) (wS t) b up = 0 then some ((0, (d : Int)), hput h5 82 d x) else f_Md_stops_L37 (fun h3 => f_Md_stops_J87 (f_Md_stops_L25 75 b up (mkM (wS t) (nb t).toNat) n) d h3) 75 b up (mkM (wS t) (nb t).toNat) d n' (hput h5 82 d x) ((x + 1 : Nat) : Int) := by
              rw [f_Md_stops_L37, chk_t B4.T, s_Md_pl B4 W (by omega) (by omega), bndT_ok (by decide), if_neg (by omega), if_neg gb, chk_t B4.T, f5, bndT_ok (by decide), chk_t B5.T, B5.P17, chk_t B5.T17, chk_t (by rw [B5.L17]; omega), wth, chk_t B6.T, ew, bndT_ok (by decide), wtv, w32_n x (by omega)]
            by_cases gx : why t false X0 (u1 (pa t) d x) (wS t) b up = 0
            · left
              have hxp : (x : Int) ≠ pa t d := fun q => by
                rw [q] at gx
                have : u1 (pa t) d (pa t d) = pa t := by
                  funext e; unfold u1
                  by_cases q2 : e = d
                  · rw [if_pos q2, q2]
                  · rw [if_neg q2]
                rw [this] at gx
                have : wy0 t b up = 0 := gx
                omega
              have hel : elq t d b up x = true := by unfold elq; rw [decide_eq_true hxp, decide_eq_true gx]; rfl
              left
              refine ⟨?_, hput h5 82 d x, _, ?_, A6, F6, e6⟩
              · rw [decide_eq_true gb, Bool.true_and]; exact anyN_iff.mpr ⟨x, by omega, by omega, hel⟩
              · show f_Md_stops_L37 _ 75 b up _ d (n' + 1) h4 x = _
                rw [step, if_pos gx]
            · right
              refine ⟨(hput h5 82 d x, ((x + 1 : Nat) : Int)), ⟨rfl, ?_, _, A6, F6, e6⟩, by rw [step, if_neg gx]⟩
              rw [anyN, ha]
              unfold elq
              rw [decide_eq_false gx, Bool.and_false]; rfl
          · obtain ⟨h4, r⟩ := y
            obtain ⟨hr_, ha, M4, A4_, F4, e4⟩ := hy
            have hr : r = ((pl t d).toNat : Int) := hr_
            have A4 : At h4 c p L M4 := A4_
            clear hr_ A4_
            subst hr
            have B4 := (I2.fm F4).mh A4
            right
            refine ⟨by rw [ha, Bool.and_false], h4, M4, ?_, A4, F4, e4⟩
            show f_Md_stops_L37 _ 75 b up _ d (n' + 1) h4 _ = _
            rw [f_Md_stops_L37, chk_t B4.T, s_Md_pl B4 W (by omega) (by omega), bndT_ok (by decide), if_pos (by omega)]
        rcases inner with ⟨hq, h4, M4, f4, A4, F4, e4⟩ | ⟨hq, h4, M4, f4, A4, F4, e4⟩
        · left
          rw [f4, f1_at (P := fun d => decide (d ≠ b) && anyN (elq t d b up) (pl t d).toNat) (i := d) (by omega) (by omega) hq hno]
          exact RV_mv F4 (RV_ok A4 e4)
        · right
          rw [f4]
          exact next h4 M4 A4 F4 e4 hq
    · obtain ⟨h3, r⟩ := y
      obtain ⟨hr_, hno, M3, A3_, F3, e3⟩ := hy
      have hr : r = ((nb t).toNat : Int) := hr_
      have A3 : At h3 c p L M3 := A3_
      clear hr_ A3_
      subst hr
      have B3 := (I2.fm F3).mh A3
      show RV c p L M2 0 (f_Md_stops_L25 75 b up (mkM (wS t) (nb t).toNat) (n + 1) h3 _) _ 0
      rw [f_Md_stops_L25, chk_t B3.T, s_Md_bars B3, bndT_ok (by decide), if_pos (by omega), f1_none hno]
      exact RV_mv F3 (RV_ok A3 e3)
  · rw [if_neg g]
    have eS : sto t b up = -1 := by
      unfold sto
      by_cases g0 : wy0 t b up = 0
      · rw [if_pos g0]
      · rw [if_neg g0]
        refine f1_none fun d d0 d1 => ?_
        cases q : (decide (d ≠ b) && anyN (elq t d b up) (pl t d).toNat)
        · rfl
        · exfalso
          rw [Bool.and_eq_true] at q
          obtain ⟨x, x0, x1, x2⟩ := anyN_iff.mp q.2
          have hdb := of_decide_eq_true q.1
          unfold elq at x2
          rw [Bool.and_eq_true] at x2
          have x3 := of_decide_eq_true x2.2
          have e1 : u1 (pa t) d x b = pa t b := u1_ne (fun q => hdb q.symm)
          have e2 : tow (u1 (pa t) d x) b up = tow (pa t) b up := by unfold tow; rw [e1]
          unfold wy0 why at g g0 hwr
          unfold why at x3
          rw [e2] at x3
          by_cases hb : b < 0 ∨ nb t ≤ b
          · rw [if_pos hb] at x3; exact absurd x3 (by decide)
          · rw [if_neg hb] at x3 g g0
            by_cases hc : tow (pa t) b up < 0 ∨ pl t b ≤ tow (pa t) b up
            · rw [if_pos hc] at x3; exact absurd x3 (by decide)
            · rw [if_neg hc] at g g0
              revert g g0
              split
              · omega
              · split
                · omega
                · split
                  · omega
                  · split <;> omega
    rw [eS]
    exact RV_ok A2 e5
end
