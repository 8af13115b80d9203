/-! THE REFERENCE'S WALKS, call by call -/
section
variable {h : mH} {c : Int} {p L : Int → Int} {M : aM} {t : tT}
/-- what most of its calls begin with: thrown is told, then it goes on, or answers 0 -/
theorem RV_head (A : At h c p L M) (I : RI M t) {k : Int} {tg : Nat} {f e : mH → Option mR} {x y : Int} (h0 : 0 ≤ k) (he : ∀ h1, e h1 = some ((tg, y), h1)) (hf : k = 0 → ∀ h1 M1, At h1 c p L M1 → RI M1 t → M1 75 5 = 0 → FM M M1 → RV c p L M1 tg (f h1) x 0) :
    RV c p L M tg (chk (hpT h 75 = 12) (wth (hput h 75 5 k) (fun h1 => chk (hpT h1 75 = 12) (if hpV h1 75 5 ≤ 0 then f h1 else e h1)))) x k := by
  have A1 := A.thr k
  have C1 := A1.md
  rw [chk_t (MH.of A).T, wth]
  refine RV_mv (FM.thr M k) ?_
  simp only [C1]
  rw [chk_t trivial, mup_eq]
  by_cases g : k = 0
  · rw [if_pos (by omega)]
    have := hf g _ _ A1 (I.fm (FM.thr M k)) (by rw [thr_eq]; exact g) (FM.thr M k)
    rw [g] at this ⊢; exact this
  · rw [if_neg (by omega), he]; exact RV_no A1 (thr_eq _ _) g
def wnk (t : tT) : Int := mkM (wS t) (nb t).toNat
theorem wnk_ok {t : tT} (W : WS t) : (-2147483648 ≤ wnk t ∧ wnk t < 2147483648) ∧ ∀ b, 0 ≤ b → b < nb t → wM (wnk t) b = wS t b := ⟨mkM_rng _ _, fun b g0 g1 => wM_mk (by have := W.1; omega) g0 (by omega)⟩
theorem s_wn (A : At h c p L M) (I : RI M t) : f_Md_worn h 75 = some ((0, wnk t), h) := s_Md_worn (I.mh A) I.2.1
theorem s_now (A : At h c p L M) (I : RI M t) : f_Md_standNow h 75 = some ((0, st t (pa t)), h) := s_Md_standNow (I.mh A) I.2.1 I.2.2.1
theorem s_opn (A : At h c p L M) (I : RI M t) : f_Md_openStand h 75 = some ((0, st t (po t)), h) := s_Md_openStand (I.mh A) I.2.1 I.2.1.ropen
theorem s_layF (A : At h c p L M) (I : RI M t) (hS2 : nS t ≤ 20000) {w : Int} {wn : Int → Bool} (hw : -2147483648 ≤ w ∧ w < 2147483648) (hwn : ∀ b, 0 ≤ b → b < nb t → wM w b = wn b) {z : Int} (hz0 : 0 ≤ z) (hz1 : z < nS t) : ∃ h' M', f_Md_laysFrom h 75 z w = some ((3, 0), h') ∧ At h' c p L M' ∧ FL M M' ∧ PI M' 84 85 (M' 75 24) (nS t) (bfs (th t false X0 wn) (nK t) (nN t) z) := by
  obtain ⟨h1, M1, f1, A1, F1, Q1⟩ := s_Md_laysFrom (x := false) A (by rw [I.1]; exact I.2.1) (by rw [I.1]; exact hS2) I.2.2.2 (fun q => by cases q) hw hz0 (by rw [I.1]; exact hz1)
  rw [I.1] at Q1
  refine ⟨h1, M1, f1, A1, F1, ?_⟩
  have e : th t false (M 83) (wM w) = th t false X0 wn := by
    rw [th_wn I.2.1 (fun q => by cases q) hwn]; rfl
  rw [e] at Q1; exact Q1
theorem s_layT (A : At h c p L M) (I : RI M t) (hS2 : nS t ≤ 20000) {w : Int} {wn : Int → Bool} (hw : -2147483648 ≤ w ∧ w < 2147483648) (hwn : ∀ b, 0 ≤ b → b < nb t → wM w b = wn b) {z : Int} (hz0 : 0 ≤ z) (hz1 : z < nS t) : ∃ h' M', f_Md_laysTo h 75 z w = some ((3, 0), h') ∧ At h' c p L M' ∧ FL M M' ∧ PI M' 84 85 (M' 75 24) (nS t) (bfs (nxB t false X0 wn) (nK t) (nN t) z) := by
  obtain ⟨h1, M1, f1, A1, F1, Q1⟩ := s_Md_laysTo (x := false) A (by rw [I.1]; exact I.2.1) (by rw [I.1]; exact hS2) I.2.2.2 (fun q => by cases q) hw hz0 (by rw [I.1]; exact hz1)
  rw [I.1] at Q1
  refine ⟨h1, M1, f1, A1, F1, ?_⟩
  have e : nxB t false (M 83) (wM w) = nxB t false X0 wn := by
    rw [nxB_wn I.2.1 (fun q => by cases q) hwn]; rfl
  rw [e] at Q1; exact Q1
theorem s_thn (A : At h c p L M) (I : RI M t) {s v : Int} (h0 : 0 ≤ s) (h1 : s < nS t) (v0 : 0 ≤ v) (v1 : v < 2 * nb t) : ∃ h' M', f_Md_then h 75 s v (wnk t) = some ((0, nF t s v), h') ∧ At h' c p L M' ∧ Fr [82] M M' := by
  obtain ⟨h2, M2, f2, A2, F2⟩ := s_Md_then (x := false) A (by rw [I.1]; exact I.2.1) I.2.2.2 (fun q => by cases q) h0 (by rw [I.1]; exact h1) v0 (by rw [I.1]; exact v1) (wnk_ok I.2.1).1
  rw [I.1] at f2
  have e : th t false (M 83) (wM (wnk t)) = nF t := by
    rw [th_wn I.2.1 (fun q => by cases q) (wnk_ok I.2.1).2]; rfl
  rw [e] at f2
  exact ⟨h2, M2, f2, A2, F2⟩
/-- rows that stand in far and row -/
def RP (M : aM) (t : tT) (S : tB) : Prop := PI M 84 85 (M 75 24) (nS t) S
theorem RP.fr {M' : aM} {S : tB} (P : RP M t S) (F : Fs [78, 82, 83, 86, 87, 88, 89, 90, 91, 92, 93, 94, 95] 75 [5, 20, 21, 32, 34] M M') : RP M' t S := by
  unfold RP PI at P ⊢
  rw [F.1 84 (by decide) (by decide), F.1 85 (by decide) (by decide), F.2 24 (by decide)]; exact P
theorem RP.f82 {M' : aM} {S : tB} (P : RP M t S) (F : Fr [82] M M') : RP M' t S := P.fr ((F.fs (d := 75) (is := []) (by decide)).mono (by decide) (fun _ q => by cases q))
theorem s_firstStep (A : At h c p L M) (I : RI M t) (hS2 : nS t ≤ 20000) {o s : Int} (ho0 : 0 ≤ o) (ho1 : o < nS t) (P : RP M t (SB t o)) (h0 : 0 ≤ s) (h1 : s < nS t) (hf : 0 < bF (SB t o) s) : ∃ h' M', f_Md_firstStep h 75 s = some ((0, lnx t (SB t o) s), h') ∧ At h' c p L M' ∧ Fr [82] M M' := by
  have W := I.2.1
  have hk := nK_rng W
  have hn := nN_eq W
  have B := BI_bfs (NX_B W false X0 (wS t)) ho0 (show o < ((nN t : Nat) : Int) by omega)
  have hle : ∀ s, -1 ≤ bF (SB t o) s ∧ bF (SB t o) s < nS t := fun s => by
    have := BI.fle B s
    rw [hn] at this; exact this
  have el : lnx t (SB t o) s = f1 (fun v => gs t s v && decide (bF (SB t o) (s + sf t v) = bF (SB t o) s - 1)) (nK t) := by unfold lnx; rw [if_pos hf]
  rw [el]
  unfold f_Md_firstStep
  refine loop_r (F := fun n (x : mH × Int) => f_Md_firstStep_L2 75 s n x.1 x.2) (P := fun r => ∃ h' M', r = some ((0, f1 (fun v => gs t s v && decide (bF (SB t o) (s + sf t v) = bF (SB t o) s - 1)) (nK t)), h') ∧ At h' c p L M' ∧ Fr [82] M M') (fun v x => x.2 = (v : Int) ∧ (∀ j, 0 ≤ j → j < (v : Int) → (gs t s j && decide (bF (SB t o) (s + sf t j) = bF (SB t o) s - 1)) = false) ∧ ∃ M', At x.1 c p L M' ∧ Fr [82] M M') (nK t) (fun v hv x hx n => ?_) (fun x hx n => ?_) (i := 0) (b := (h, 0)) ⟨rfl, fun j g0 g1 => by omega, M, A, Fr.rf _ _⟩ (by omega) (by omega)
  · obtain ⟨h2, r⟩ := x
    obtain ⟨hr_, hno, M2, A2_, F2⟩ := hx
    have hr : r = (v : Int) := hr_
    have A2 : At h2 c p L M2 := A2_
    clear hr_ A2_
    subst hr
    have I2 := I.fm (F2.fm (by decide) (by decide))
    have B2 := I2.mh A2
    obtain ⟨h3, M3, f3, A3, F3⟩ := s_thn A2 I2 (s := s) (v := v) h0 h1 (by omega) (by omega)
    have F3' : Fr [82] M M3 := F2.tr F3
    have C3 := A3.md
    have P3 := P.f82 F3'
    have next : (gs t s v && decide (bF (SB t o) (s + sf t v) = bF (SB t o) s - 1)) = false → ∃ b' : mH × Int, (b'.2 = ((v + 1 : Nat) : Int) ∧ (∀ j, 0 ≤ j → j < ((v + 1 : Nat) : Int) → (gs t s j && decide (bF (SB t o) (s + sf t j) = bF (SB t o) s - 1)) = false) ∧ ∃ M', At b'.1 c p L M' ∧ Fr [82] M M') ∧ f_Md_firstStep_J55 (f_Md_firstStep_L2 75 s n) v h3 = f_Md_firstStep_L2 75 s n b'.1 b'.2 := fun hq => by
      refine ⟨(h3, ((v + 1 : Nat) : Int)), ⟨rfl, fun j g0 g1 => ?_, M3, A3, F3'⟩, ?_⟩
      · by_cases q : j = v
        · rw [q]; exact hq
        · exact hno j g0 (by omega)
      · unfold f_Md_firstStep_J55
        rw [wtv, w32_n v (by omega)]
    show (∃ h' M', f_Md_firstStep_L2 75 s (n + 1) h2 v = _ ∧ _) ∨ ∃ b', _ ∧ f_Md_firstStep_L2 75 s (n + 1) h2 v = _
    rw [f_Md_firstStep_L2, chk_t B2.T, s_Md_steps B2 W, bndT_ok (by decide), if_neg (by omega), chk_t B2.T, s_wn A2 I2, bndT_ok (by decide), chk_t B2.T, f3, bndT_ok (by decide)]
    rcases nF_rng W (v := (v : Int)) h0 h1 with e | e
    · right
      have hg : gs t s v = false := by
        cases q : gs t s v
        · rfl
        · have := gs_to W h0 h1 q
          unfold nF th at e
          rw [if_pos q] at e; omega
      rw [if_pos e]
      exact next (by rw [hg]; rfl)
    · have l1 := hle (nF t s v)
      have l2 := hle s
      rw [if_neg (by omega)]
      simp only [C3]
      rw [chk_t trivial, chk_t trivial, chk_t (by omega), P3.1 _ e.2.2.1 e.2.2.2.1]
      by_cases q : bF (SB t o) (nF t s v) = bF (SB t o) s - 1
      · left
        have q' : bF (SB t o) (s + sf t v) = bF (SB t o) s - 1 := by rw [← e.2.1]; exact q
        rw [if_neg (by omega), chk_t trivial, chk_t trivial, chk_t (by omega), chk_t trivial, chk_t trivial, chk_t (by omega), P3.1 s h0 h1, w32_id (by omega) (by omega), if_pos q, f1_at (P := fun v => gs t s v && decide (bF (SB t o) (s + sf t v) = bF (SB t o) s - 1)) (i := v) (by omega) (by omega) (by rw [e.1, decide_eq_true q']; rfl) hno]
        exact ⟨h3, M3, rfl, A3, F3'⟩
      · right
        have q' : ¬ bF (SB t o) (s + sf t v) = bF (SB t o) s - 1 := by rw [← e.2.1]; exact q
        have hq := next (by rw [decide_eq_false q', Bool.and_false])
        by_cases q2 : bF (SB t o) (nF t s v) = -1
        · rw [if_pos q2]; exact hq
        · rw [if_neg q2, chk_t trivial, chk_t trivial, chk_t (by omega), chk_t trivial, chk_t trivial, chk_t (by omega), P3.1 s h0 h1, w32_id (by omega) (by omega), if_neg q]; exact hq
  · obtain ⟨h2, r⟩ := x
    obtain ⟨hr_, hno, M2, A2_, F2⟩ := hx
    have hr : r = ((nK t : Nat) : Int) := hr_
    have A2 : At h2 c p L M2 := A2_
    clear hr_ A2_
    subst hr
    have I2 := I.fm (F2.fm (by decide) (by decide))
    have B2 := I2.mh A2
    refine ⟨h2, M2, ?_, A2, F2⟩
    show f_Md_firstStep_L2 75 s (n + 1) h2 _ = _
    rw [f_Md_firstStep_L2, chk_t B2.T, s_Md_steps B2 W, bndT_ok (by decide), if_pos (by omega), f1_none hno]
theorem FL_in {M' : aM} (F : FL M M') : FM M M' := F.fm
theorem s_shortestOf (A : At h c p L M) (I : RI M t) (hS2 : nS t ≤ 20000) {a b : Int} (a0 : 0 ≤ a) (a1 : a < nS t) (b0_ : 0 ≤ b) (b1 : b < nS t) {k : Int} (hk32 : -2147483648 ≤ k ∧ k < 2147483648) : ∃ h' M', f_Md_shortestOf h 75 a b k = some ((0, lof t (SB t b) a k), h') ∧ At h' c p L M' ∧ FL M M' ∧ RP M' t (SB t b) := by
  have W := I.2.1
  have hn := nN_eq W
  have B := BI_bfs (NX_B W false X0 (wS t)) b0_ (show b < ((nN t : Nat) : Int) by omega)
  have hle : -1 ≤ bF (SB t b) a ∧ bF (SB t b) a < nS t := by
    have := BI.fle B a
    rw [hn] at this; exact this
  obtain ⟨h1, M1, f1, A1, F1, P1⟩ := s_layT A I hS2 (wnk_ok W).1 (wnk_ok W).2 b0_ b1
  have P1 : RP M1 t (SB t b) := P1
  have I1 := I.fm F1.fm
  have C1 := A1.md
  have j24 : ∀ k : Int, k = -1 ∨ bF (SB t b) a = -1 → lof t (SB t b) a k = bF (SB t b) a → ∃ h' M', f_Md_shortestOf_J24 75 a h1 = some ((0, lof t (SB t b) a k), h') ∧ At h' c p L M' ∧ FL M M' ∧ RP M' t (SB t b) := fun k _ e => by
    refine ⟨h1, M1, ?_, A1, F1, P1⟩
    unfold f_Md_shortestOf_J24
    simp only [C1]
    rw [chk_t trivial, chk_t trivial, chk_t (by omega), P1.1 a a0 a1, e]
  unfold f_Md_shortestOf
  rw [chk_t (I.mh A).T, s_wn A I, bndT_ok (by decide), chk_t (I.mh A).T, f1, bndT_ok (by decide)]
  by_cases g : k = -1
  · rw [if_pos g]; exact j24 k (Or.inl g) (by unfold lof; rw [if_pos g])
  rw [if_neg g]
  simp only [C1]
  rw [chk_t trivial, chk_t trivial, chk_t (by omega), P1.1 a a0 a1]
  by_cases g1 : bF (SB t b) a = -1
  · rw [if_pos g1]; exact j24 k (Or.inr g1) (by unfold lof; rw [if_neg g, if_pos (by omega), g1])
  rw [if_neg g1, chk_t trivial, chk_t trivial, chk_t (by omega), w32_id (by omega) (by omega), s_Md_amid, bndT_ok (by decide)]
  by_cases g2 : 0 ≤ k ∧ k ≤ bF (SB t b) a - 1
  · rw [b2d g2, if_neg (by decide)]
    have e : lof t (SB t b) a k = lnx t (SB t b) (wlk t (SB t b) a k.toNat) := by unfold lof; rw [if_neg g, if_neg (by omega)]
    rw [e]
    have key : ∀ o : Option mR, (∃ h' M', o = some ((0, lnx t (SB t b) (wlk t (SB t b) a k.toNat)), h') ∧ At h' c p L M' ∧ Fr [82] M1 M') → ∃ h' M', o = some ((0, lnx t (SB t b) (wlk t (SB t b) a k.toNat)), h') ∧ At h' c p L M' ∧ FL M M' ∧ RP M' t (SB t b) := fun o ⟨h', M', q1, q2, q3⟩ => ⟨h', M', q1, q2, F1.tr q3.fl, P1.f82 q3⟩
    refine key _ ?_
    refine loop_r (F := fun n (x : mH × Int × Int) => f_Md_shortestOf_L57 75 k n x.1 x.2.1 x.2.2) (P := fun r => ∃ h' M', r = some ((0, lnx t (SB t b) (wlk t (SB t b) a k.toNat)), h') ∧ At h' c p L M' ∧ Fr [82] M1 M') (fun i x => x.2 = (wlk t (SB t b) a i, (i : Int)) ∧ ∃ M', At x.1 c p L M' ∧ Fr [82] M1 M') k.toNat (fun i hi x hx n => ?_) (fun x hx n => ?_) (i := 0) (b := (h1, a, 0)) ⟨rfl, M1, A1, Fr.rf _ _⟩ (by omega) (by omega)
    · obtain ⟨h2, r⟩ := x
      obtain ⟨hr_, M2, A2_, F2⟩ := hx
      have hr : r = (wlk t (SB t b) a i, (i : Int)) := hr_
      have A2 : At h2 c p L M2 := A2_
      clear hr_ A2_
      subst hr
      right
      have ws := wlk_spec W b0_ b1 a0 a1 (i := i) (by omega)
      have ls := lnx_spec W b0_ b1 ws.1.1 ws.1.2 (by omega)
      have I2 := I1.fm (F2.fm (by decide) (by decide))
      obtain ⟨h3, M3, f3, A3, F3⟩ := s_firstStep A2 I2 hS2 b0_ b1 (P1.f82 F2) ws.1.1 ws.1.2 (by omega)
      have I3 := I2.fm (F3.fm (by decide) (by decide))
      obtain ⟨h4, M4, f4, A4, F4⟩ := s_thn A3 I3 ws.1.1 ws.1.2 ls.1.1 ls.1.2
      have e4 : nF t (wlk t (SB t b) a i) (lnx t (SB t b) (wlk t (SB t b) a i)) = wlk t (SB t b) a (i + 1) := by
        show th t false X0 (wS t) _ _ = _
        unfold th; rw [if_pos ls.2.1]; rfl
      refine ⟨(h4, wlk t (SB t b) a (i + 1), ((i + 1 : Nat) : Int)), ⟨rfl, M4, A4, (F2.tr F3).tr F4⟩, ?_⟩
      show f_Md_shortestOf_L57 75 k (n + 1) h2 (wlk t (SB t b) a i) i = f_Md_shortestOf_L57 75 k n h4 (wlk t (SB t b) a (i + 1)) ((i + 1 : Nat) : Int)
      rw [f_Md_shortestOf_L57, if_neg (show ¬ k ≤ (i : Int) by omega), chk_t (I2.mh A2).T, f3, bndT_ok (by decide), chk_t (I3.mh A3).T, s_wn A3 I3, bndT_ok (by decide), chk_t (I3.mh A3).T, f4, bndT_ok (by decide), e4, wtv, w32_n i (by omega)]
    · obtain ⟨h2, r⟩ := x
      obtain ⟨hr_, M2, A2_, F2⟩ := hx
      have hr : r = (wlk t (SB t b) a k.toNat, (k.toNat : Int)) := hr_
      have A2 : At h2 c p L M2 := A2_
      clear hr_ A2_
      subst hr
      have ws := wlk_spec W b0_ b1 a0 a1 (i := k.toNat) (by omega)
      have I2 := I1.fm (F2.fm (by decide) (by decide))
      obtain ⟨h3, M3, f3, A3, F3⟩ := s_firstStep A2 I2 hS2 b0_ b1 (P1.f82 F2) ws.1.1 ws.1.2 (by omega)
      refine ⟨h3, M3, ?_, A3, F2.tr F3⟩
      show f_Md_shortestOf_L57 75 k (n + 1) h2 (wlk t (SB t b) a k.toNat) (k.toNat : Int) = _
      rw [f_Md_shortestOf_L57, if_pos (show k ≤ (k.toNat : Int) by omega), chk_t (I2.mh A2).T, f3, bndT_ok (by decide)]
  · rw [b2n g2, if_pos rfl]
    refine ⟨h1, M1, ?_, A1, F1, P1⟩
    have e : lof t (SB t b) a k = -1 := by unfold lof; rw [if_neg g, if_pos (by omega)]
    rw [e]
theorem RI.nowr (I : RI M t) : 0 ≤ st t (pa t) ∧ st t (pa t) < nS t := st_rng I.2.1 I.2.2.1
theorem RI.opnr (I : RI M t) : 0 ≤ st t (po t) ∧ st t (po t) < nS t := st_rng I.2.1 I.2.1.ropen
theorem r_reached (A : At h c p L M) (I : RI M t) : RV c p L M 0 (f_Md_reached h 75) (if 20000 < nS t then -1000 else bM (SF t (st t (pa t)))) 0 := by
  have A1 := A.thr 0
  have I1 := I.fm (FM.thr M 0)
  unfold f_Md_reached
  rw [chk_t (MH.of A).T, wth, chk_t (I1.mh A1).T, s_Md_spent A1 I1, bndT_ok (by decide)]
  refine RV_mv (FM.thr M 0) ?_
  by_cases g : nS t ≤ 20000
  · obtain ⟨h2, M2, f2, A2, F2, P2⟩ := s_layF A1 I1 g (wnk_ok I.2.1).1 (wnk_ok I.2.1).2 I.nowr.1 I.nowr.2
    have C2 := A2.md
    rw [if_pos g, if_pos rfl, if_neg (by omega), chk_t (I1.mh A1).T, s_now A1 I1, bndT_ok (by decide), chk_t (I1.mh A1).T, s_wn A1 I1, bndT_ok (by decide), chk_t (I1.mh A1).T, f2, bndT_ok (by decide)]
    simp only [C2]
    rw [chk_t trivial, P2.2.2]
    exact RV_mv F2.fm (RV_ok A2 (by rw [F2.2 5 (by decide)]; exact thr_eq _ _))
  · rw [if_neg g, if_neg (by decide), if_pos (by omega)]; exact RV_ok A1 (thr_eq _ _)
theorem r_canBe (A : At h c p L M) (I : RI M t) (s : Int) : RV c p L M 0 (f_Md_canBe h 75 s) (b2i (decide (bF (SF t (st t (pa t))) s ≠ -1))) (if 0 ≤ s ∧ s < nS t then (if nS t ≤ 20000 then 0 else 2) else 1) := by
  have W := I.2.1
  have B := I.mh A
  have j : ∀ k : Int, 0 ≤ k → (k = 0 → (0 ≤ s ∧ s < nS t) ∧ nS t ≤ 20000) → RV c p L M 0 (f_Md_canBe_J25 75 s 75 k h) (b2i (decide (bF (SF t (st t (pa t))) s ≠ -1))) k := by
    intro k h0 hk
    unfold f_Md_canBe_J25
    refine RV_head A I h0 (fun h1 => by rw [chk_t (by decide)]) (fun g h1 M1 A1 I1 e1 F1 => ?_)
    obtain ⟨k1, k2⟩ := hk g
    obtain ⟨h2, M2, f2, A2, F2, P2⟩ := s_layF A1 I1 k2 (wnk_ok W).1 (wnk_ok W).2 I.nowr.1 I.nowr.2
    have C2 := A2.md
    have e2 : M2 75 5 = 0 := by rw [F2.2 5 (by decide)]; exact e1
    rw [chk_t (I1.mh A1).T, s_now A1 I1, bndT_ok (by decide), chk_t (I1.mh A1).T, s_wn A1 I1, bndT_ok (by decide), chk_t (I1.mh A1).T, f2, bndT_ok (by decide)]
    simp only [C2]
    rw [chk_t trivial, chk_t trivial, chk_t (by omega), P2.1 s k1.1 k1.2]
    refine RV_mv F2.fm ?_
    by_cases q : bF (bfs (th t false X0 (wS t)) (nK t) (nN t) (st t (pa t))) s = -1
    · rw [if_pos q, chk_t (by decide), decide_eq_false (fun q2 => q2 q)]; exact RV_ok A2 e2
    · rw [if_neg q, chk_t (by decide), decide_eq_true q]; exact RV_ok A2 e2
  unfold f_Md_canBe
  rw [chk_t B.T, s_Md_isStand A I, bndT_ok (by decide)]
  by_cases g : 0 ≤ s ∧ s < nS t
  · rw [b2d g, if_neg (by decide), chk_t B.T, s_Md_spent A I, bndT_ok (by decide), if_pos g]
    by_cases g2 : nS t ≤ 20000
    · rw [if_pos g2, if_pos rfl, if_pos g2]; exact j 0 (by decide) (fun _ => ⟨g, g2⟩)
    · rw [if_neg g2, if_neg (by decide), if_neg g2]; exact j 2 (by decide) (fun q => absurd q (by decide))
  · rw [b2n g, if_pos rfl, if_neg g]; exact j 1 (by decide) (fun q => absurd q (by decide))
theorem r_fromStart (A : At h c p L M) (I : RI M t) (s : Int) : RV c p L M 0 (f_Md_fromStart h 75 s) (b2i (decide (bF (SF t (st t (ps t))) s ≠ -1))) (if 0 ≤ s ∧ s < nS t then (if nS t ≤ 20000 then 0 else 2) else 1) := by
  have W := I.2.1
  have hnb := W.1
  have B := I.mh A
  have hst := st_rng W W.rstart
  have hS := nS_rng W
  have j : ∀ k : Int, 0 ≤ k → (k = 0 → (0 ≤ s ∧ s < nS t) ∧ nS t ≤ 20000) → RV c p L M 0 (f_Md_fromStart_J25 75 s 75 k h) (b2i (decide (bF (SF t (st t (ps t))) s ≠ -1))) k := by
    intro k h0 hk
    unfold f_Md_fromStart_J25
    refine RV_head A I h0 (fun h1 => by rw [chk_t (by decide)]) (fun g h1 M1 A1 I1 e1 F1 => ?_)
    obtain ⟨k1, k2⟩ := hk g
    have B1 := I1.mh A1
    have rest : ∀ x : Int, x = st t (ps t) → RV c p L M1 0 (chk (hpT h1 75 = 12) (bndT 0 (f_Md_worn h1 75) (fun x8 h7 => chk (hpT h7 75 = 12) (bndT 3 (f_Md_laysFrom h7 75 x x8) (fun x10 h9 => chk (hpT h9 75 = 12) (chk (hpT h9 (hpV h9 75 22) = 21) (chk (0 ≤ s ∧ s < hpL h9 (hpV h9 75 22)) ((if hpV h9 (hpV h9 75 22) s = (-1) then chk ((0 : Int) = 0 ∨ (0 : Int) = (1 : Int)) (some ((0, 0), h9)) else chk ((1 : Int) = 0 ∨ (1 : Int) = (1 : Int)) (some ((0, 1), h9))))))))))) (b2i (decide (bF (SF t (st t (ps t))) s ≠ -1))) 0 := by
      intro x hx
      subst hx
      obtain ⟨h2, M2, f2, A2, F2, P2⟩ := s_layF A1 I1 k2 (wnk_ok W).1 (wnk_ok W).2 hst.1 hst.2
      have C2 := A2.md
      have e2 : M2 75 5 = 0 := by rw [F2.2 5 (by decide)]; exact e1
      rw [chk_t B1.T, s_wn A1 I1, bndT_ok (by decide), chk_t B1.T, f2, bndT_ok (by decide)]
      simp only [C2]
      rw [chk_t trivial, chk_t trivial, chk_t (by omega), P2.1 s k1.1 k1.2]
      refine RV_mv F2.fm ?_
      by_cases q : bF (bfs (th t false X0 (wS t)) (nK t) (nN t) (st t (ps t))) s = -1
      · rw [if_pos q, chk_t (by decide), decide_eq_false (fun q2 => q2 q)]; exact RV_ok A2 e2
      · rw [if_neg q, chk_t (by decide), decide_eq_true q]; exact RV_ok A2 e2
    rw [chk_t B1.T, s_Md_bars B1, bndT_ok (by decide), wtv, w32_id (by omega) (by omega)]
    refine loop_r (F := fun n (b : Int × Int) => f_Md_fromStart_L46 (fun h5 x6 => chk (hpT h5 75 = 12) (bndT 0 (f_Md_worn h5 75) (fun x8 h7 => chk (hpT h7 75 = 12) (bndT 3 (f_Md_laysFrom h7 75 x6 x8) (fun x10 h9 => chk (hpT h9 75 = 12) (chk (hpT h9 (hpV h9 75 22) = 21) (chk (0 ≤ s ∧ s < hpL h9 (hpV h9 75 22)) ((if hpV h9 (hpV h9 75 22) s = (-1) then chk ((0 : Int) = 0 ∨ (0 : Int) = (1 : Int)) (some ((0, 0), h9)) else chk ((1 : Int) = 0 ∨ (1 : Int) = (1 : Int)) (some ((0, 1), h9))))))))))) 75 n h1 b.1 b.2) (P := fun o => RV c p L M1 0 o (b2i (decide (bF (SF t (st t (ps t))) s ≠ -1))) 0) (fun i b => b.2 = nb t - 1 - i ∧ 0 ≤ b.1 ∧ b.1 * pw t (nb t - i).toNat + sd t (ps t) (nb t - i).toNat = st t (ps t)) (nb t).toNat (fun i hi b hb n => ?_) (fun b hb n => ?_) (i := 0) (b := (0, nb t - 1)) ?_ (by omega) (by omega)
    · obtain ⟨u, j⟩ := b
      obtain ⟨h1', h2', h3'⟩ := hb
      have h1' : j = nb t - 1 - i := h1'
      have h2' : 0 ≤ u := h2'
      have h3' : u * pw t (nb t - i).toNat + sd t (ps t) (nb t - i).toNat = st t (ps t) := h3'
      have hj : (nb t - i).toNat = j.toNat + 1 := by omega
      rw [hj] at h3'
      have hp := W.2.2.2.2.2.1 j (by omega) (by omega)
      have hr := W.rstart j (by omega) (by omega)
      have hw := pw_pos (W.pp.mono (show j.toNat ≤ (nb t).toNat by omega))
      have hd := sd_rng (W.pp.mono (show j.toNat ≤ (nb t).toNat by omega)) (fun k hk => W.rstart.rn k (by omega))
      have ej : ((j.toNat : Nat) : Int) = j := by omega
      have h4 : (u * pl t j + ps t j) * pw t j.toNat + sd t (ps t) j.toNat = st t (ps t) := by
        rw [← h3']
        show _ = u * (pw t j.toNat * pl t (j.toNat : Nat)) + (sd t (ps t) j.toNat + ps t (j.toNat : Nat) * pw t j.toNat)
        rw [ej, Int.add_mul, Int.mul_assoc, Int.mul_comm (pl t j)]
        omega
      have h5 : 0 ≤ u * pl t j := Int.mul_nonneg h2' (by omega)
      have h6 : (u * pl t j + ps t j) * 1 ≤ (u * pl t j + ps t j) * pw t j.toNat := Int.mul_le_mul_of_nonneg_left hw (by omega)
      refine Or.inr ⟨(u * pl t j + ps t j, j - 1), ⟨by show j - 1 = _; omega, by show 0 ≤ u * pl t j + ps t j; omega, ?_⟩, ?_⟩
      · show (u * pl t j + ps t j) * pw t (nb t - (i + 1 : Nat)).toNat + sd t (ps t) (nb t - (i + 1 : Nat)).toNat = st t (ps t)
        rw [show (nb t - (i + 1 : Nat)).toNat = j.toNat by omega]; exact h4
      · show f_Md_fromStart_L46 _ 75 (n + 1) h1 u j = f_Md_fromStart_L46 _ 75 n h1 (u * pl t j + ps t j) (j - 1)
        rw [f_Md_fromStart_L46, if_neg (show ¬ j < 0 by omega), chk_t B1.T, s_Md_pl B1 W (by omega) (by omega), bndT_ok (by decide), chk_t B1.T, B1.P0, chk_t B1.T0, w32_id (x := 425 + j) (by omega) (by omega), chk_t (by rw [B1.L0]; omega), B1.V0, show t (425 + j) = ps t j from rfl, wtv, wtv, w32_id (x := u * pl t j) (by omega) (by omega), w32_id (by omega) (by omega), w32_id (by omega) (by omega)]
        rfl
    · obtain ⟨u, j⟩ := b
      obtain ⟨h1', h2', h3'⟩ := hb
      have h1' : j = nb t - 1 - (nb t).toNat := h1'
      have h3' : u * pw t (nb t - (nb t).toNat).toNat + sd t (ps t) (nb t - (nb t).toNat).toNat = st t (ps t) := h3'
      rw [show (nb t - (nb t).toNat).toNat = 0 by omega] at h3'
      show RV c p L M1 0 (f_Md_fromStart_L46 _ 75 (n + 1) h1 u j) _ 0
      rw [f_Md_fromStart_L46, if_pos (show j < 0 by omega)]
      refine rest u ?_
      rw [← h3']
      show u = u * 1 + 0
      omega
    · refine ⟨by show nb t - 1 = _; omega, Int.le_refl _, ?_⟩
      show 0 * _ + sd t (ps t) (nb t - (0 : Nat)).toNat = st t (ps t)
      rw [Int.zero_mul, Int.zero_add, show (nb t - (0 : Nat)).toNat = (nb t).toNat by omega]; rfl
  unfold f_Md_fromStart
  rw [chk_t B.T, s_Md_isStand A I, bndT_ok (by decide)]
  by_cases g : 0 ≤ s ∧ s < nS t
  · rw [b2d g, if_neg (by decide), chk_t B.T, s_Md_spent A I, bndT_ok (by decide), if_pos g]
    by_cases g2 : nS t ≤ 20000
    · rw [if_pos g2, if_pos rfl, if_pos g2]; exact j 0 (by decide) (fun _ => ⟨g, g2⟩)
    · rw [if_neg g2, if_neg (by decide), if_neg g2]; exact j 2 (by decide) (fun q => absurd q (by decide))
  · rw [b2n g, if_pos rfl, if_neg g]; exact j 1 (by decide) (fun q => absurd q (by decide))
theorem r_shortest (A : At h c p L M) (I : RI M t) (a b k : Int) (hk32 : -2147483648 ≤ k ∧ k < 2147483648) : RV c p L M 0 (f_Md_shortest h 75 a b k) (lof t (SB t b) a k) (if (0 ≤ a ∧ a < nS t) ∧ 0 ≤ b ∧ b < nS t then (if nS t ≤ 20000 then 0 else 2) else 1) := by
  have B := I.mh A
  have j : ∀ x : Int, 0 ≤ x → (x = 0 → (0 ≤ a ∧ a < nS t) ∧ (0 ≤ b ∧ b < nS t) ∧ nS t ≤ 20000) → RV c p L M 0 (f_Md_shortest_J33 75 a b k 75 x h) (lof t (SB t b) a k) x := by
    intro x h0 hx
    unfold f_Md_shortest_J33
    refine RV_head A I h0 (fun _ => rfl) (fun g h1 M1 A1 I1 e1 F1 => ?_)
    obtain ⟨k1, k2, k3⟩ := hx g
    obtain ⟨h2, M2, f2, A2, F2, -⟩ := s_shortestOf A1 I1 k3 k1.1 k1.2 k2.1 k2.2 hk32
    rw [chk_t (I1.mh A1).T, f2, bndT_ok (by decide)]
    exact RV_mv F2.fm (RV_ok A2 (by rw [F2.2 5 (by decide)]; exact e1))
  unfold f_Md_shortest f_Md_shortest_J17
  rw [chk_t B.T, s_Md_isStand A I, bndT_ok (by decide)]
  by_cases g : 0 ≤ a ∧ a < nS t
  · rw [b2d g, if_neg (by decide), chk_t B.T, s_Md_isStand A I, bndT_ok (by decide)]
    by_cases g1 : 0 ≤ b ∧ b < nS t
    · rw [b2d g1, if_neg (by decide), chk_t B.T, s_Md_spent A I, bndT_ok (by decide), if_pos (show (0 ≤ a ∧ a < nS t) ∧ 0 ≤ b ∧ b < nS t from ⟨g, g1⟩)]
      by_cases g2 : nS t ≤ 20000
      · rw [if_pos g2, if_pos rfl, if_pos g2]; exact j 0 (by decide) (fun _ => ⟨g, g1, g2⟩)
      · rw [if_neg g2, if_neg (by decide), if_neg g2]; exact j 2 (by decide) (fun q => absurd q (by decide))
    · rw [b2n g1, if_pos rfl, if_neg (fun q => g1 q.2)]; exact j 1 (by decide) (fun q => absurd q (by decide))
  · rw [b2n g, if_pos rfl, if_neg (fun q => g q.1)]; exact j 1 (by decide) (fun q => absurd q (by decide))
theorem r_opening (A : At h c p L M) (I : RI M t) (k : Int) (hk32 : -2147483648 ≤ k ∧ k < 2147483648) : RV c p L M 0 (f_Md_opening h 75 k) (lof t (SB t (st t (po t))) (st t (pa t)) k) (if nS t ≤ 20000 then 0 else 1) := by
  have B := I.mh A
  have j : ∀ x : Int, 0 ≤ x → (x = 0 → nS t ≤ 20000) → RV c p L M 0 (f_Md_opening_J13 75 k 75 x h) (lof t (SB t (st t (po t))) (st t (pa t)) k) x := by
    intro x h0 hx
    unfold f_Md_opening_J13
    refine RV_head A I h0 (fun _ => rfl) (fun g h1 M1 A1 I1 e1 F1 => ?_)
    obtain ⟨h2, M2, f2, A2, F2, -⟩ := s_shortestOf A1 I1 (hx g) I.nowr.1 I.nowr.2 I.opnr.1 I.opnr.2 hk32
    rw [chk_t (I1.mh A1).T, s_now A1 I1, bndT_ok (by decide), chk_t (I1.mh A1).T, s_opn A1 I1, bndT_ok (by decide), chk_t (I1.mh A1).T, f2, bndT_ok (by decide)]
    exact RV_mv F2.fm (RV_ok A2 (by rw [F2.2 5 (by decide)]; exact e1))
  unfold f_Md_opening
  rw [chk_t B.T, s_Md_spent A I, bndT_ok (by decide)]
  by_cases g2 : nS t ≤ 20000
  · rw [if_pos g2, if_pos rfl]; exact j 0 (by decide) (fun _ => g2)
  · rw [if_neg g2, if_neg (by decide)]; exact j 1 (by decide) (fun q => absurd q (by decide))
/-- from now, and far and row stand -/
theorem s_fromNow (A : At h c p L M) (I : RI M t) (hS2 : nS t ≤ 20000) : ∃ h' M', f_Md_laysFrom h 75 (st t (pa t)) (wnk t) = some ((3, 0), h') ∧ At h' c p L M' ∧ FL M M' ∧ RP M' t (SF t (st t (pa t))) := s_layF A I hS2 (wnk_ok I.2.1).1 (wnk_ok I.2.1).2 I.nowr.1 I.nowr.2
theorem r_within (A : At h c p L M) (I : RI M t) (m : Int) : RV c p L M 0 (f_Md_within h 75 m) (cnN (fun i => decide (bF (SF t (st t (pa t))) (bO (SF t (st t (pa t))) i) ≤ m)) (bM (SF t (st t (pa t)))).toNat) (if nS t ≤ 20000 then (if 0 ≤ m ∧ m ≤ 999 then 0 else 2) else 1) := by
  have W := I.2.1
  have B := I.mh A
  have hn := nN_eq W
  have hS := nS_rng W
  have BI := SF_B W I.nowr.1 I.nowr.2
  have hle := BI.le
  have j : ∀ x : Int, 0 ≤ x → (x = 0 → nS t ≤ 20000) → RV c p L M 0 (f_Md_within_J29 75 m 75 x h) (cnN (fun i => decide (bF (SF t (st t (pa t))) (bO (SF t (st t (pa t))) i) ≤ m)) (bM (SF t (st t (pa t)))).toNat) x := by
    intro x h0 hx
    unfold f_Md_within_J29
    refine RV_head A I h0 (fun _ => rfl) (fun g h1 M1 A1 I1 e1 F1 => ?_)
    obtain ⟨h2, M2, f2, A2, F2, P2⟩ := s_fromNow A1 I1 (hx g)
    have C2 := A2.md
    have hS2 := hx g
    rw [chk_t (I1.mh A1).T, s_now A1 I1, bndT_ok (by decide), chk_t (I1.mh A1).T, s_wn A1 I1, bndT_ok (by decide), chk_t (I1.mh A1).T, f2, bndT_ok (by decide)]
    refine RV_mv F2.fm ?_
    have e2 : M2 75 5 = 0 := by rw [F2.2 5 (by decide)]; exact e1
    generalize SF t (st t (pa t)) = S at P2 BI hle ⊢
    refine loop_r (F := fun n (b : Int × Int) => f_Md_within_L57 75 m n h2 b.1 b.2) (P := fun o => RV c p L M2 0 o (cnN (fun i => decide (bF S (bO S i) ≤ m)) (bM S).toNat) 0) (fun i b => b = (cnN (fun i => decide (bF S (bO S i) ≤ m)) i, (i : Int))) (bM S).toNat (fun i hi b hb n => ?_) (fun b hb n => ?_) (i := 0) (b := (0, 0)) rfl (by omega) (by omega)
    · subst hb
      right
      have hu := BI.2.1 i (by omega) (by omega)
      have hc := cnN_rng (fun i => decide (bF S (bO S i) ≤ m)) i
      refine ⟨_, rfl, ?_⟩
      show f_Md_within_L57 75 m (n + 1) h2 (cnN (fun i => decide (bF S (bO S i) ≤ m)) i) i = f_Md_within_L57 75 m n h2 (cnN (fun i => decide (bF S (bO S i) ≤ m)) i + (if decide (bF S (bO S i) ≤ m) = true then 1 else 0)) ((i + 1 : Nat) : Int)
      rw [f_Md_within_L57]
      simp only [C2]
      rw [chk_t trivial, P2.2.2, if_neg (by omega), chk_t trivial, chk_t trivial, chk_t trivial, chk_t (by omega), P2.2.1 i (by omega) (by omega), chk_t trivial, chk_t (by omega), P2.1 _ hu.1.1 (by omega)]
      unfold f_Md_within_J86
      by_cases q : bF S (bO S i) ≤ m
      · rw [if_neg (by omega), if_pos (decide_eq_true q), wtv, wtv, w32_id (by omega) (by omega), w32_n i (by omega)]
      · rw [if_pos (by omega), if_neg (by rw [decide_eq_false q]; decide), wtv, wtv, w32_id (by omega) (by omega), w32_n i (by omega)]
    · subst hb
      show RV c p L M2 0 (f_Md_within_L57 75 m (n + 1) h2 (cnN (fun i => decide (bF S (bO S i) ≤ m)) (bM S).toNat) ((bM S).toNat : Int)) _ 0
      rw [f_Md_within_L57]
      simp only [C2]
      rw [chk_t trivial, P2.2.2, if_pos (by omega)]
      exact RV_ok A2 e2
  unfold f_Md_within
  rw [chk_t B.T, s_Md_spent A I, bndT_ok (by decide)]
  by_cases g2 : nS t ≤ 20000
  · rw [if_pos g2, if_pos rfl, if_pos g2, s_Md_amid, bndT_ok (by decide)]
    by_cases g3 : 0 ≤ m ∧ m ≤ 999
    · rw [b2d g3, if_neg (by decide), if_pos g3]; exact j 0 (by decide) (fun _ => g2)
    · rw [b2n g3, if_pos rfl, if_neg g3]; exact j 2 (by decide) (fun q => absurd q (by decide))
  · rw [if_neg g2, if_neg (by decide), if_neg g2]; exact j 1 (by decide) (fun q => absurd q (by decide))
theorem r_farthest (A : At h c p L M) (I : RI M t) (w : Int) {d : Int} (hd : nS t ≤ 20000 → Fst (SF t (st t (pa t))) (nS t) d) : RV c p L M 0 (f_Md_farthest h 75 w) (if w = 0 then bF (SF t (st t (pa t))) d else d) (if nS t ≤ 20000 then (if 0 ≤ w ∧ w ≤ 1 then 0 else 2) else 1) := by
  have W := I.2.1
  have B := I.mh A
  have hn := nN_eq W
  have hS := nS_rng W
  have BI := SF_B W I.nowr.1 I.nowr.2
  have j : ∀ x : Int, 0 ≤ x → (x = 0 → nS t ≤ 20000) → RV c p L M 0 (f_Md_farthest_J27 75 w 75 x h) (if w = 0 then bF (SF t (st t (pa t))) d else d) x := by
    intro x h0 hx
    unfold f_Md_farthest_J27
    refine RV_head A I h0 (fun _ => rfl) (fun g h1 M1 A1 I1 e1 F1 => ?_)
    obtain ⟨h2, M2, f2, A2, F2, P2⟩ := s_fromNow A1 I1 (hx g)
    have hd := hd (hx g)
    have C2 := A2.md
    have I2 := I1.fm F2.fm
    have B2 := I2.mh A2
    have hS2 := hx g
    have hnow := I.nowr
    rw [chk_t (I1.mh A1).T, s_now A1 I1, bndT_ok (by decide), chk_t (I1.mh A1).T, s_wn A1 I1, bndT_ok (by decide), chk_t (I1.mh A1).T, f2, bndT_ok (by decide), chk_t B2.T, s_now A2 I2, bndT_ok (by decide)]
    refine RV_mv F2.fm ?_
    have e2 : M2 75 5 = 0 := by rw [F2.2 5 (by decide)]; exact e1
    have hz : bF (SF t (st t (pa t))) (st t (pa t)) = 0 := (BI.2.2.2.2.2.2.1 _).mpr rfl
    generalize st t (pa t) = z at *
    generalize SF t z = S at P2 BI hd hz ⊢
    refine loop_r (F := fun n (b : Int × Int) => f_Md_farthest_L58 (fun h10 x11 => (if w = 0 then chk (hpT h10 75 = 12) (chk (hpT h10 (hpV h10 75 22) = 21) (chk (0 ≤ x11 ∧ x11 < hpL h10 (hpV h10 75 22)) (some ((0, hpV h10 (hpV h10 75 22) x11), h10)))) else some ((0, x11), h10))) 75 n h2 b.1 b.2) (P := fun o => RV c p L M2 0 o (if w = 0 then bF S d else d) 0) (fun i b => b.2 = (i : Int) ∧ (0 ≤ b.1 ∧ b.1 < nS t) ∧ bF S b.1 ≠ -1 ∧ ∀ s, 0 ≤ s → s < (i : Int) → bF S s ≠ -1 → bF S s < bF S b.1 ∨ (bF S s = bF S b.1 ∧ b.1 ≤ s)) (nN t) (fun i hi b hb n => ?_) (fun b hb n => ?_) (i := 0) (b := (z, 0)) ⟨rfl, hnow, by show bF S z ≠ -1; omega, fun s q0 q1 => by omega⟩ (by omega) (by omega)
    · obtain ⟨u, r⟩ := b
      obtain ⟨hr_, hu_, hb_, ha_⟩ := hb
      have hr : r = (i : Int) := hr_
      subst hr
      have hu : 0 ≤ u ∧ u < nS t := hu_
      have hb1 : bF S u ≠ -1 := hb_
      have ha : ∀ s, 0 ≤ s → s < (i : Int) → bF S s ≠ -1 → bF S s < bF S u ∨ (bF S s = bF S u ∧ u ≤ s) := ha_
      clear hr_ hu_ hb_ ha_
      right
      have hlu := BI.fle u
      have hli := BI.fle i
      have j103 : ∀ v : Int, (0 ≤ v ∧ v < nS t) → bF S v ≠ -1 → (∀ s, 0 ≤ s → s < ((i + 1 : Nat) : Int) → bF S s ≠ -1 → bF S s < bF S v ∨ (bF S s = bF S v ∧ v ≤ s)) → ∃ b' : Int × Int, (b'.2 = ((i + 1 : Nat) : Int) ∧ (0 ≤ b'.1 ∧ b'.1 < nS t) ∧ bF S b'.1 ≠ -1 ∧ ∀ s, 0 ≤ s → s < ((i + 1 : Nat) : Int) → bF S s ≠ -1 → bF S s < bF S b'.1 ∨ (bF S s = bF S b'.1 ∧ b'.1 ≤ s)) ∧ f_Md_farthest_J103 (f_Md_farthest_L58 (fun h10 x11 => (if w = 0 then chk (hpT h10 75 = 12) (chk (hpT h10 (hpV h10 75 22) = 21) (chk (0 ≤ x11 ∧ x11 < hpL h10 (hpV h10 75 22)) (some ((0, hpV h10 (hpV h10 75 22) x11), h10)))) else some ((0, x11), h10))) 75 n) v i h2 = f_Md_farthest_L58 (fun h10 x11 => (if w = 0 then chk (hpT h10 75 = 12) (chk (hpT h10 (hpV h10 75 22) = 21) (chk (0 ≤ x11 ∧ x11 < hpL h10 (hpV h10 75 22)) (some ((0, hpV h10 (hpV h10 75 22) x11), h10)))) else some ((0, x11), h10))) 75 n h2 b'.1 b'.2 := fun v q1 q2 q3 => by
        refine ⟨(v, ((i + 1 : Nat) : Int)), ⟨rfl, q1, q2, q3⟩, ?_⟩
        unfold f_Md_farthest_J103
        rw [wtv, w32_n i (by omega)]
      have keep : (bF S i < bF S u ∨ bF S i = -1 ∨ (bF S i = bF S u ∧ u ≤ i)) → ∀ s, 0 ≤ s → s < ((i + 1 : Nat) : Int) → bF S s ≠ -1 → bF S s < bF S u ∨ (bF S s = bF S u ∧ u ≤ s) := fun q s q0 q1 q2 => by
        by_cases e : s = i
        · subst e
          rcases q with q | q | q
          · exact Or.inl q
          · exact absurd q q2
          · exact Or.inr q
        · exact ha s q0 (by omega) q2
      have take : bF S i ≠ -1 → (bF S u < bF S i ∨ (bF S i = bF S u ∧ (i : Int) < u)) → ∀ s, 0 ≤ s → s < ((i + 1 : Nat) : Int) → bF S s ≠ -1 → bF S s < bF S i ∨ (bF S s = bF S i ∧ (i : Int) ≤ s) := fun _ q s q0 q1 q2 => by
        by_cases e : s = i
        · subst e; exact Or.inr ⟨rfl, Int.le_refl _⟩
        · have := ha s q0 (by omega) q2
          omega
      show ∃ b' : Int × Int, _ ∧ f_Md_farthest_L58 _ 75 (n + 1) h2 u i = _
      rw [f_Md_farthest_L58, chk_t B2.T, s_Md_stands B2 W, bndT_ok (by decide), if_neg (by omega)]
      simp only [C2]
      rw [chk_t trivial, chk_t trivial, chk_t (by omega), chk_t trivial, chk_t trivial, chk_t (by omega), P2.1 u hu.1 hu.2, P2.1 i (by omega) (by omega)]
      unfold f_Md_farthest_J101
      by_cases q : bF S u < bF S i
      · rw [if_pos q]
        exact j103 i (by omega) (by omega) (take (by omega) (Or.inl q))
      · rw [if_neg q, chk_t trivial, chk_t trivial, chk_t (by omega), chk_t trivial, chk_t trivial, chk_t (by omega)]
        by_cases q1 : bF S i = bF S u
        · rw [if_pos q1]
          by_cases q2 : u ≤ i
          · rw [if_pos q2]; exact j103 u hu hb1 (keep (Or.inr (Or.inr ⟨q1, q2⟩)))
          · rw [if_neg q2]; exact j103 i (by omega) (by omega) (take (by omega) (Or.inr ⟨q1, by omega⟩))
        · rw [if_neg q1]
          exact j103 u hu hb1 (keep (by omega))
    · obtain ⟨u, r⟩ := b
      obtain ⟨hr_, hu_, hb_, ha_⟩ := hb
      have hr : r = ((nN t : Nat) : Int) := hr_
      subst hr
      have hu : 0 ≤ u ∧ u < nS t := hu_
      have hb1 : bF S u ≠ -1 := hb_
      have ha : ∀ s, 0 ≤ s → s < ((nN t : Nat) : Int) → bF S s ≠ -1 → bF S s < bF S u ∨ (bF S s = bF S u ∧ u ≤ s) := ha_
      clear hr_ hu_ hb_ ha_
      have hf : Fst S (nS t) u := ⟨hu, hb1, fun s q0 q1 q2 => ha s q0 (by omega) q2⟩
      have e : u = d := hf.uniq hd
      show RV c p L M2 0 (f_Md_farthest_L58 _ 75 (n + 1) h2 u _) _ 0
      rw [f_Md_farthest_L58, chk_t B2.T, s_Md_stands B2 W, bndT_ok (by decide), if_pos (by omega)]
      by_cases q : w = 0
      · rw [if_pos q, if_pos q]
        simp only [C2]
        rw [chk_t trivial, chk_t trivial, chk_t (by omega), P2.1 u hu.1 hu.2, e]
        exact RV_ok A2 e2
      · rw [if_neg q, if_neg q, e]; exact RV_ok A2 e2
  unfold f_Md_farthest
  rw [chk_t B.T, s_Md_spent A I, bndT_ok (by decide)]
  by_cases g2 : nS t ≤ 20000
  · rw [if_pos g2, if_pos rfl, if_pos g2, s_Md_amid, bndT_ok (by decide)]
    by_cases g3 : 0 ≤ w ∧ w ≤ 1
    · rw [b2d g3, if_neg (by decide), if_pos g3]; exact j 0 (by decide) (fun _ => g2)
    · rw [b2n g3, if_pos rfl, if_neg g3]; exact j 2 (by decide) (fun q => absurd q (by decide))
  · rw [if_neg g2, if_neg (by decide), if_neg g2]; exact j 1 (by decide) (fun q => absurd q (by decide))
/-! one more worn bar -/
theorem s_stepsIf (A : At h c p L M) (I : RI M t) (hS2 : nS t ≤ 20000) {b : Int} (b0_ : 0 ≤ b) (b1 : b < nb t) : ∃ h' M', f_Md_stepsIf h 75 (qor (wnk t) (qshl 1 b)) = some ((0, iw t b), h') ∧ At h' c p L M' ∧ FL M M' := by
  have W := I.2.1
  have hnb := W.1
  obtain ⟨h2, M2, f2, A2, F2, P2⟩ := s_layF A I hS2 (w := qor (wnk t) (qshl 1 b)) (wn := wW t b) (qor_rng _ _) (fun d g0 g1 => by
    unfold wM wW
    rw [bt_qor, bt_shl1 b0_ (by omega) (by omega)]
    have := (wnk_ok W).2 d g0 g1
    unfold wM at this
    rw [this]
    congr 1; exact decide_eq_decide.mpr (by omega)) I.nowr.1 I.nowr.2
  have C2 := A2.md
  have I2 := I.fm F2.fm
  have ho := I.opnr
  refine ⟨h2, M2, ?_, A2, F2⟩
  unfold f_Md_stepsIf
  rw [chk_t (I.mh A).T, s_now A I, bndT_ok (by decide), chk_t (I.mh A).T, f2, bndT_ok (by decide), chk_t (I2.mh A2).T, chk_t (I2.mh A2).T, s_opn A2 I2, bndT_ok (by decide)]
  simp only [C2]
  rw [chk_t trivial, chk_t (by omega), P2.1 _ ho.1 ho.2]
  rfl
theorem r_ifWorn (A : At h c p L M) (I : RI M t) (b : Int) : RV c p L M 0 (f_Md_ifWorn h 75 b) (iw t b) (if 0 ≤ b ∧ b < nb t then (if nS t ≤ 20000 then 0 else 2) else 1) := by
  have B := I.mh A
  have j : ∀ x : Int, 0 ≤ x → (x = 0 → (0 ≤ b ∧ b < nb t) ∧ nS t ≤ 20000) → RV c p L M 0 (f_Md_ifWorn_J26 75 b 75 x h) (iw t b) x := by
    intro x h0 hx
    unfold f_Md_ifWorn_J26
    refine RV_head A I h0 (fun _ => rfl) (fun g h1 M1 A1 I1 e1 F1 => ?_)
    obtain ⟨k1, k2⟩ := hx g
    obtain ⟨h2, M2, f2, A2, F2⟩ := s_stepsIf A1 I1 k2 k1.1 k1.2
    rw [chk_t (I1.mh A1).T, s_wn A1 I1, bndT_ok (by decide), chk_t (I1.mh A1).T, f2, bndT_ok (by decide)]
    exact RV_mv F2.fm (RV_ok A2 (by rw [F2.2 5 (by decide)]; exact e1))
  unfold f_Md_ifWorn
  rw [chk_t B.T, s_Md_isBar B I.2.1, bndT_ok (by decide)]
  by_cases g : 0 ≤ b ∧ b < nb t
  · rw [b2d g, if_neg (by decide), chk_t B.T, s_Md_spent A I, bndT_ok (by decide), if_pos g]
    by_cases g2 : nS t ≤ 20000
    · rw [if_pos g2, if_pos rfl, if_pos g2]; exact j 0 (by decide) (fun _ => ⟨g, g2⟩)
    · rw [if_neg g2, if_neg (by decide), if_neg g2]; exact j 2 (by decide) (fun q => absurd q (by decide))
  · rw [b2n g, if_pos rfl, if_neg g]; exact j 1 (by decide) (fun q => absurd q (by decide))
theorem r_weakest (A : At h c p L M) (I : RI M t) : RV c p L M 0 (f_Md_weakest h 75) (wk t (nb t).toNat).1 (if nS t ≤ 20000 then 0 else 1) := by
  have W := I.2.1
  have hnb := W.1
  have B := I.mh A
  have j : ∀ x : Int, 0 ≤ x → (x = 0 → nS t ≤ 20000) → RV c p L M 0 (f_Md_weakest_J13 75 75 x h) (wk t (nb t).toNat).1 x := by
    intro x h0 hx
    unfold f_Md_weakest_J13
    refine RV_head A I h0 (fun _ => rfl) (fun g h1 M1 A1 I1 e1 F1 => ?_)
    have hS2 := hx g
    refine loop_r (F := fun n (y : mH × Int × Int × Int) => f_Md_weakest_L31 75 n y.1 y.2.1 y.2.2.1 y.2.2.2) (P := fun o => RV c p L M1 0 o (wk t (nb t).toNat).1 0) (fun i y => y.2.2.2 = (i : Int) ∧ y.2.1 = (wk t i).1 ∧ ((wk t i).1 ≠ -1 → y.2.2.1 = (wk t i).2) ∧ ∃ M', At y.1 c p L M' ∧ FM M1 M' ∧ M' 75 5 = 0) (nb t).toNat (fun i hi y hy n => ?_) (fun y hy n => ?_) (i := 0) (b := (h1, -1, 0, 0)) ⟨rfl, rfl, fun q => absurd rfl q, M1, A1, Fs.rf _ _ _ _, e1⟩ (by omega) (by omega)
    · obtain ⟨h2, u, v, r⟩ := y
      obtain ⟨hr_, hu_, hv_, M2, A2_, F2, e2⟩ := hy
      have hr : r = (i : Int) := hr_
      have hu : u = (wk t i).1 := hu_
      have hv : (wk t i).1 ≠ -1 → v = (wk t i).2 := hv_
      have A2 : At h2 c p L M2 := A2_
      clear hr_ hu_ hv_ A2_
      subst hr; subst hu
      right
      have I2 := I1.fm F2
      obtain ⟨h3, M3, f3, A3, F3⟩ := s_stepsIf A2 I2 hS2 (b := i) (by omega) (by omega)
      have e3 : M3 75 5 = 0 := by rw [F3.2 5 (by decide)]; exact e2
      have F3' : FM M1 M3 := F2.tr F3.fm
      have j78 : ∀ a d : Int, a = (wk t (i + 1)).1 → ((wk t (i + 1)).1 ≠ -1 → d = (wk t (i + 1)).2) → ∃ b' : mH × Int × Int × Int, (b'.2.2.2 = ((i + 1 : Nat) : Int) ∧ b'.2.1 = (wk t (i + 1)).1 ∧ ((wk t (i + 1)).1 ≠ -1 → b'.2.2.1 = (wk t (i + 1)).2) ∧ ∃ M', At b'.1 c p L M' ∧ FM M1 M' ∧ M' 75 5 = 0) ∧ f_Md_weakest_J78 (f_Md_weakest_L31 75 n) a d i h3 = f_Md_weakest_L31 75 n b'.1 b'.2.1 b'.2.2.1 b'.2.2.2 := fun a d q1 q2 => by
        refine ⟨(h3, a, d, ((i + 1 : Nat) : Int)), ⟨rfl, q1, q2, M3, A3, F3', e3⟩, ?_⟩
        unfold f_Md_weakest_J78
        rw [wtv, w32_n i (by omega)]
      have ew : wk t (i + 1) = if iw t i = -1 ∨ ((wk t i).1 ≠ -1 ∧ (wk t i).2 ≤ iw t i) then wk t i else ((i : Int), iw t i) := rfl
      show ∃ b' : mH × Int × Int × Int, _ ∧ f_Md_weakest_L31 75 (n + 1) h2 (wk t i).1 v i = _
      rw [f_Md_weakest_L31, chk_t (I2.mh A2).T, s_Md_bars (I2.mh A2), bndT_ok (by decide), if_neg (by omega), chk_t (I2.mh A2).T, s_wn A2 I2, bndT_ok (by decide), chk_t (I2.mh A2).T, f3, bndT_ok (by decide)]
      unfold f_Md_weakest_J73
      by_cases q : iw t i = -1
      · rw [if_pos q]
        rw [if_pos (Or.inl q)] at ew
        exact j78 _ _ (by rw [ew]) (by rw [ew]; exact hv)
      · rw [if_neg q]
        by_cases q1 : (wk t i).1 = -1
        · rw [if_pos q1]
          rw [if_neg (by rintro (q2 | q2); exact q q2; exact q2.1 q1)] at ew
          exact j78 _ _ (by rw [ew]) (fun _ => by rw [ew])
        · rw [if_neg q1, hv q1]
          by_cases q2 : iw t i < (wk t i).2
          · rw [if_pos q2]
            rw [if_neg (by rintro (q3 | q3); exact q q3; have := q3.2; omega)] at ew
            exact j78 _ _ (by rw [ew]) (fun _ => by rw [ew])
          · rw [if_neg q2]
            rw [if_pos (Or.inr ⟨q1, by omega⟩)] at ew
            exact j78 _ _ (by rw [ew]) (fun _ => by rw [ew])
    · obtain ⟨h2, u, v, r⟩ := y
      obtain ⟨hr_, hu_, hv_, M2, A2_, F2, e2⟩ := hy
      have hr : r = ((nb t).toNat : Int) := hr_
      have hu : u = (wk t (nb t).toNat).1 := hu_
      have A2 : At h2 c p L M2 := A2_
      clear hr_ hu_ hv_ A2_
      subst hr; subst hu
      have I2 := I1.fm F2
      show RV c p L M1 0 (f_Md_weakest_L31 75 (n + 1) h2 (wk t (nb t).toNat).1 v ((nb t).toNat : Int)) _ 0
      rw [f_Md_weakest_L31, chk_t (I2.mh A2).T, s_Md_bars (I2.mh A2), bndT_ok (by decide), if_pos (by omega)]
      exact RV_mv F2 (RV_ok A2 e2)
  unfold f_Md_weakest
  rw [chk_t B.T, s_Md_spent A I, bndT_ok (by decide)]
  by_cases g2 : nS t ≤ 20000
  · rw [if_pos g2, if_pos rfl]; exact j 0 (by decide) (fun _ => g2)
  · rw [if_neg g2, if_neg (by decide)]; exact j 1 (by decide) (fun q => absurd q (by decide))
end
