/-! THE REFERENCE'S WALKS BOTH WAYS; WAYS COUNTED -/
section
variable {h : mH} {c : Int} {p L : Int → Int} {M : aM} {t : tT}
/-- distances to OPEN stand in end -/
def EQ (M : aM) (t : tT) (f : Int → Int) : Prop := ∀ s, 0 ≤ s → s < nS t → M 88 s = f s
theorem s_laysBoth (A : At h c p L M) (I : RI M t) (hS2 : nS t ≤ 20000) : ∃ h' M', f_Md_laysBoth h 75 = some ((3, 0), h') ∧ At h' c p L M' ∧ FM M M' ∧ M' 75 5 = M 75 5 ∧ RP M' t (SF t (st t (pa t))) ∧ EQ M' t (bF (SB t (st t (po t)))) := by
  have W := I.2.1
  have hn := nN_eq W
  have B := I.mh A
  obtain ⟨h1, M1, f1, A1, F1, P1⟩ := s_layT A I hS2 (wnk_ok W).1 (wnk_ok W).2 I.opnr.1 I.opnr.2
  have P1 : RP M1 t (SB t (st t (po t))) := P1
  have I1 := I.fm F1.fm
  unfold f_Md_laysBoth
  rw [chk_t B.T, s_opn A I, bndT_ok (by decide), chk_t B.T, s_wn A I, bndT_ok (by decide), chk_t B.T, f1, bndT_ok (by decide)]
  refine loop_r (F := fun n (b : mH × Int) => f_Md_laysBoth_L14 (fun h7 => chk (hpT h7 75 = 12) (bndT 0 (f_Md_standNow h7 75) (fun x9 h8 => chk (hpT h8 75 = 12) (bndT 0 (f_Md_worn h8 75) (fun x11 h10 => chk (hpT h10 75 = 12) (bndT 3 (f_Md_laysFrom h10 75 x9 x11) (fun x13 h12 => some ((3, 0), h12)))))))) 75 n b.1 b.2) (P := fun r => ∃ h' M', r = some ((3, 0), h') ∧ At h' c p L M' ∧ FM M M' ∧ M' 75 5 = M 75 5 ∧ RP M' t (SF t (st t (pa t))) ∧ EQ M' t (bF (SB t (st t (po t))))) (fun i b => b.2 = (i : Int) ∧ ∃ M', At b.1 c p L M' ∧ Fr [88] M1 M' ∧ ∀ s, 0 ≤ s → s < (i : Int) → M' 88 s = bF (SB t (st t (po t))) s) (nN t) (fun i hi b hb n => ?_) (fun b hb n => ?_) (i := 0) (b := (h1, 0)) ⟨rfl, M1, A1, Fr.rf _ _, fun s g0 g1 => by omega⟩ (by omega) (by omega)
  · obtain ⟨h2, r⟩ := b
    obtain ⟨hr_, M2, A2_, F2, v2⟩ := hb
    have hr : r = (i : Int) := hr_
    have A2 : At h2 c p L M2 := A2_
    clear hr_ A2_
    subst hr
    right
    have I2 := I1.fm (F2.fm (by decide) (by decide))
    have B2 := I2.mh A2
    have C2 := A2.md
    have A3 := A2.aput (v := 88) i (bF (SB t (st t (po t))) i) (by decide) (by decide) (by decide) (by decide +kernel) (by decide) (by decide)
    refine ⟨(hput h2 88 i (bF (SB t (st t (po t))) i), ((i + 1 : Nat) : Int)), ⟨rfl, _, A3, F2.pu (by decide), fun s g0 g1 => ?_⟩, ?_⟩
    · by_cases e : s = i
      · rw [e, mup_eq]
      · rw [mup_ne (Or.inr e)]; exact v2 s g0 (by omega)
    · show f_Md_laysBoth_L14 _ 75 (n + 1) h2 i = f_Md_laysBoth_L14 _ 75 n (hput h2 88 i (bF (SB t (st t (po t))) i)) ((i + 1 : Nat) : Int)
      have e84 : M2 84 i = bF (SB t (st t (po t))) i := by rw [F2 84 (by decide)]; exact P1.1 i (by omega) (by omega)
      rw [f_Md_laysBoth_L14, chk_t B2.T, s_Md_stands B2 W, bndT_ok (by decide), if_neg (by omega)]
      simp only [C2]
      rw [chk_t trivial, chk_t trivial, chk_t trivial, chk_t (by omega), chk_t trivial, chk_t (by omega), wth, wtv, w32_n i (by omega), e84]
  · obtain ⟨h2, r⟩ := b
    obtain ⟨hr_, M2, A2_, F2, v2⟩ := hb
    have hr : r = ((nN t : Nat) : Int) := hr_
    have A2 : At h2 c p L M2 := A2_
    clear hr_ A2_
    subst hr
    have I2 := I1.fm (F2.fm (by decide) (by decide))
    have B2 := I2.mh A2
    obtain ⟨h3, M3, f3, A3, F3, P3⟩ := s_fromNow A2 I2 hS2
    refine ⟨h3, M3, ?_, A3, (F1.fm.tr (F2.fm (by decide) (by decide))).tr F3.fm, by rw [F3.2 5 (by decide), F2 75 (by decide), F1.2 5 (by decide)], P3, fun s g0 g1 => by rw [F3.1 88 (by decide) (by decide)]; exact v2 s g0 (by omega)⟩
    show f_Md_laysBoth_L14 _ 75 (n + 1) h2 _ = _
    rw [f_Md_laysBoth_L14, chk_t B2.T, s_Md_stands B2 W, bndT_ok (by decide), if_pos (show nS t ≤ ((nN t : Nat) : Int) by omega), chk_t B2.T, s_now A2 I2, bndT_ok (by decide), chk_t B2.T, s_wn A2 I2, bndT_ok (by decide), chk_t B2.T, f3, bndT_ok (by decide)]
theorem r_dead (A : At h c p L M) (I : RI M t) (w : Int) : RV c p L M 0 (f_Md_dead h 75 w) (if w = 0 then cnN (Qd t) (nN t) else f1 (Qd t) (nN t)) (if nS t ≤ 20000 then (if 0 ≤ w ∧ w ≤ 1 then 0 else 2) else 1) := by
  have W := I.2.1
  have B := I.mh A
  have hn := nN_eq W
  have hS := nS_rng W
  have j : ∀ x : Int, 0 ≤ x → (x = 0 → nS t ≤ 20000) → RV c p L M 0 (f_Md_dead_J27 75 w 75 x h) (if w = 0 then cnN (Qd t) (nN t) else f1 (Qd t) (nN t)) x := by
    intro x h0 hx
    unfold f_Md_dead_J27
    refine RV_head A I h0 (fun _ => rfl) (fun g h1 M1 A1 I1 e1 F1 => ?_)
    obtain ⟨h2, M2, f2, A2, F2, e2', P2, E2⟩ := s_laysBoth A1 I1 (hx g)
    have hS2 := hx g
    have I2 := I1.fm F2
    have B2 := I2.mh A2
    have C2 := A2.md
    have e2 : M2 75 5 = 0 := by rw [e2']; exact e1
    rw [chk_t (I1.mh A1).T, f2, bndT_ok (by decide), chk_t B2.T, s_Md_stands B2 W, bndT_ok (by decide), wtv, w32_id (by omega) (by omega)]
    refine RV_mv F2 ?_
    have hQ : ∀ s : Int, 0 ≤ s → s < nS t → (Qd t s = true ↔ (M2 84 s ≠ -1 ∧ M2 88 s = -1)) := fun s g0 g1 => by
      rw [P2.1 s g0 g1, E2 s g0 g1]
      unfold Qd
      rw [Bool.and_eq_true, decide_eq_true_eq, decide_eq_true_eq]
    have hcnt : ∀ m : Nat, cnN (Qd t) (m + 1) = cnN (Qd t) m + (if Qd t m = true then 1 else 0) := fun m => rfl
    refine loop_r (F := fun n (b : Int × Int × Int) => f_Md_dead_L55 (fun h7 x8 x9 => (if w = 0 then some ((0, x8), h7) else some ((0, x9), h7))) 75 n h2 b.1 b.2.1 b.2.2) (P := fun o => RV c p L M2 0 o (if w = 0 then cnN (Qd t) (nN t) else f1 (Qd t) (nN t)) 0) (fun i b => b.2.2 = nS t - 1 - i ∧ 0 ≤ b.1 ∧ b.1 ≤ i ∧ b.1 + cnN (Qd t) (nN t - i) = cnN (Qd t) (nN t) ∧ ((b.2.1 = -1 ∧ ∀ s, nS t - i ≤ s → s < nS t → Qd t s = false) ∨ ((nS t - i ≤ b.2.1 ∧ b.2.1 < nS t) ∧ Qd t b.2.1 = true ∧ ∀ s, nS t - i ≤ s → s < b.2.1 → Qd t s = false))) (nN t) (fun i hi b hb n => ?_) (fun b hb n => ?_) (i := 0) (b := (0, -1, nS t - 1)) ⟨by show nS t - 1 = _; omega, Int.le_refl _, by show (0 : Int) ≤ ((0 : Nat) : Int); omega, by show 0 + cnN (Qd t) (nN t - 0) = _; rw [Nat.sub_zero]; omega, Or.inl ⟨rfl, fun s g0 g1 => by omega⟩⟩ (by omega) (by omega)
    · obtain ⟨u, v, r⟩ := b
      obtain ⟨hr_, hu0_, hu1_, hc_, hv_⟩ := hb
      have hr : r = nS t - 1 - i := hr_
      have hu0 : 0 ≤ u := hu0_
      have hu1 : u ≤ i := hu1_
      have hc : u + cnN (Qd t) (nN t - i) = cnN (Qd t) (nN t) := hc_
      have hv : (v = -1 ∧ ∀ s, nS t - i ≤ s → s < nS t → Qd t s = false) ∨ ((nS t - i ≤ v ∧ v < nS t) ∧ Qd t v = true ∧ ∀ s, nS t - i ≤ s → s < v → Qd t s = false) := hv_
      clear hr_ hu0_ hu1_ hc_ hv_
      right
      have hm : nN t - i = (nN t - (i + 1)) + 1 := by omega
      have hme : ((nN t - (i + 1) : Nat) : Int) = r := by omega
      have hcc := hcnt (nN t - (i + 1))
      rw [← hm, hme] at hcc
      have hq := hQ r (by omega) (by omega)
      have j91 : ∀ a d : Int, 0 ≤ a → a ≤ ((i + 1 : Nat) : Int) → a + cnN (Qd t) (nN t - (i + 1)) = cnN (Qd t) (nN t) → ((d = -1 ∧ ∀ s, nS t - ((i + 1 : Nat) : Int) ≤ s → s < nS t → Qd t s = false) ∨ ((nS t - ((i + 1 : Nat) : Int) ≤ d ∧ d < nS t) ∧ Qd t d = true ∧ ∀ s, nS t - ((i + 1 : Nat) : Int) ≤ s → s < d → Qd t s = false)) → ∃ b' : Int × Int × Int, (b'.2.2 = nS t - 1 - ((i + 1 : Nat) : Int) ∧ 0 ≤ b'.1 ∧ b'.1 ≤ ((i + 1 : Nat) : Int) ∧ b'.1 + cnN (Qd t) (nN t - (i + 1)) = cnN (Qd t) (nN t) ∧ ((b'.2.1 = -1 ∧ ∀ s, nS t - ((i + 1 : Nat) : Int) ≤ s → s < nS t → Qd t s = false) ∨ ((nS t - ((i + 1 : Nat) : Int) ≤ b'.2.1 ∧ b'.2.1 < nS t) ∧ Qd t b'.2.1 = true ∧ ∀ s, nS t - ((i + 1 : Nat) : Int) ≤ s → s < b'.2.1 → Qd t s = false))) ∧ f_Md_dead_J91 (f_Md_dead_L55 (fun h7 x8 x9 => (if w = 0 then some ((0, x8), h7) else some ((0, x9), h7))) 75 n) a d r h2 = f_Md_dead_L55 (fun h7 x8 x9 => (if w = 0 then some ((0, x8), h7) else some ((0, x9), h7))) 75 n h2 b'.1 b'.2.1 b'.2.2 := fun a d q0 q1 q2 q3 => by
        refine ⟨(a, d, r + -1), ⟨by show r + -1 = _; omega, q0, q1, q2, q3⟩, ?_⟩
        unfold f_Md_dead_J91
        rw [wtv, w32_id (by omega) (by omega)]
      have none : Qd t r = false → ((v = -1 ∧ ∀ s, nS t - ((i + 1 : Nat) : Int) ≤ s → s < nS t → Qd t s = false) ∨ ((nS t - ((i + 1 : Nat) : Int) ≤ v ∧ v < nS t) ∧ Qd t v = true ∧ ∀ s, nS t - ((i + 1 : Nat) : Int) ≤ s → s < v → Qd t s = false)) := fun q => by
        rcases hv with ⟨q1, q2⟩ | ⟨q1, q2, q3⟩
        · left; refine ⟨q1, fun s g0 g1 => ?_⟩
          by_cases e : s = r
          · rw [e]; exact q
          · exact q2 s (by omega) g1
        · right; refine ⟨by omega, q2, fun s g0 g1 => ?_⟩
          by_cases e : s = r
          · rw [e]; exact q
          · exact q3 s (by omega) g1
      show ∃ b' : Int × Int × Int, _ ∧ f_Md_dead_L55 _ 75 (n + 1) h2 u v r = _
      rw [f_Md_dead_L55, if_neg (show ¬ r < 0 by omega)]
      simp only [C2]
      rw [chk_t trivial, chk_t trivial, chk_t (by omega)]
      by_cases q : M2 84 r = -1
      · have hf : Qd t r = false := by
          cases q2 : Qd t r
          · rfl
          · exact absurd q (hq.mp q2).1
        rw [if_pos q]
        rw [hf, if_neg (by decide)] at hcc
        exact j91 u v hu0 (by omega) (by omega) (none hf)
      · rw [if_neg q, chk_t trivial, chk_t trivial, chk_t (by omega)]
        by_cases q1 : M2 88 r = -1
        · have hf : Qd t r = true := hq.mpr ⟨q, q1⟩
          rw [if_pos q1, wtv, w32_id (by omega) (by omega)]
          rw [hf, if_pos rfl] at hcc
          exact j91 (u + 1) r (by omega) (by omega) (by omega) (Or.inr ⟨by omega, hf, fun s g0 g1 => by omega⟩)
        · have hf : Qd t r = false := by
            cases q2 : Qd t r
            · rfl
            · exact absurd (hq.mp q2).2 q1
          rw [if_neg q1]
          rw [hf, if_neg (by decide)] at hcc
          exact j91 u v hu0 (by omega) (by omega) (none hf)
    · obtain ⟨u, v, r⟩ := b
      obtain ⟨hr_, hu0_, hu1_, hc_, hv_⟩ := hb
      have hr : r = nS t - 1 - ((nN t : Nat) : Int) := hr_
      have hc : u + cnN (Qd t) (nN t - nN t) = cnN (Qd t) (nN t) := hc_
      have hv : (v = -1 ∧ ∀ s, nS t - ((nN t : Nat) : Int) ≤ s → s < nS t → Qd t s = false) ∨ ((nS t - ((nN t : Nat) : Int) ≤ v ∧ v < nS t) ∧ Qd t v = true ∧ ∀ s, nS t - ((nN t : Nat) : Int) ≤ s → s < v → Qd t s = false) := hv_
      rw [Nat.sub_self] at hc
      have hc2 : u = cnN (Qd t) (nN t) := by rw [← hc]; show u = u + 0; omega
      have hv2 : v = f1 (Qd t) (nN t) := by
        rcases hv with ⟨q1, q2⟩ | ⟨q1, q2, q3⟩
        · rw [q1, f1_none (fun s g0 g1 => q2 s (by omega) (by omega))]
        · exact (f1_at (by omega) (by omega) q2 (fun s g0 g1 => q3 s (by omega) g1)).symm
      show RV c p L M2 0 (f_Md_dead_L55 _ 75 (n + 1) h2 u v r) _ 0
      rw [f_Md_dead_L55, if_pos (show r < 0 by omega), hc2, hv2]
      by_cases q : w = 0
      · rw [if_pos q, if_pos q]; exact RV_ok A2 e2
      · rw [if_neg q, if_neg q]; exact RV_ok A2 e2
  unfold f_Md_dead
  rw [chk_t B.T, s_Md_spent A I, bndT_ok (by decide)]
  by_cases g2 : nS t ≤ 20000
  · rw [if_pos g2, if_pos rfl, if_pos g2, s_Md_amid, bndT_ok (by decide)]
    by_cases g3 : 0 ≤ w ∧ w ≤ 1
    · rw [b2d g3, if_neg (by decide), if_pos g3]; exact j 0 (by decide) (fun _ => g2)
    · rw [b2n g3, if_pos rfl, if_neg g3]; exact j 2 (by decide) (fun q => absurd q (by decide))
  · rw [if_neg g2, if_neg (by decide), if_neg g2]; exact j 1 (by decide) (fun q => absurd q (by decide))
theorem nF_gs (W : WS t) {s v : Int} (h0 : 0 ≤ s) (h1 : s < nS t) : (nF t s v = -1 ∧ gs t s v = false) ∨ (gs t s v = true ∧ nF t s v = s + sf t v ∧ 0 ≤ nF t s v ∧ nF t s v < nS t) := by
  rcases nF_rng W (v := v) h0 h1 with e | e
  · left
    refine ⟨e, ?_⟩
    cases q : gs t s v
    · rfl
    · have := gs_to W h0 h1 q
      unfold nF th at e
      rw [if_pos q] at e; omega
  · exact Or.inr ⟨e.1, e.2.1, e.2.2.1, e.2.2.2.1⟩
theorem r_oneWays (A : At h c p L M) (I : RI M t) : RV c p L M 0 (f_Md_oneWays h 75) (smN (fun i => ow t (bO (SF t (st t (pa t))) i)) (bM (SF t (st t (pa t)))).toNat) (if nS t ≤ 20000 then 0 else 1) := by
  have W := I.2.1
  have hnb := W.1
  have B := I.mh A
  have hn := nN_eq W
  have hS := nS_rng W
  have hk := nK_rng W
  have BI := SF_B W I.nowr.1 I.nowr.2
  have hle := BI.le
  have j : ∀ x : Int, 0 ≤ x → (x = 0 → nS t ≤ 20000) → RV c p L M 0 (f_Md_oneWays_J13 75 75 x h) (smN (fun i => ow t (bO (SF t (st t (pa t))) i)) (bM (SF t (st t (pa t)))).toNat) x := by
    intro x h0 hx
    unfold f_Md_oneWays_J13
    refine RV_head A I h0 (fun _ => rfl) (fun g h1 M1 A1 I1 e1 F1 => ?_)
    obtain ⟨h2, M2, f2, A2, F2, P2⟩ := s_fromNow A1 I1 (hx g)
    have hS2 := hx g
    have I2 := I1.fm F2.fm
    have e2 : M2 75 5 = 0 := by rw [F2.2 5 (by decide)]; exact e1
    rw [chk_t (I1.mh A1).T, s_wn A1 I1, bndT_ok (by decide), chk_t (I1.mh A1).T, s_now A1 I1, bndT_ok (by decide), chk_t (I1.mh A1).T, f2, bndT_ok (by decide)]
    refine RV_mv F2.fm ?_
    generalize SF t (st t (pa t)) = S at P2 BI hle ⊢
    refine loop_r (F := fun n (b : mH × Int × Int) => f_Md_oneWays_L43 75 (wnk t) n b.1 b.2.1 b.2.2) (P := fun o => RV c p L M2 0 o (smN (fun i => ow t (bO S i)) (bM S).toNat) 0) (fun i b => b.2 = (smN (fun i => ow t (bO S i)) i, (i : Int)) ∧ ∃ M', At b.1 c p L M' ∧ Fr [82] M2 M') (bM S).toNat (fun i hi b hb n => ?_) (fun b hb n => ?_) (i := 0) (b := (h2, 0, 0)) ⟨rfl, M2, A2, Fr.rf _ _⟩ (by omega) (by omega)
    · obtain ⟨h3, r⟩ := b
      obtain ⟨hr_, M3, A3_, F3⟩ := hb
      have hr : r = (smN (fun i => ow t (bO S i)) i, (i : Int)) := hr_
      have A3 : At h3 c p L M3 := A3_
      clear hr_ A3_
      subst hr
      right
      have hu := BI.2.1 i (by omega) (by omega)
      have hsm := smN_rng (f := fun i => ow t (bO S i)) (m := 18) (n := i) (fun j _ _ => by have := ow_rng t (bO S j); omega)
      have C3 := A3.md
      have P3 := P2.f82 F3
      have u0 : 0 ≤ bO S i := hu.1.1
      have u1_ : bO S i < nS t := by omega
      have inner : ∃ h4 M4, f_Md_oneWays_L54 (fun h1 x2 => wtv (w32 ((i : Int) + 1)) (fun x3 => (f_Md_oneWays_L43 75 (wnk t) n) h1 x2 x3)) 75 (wnk t) i 1000000 h3 (smN (fun i => ow t (bO S i)) i) 0 = wtv (w32 ((i : Int) + 1)) (fun x3 => (f_Md_oneWays_L43 75 (wnk t) n) h4 (smN (fun i => ow t (bO S i)) i + ow t (bO S i)) x3) ∧ At h4 c p L M4 ∧ Fr [82] M2 M4 := by
        refine loop_r (F := fun n' (b : mH × Int × Int) => f_Md_oneWays_L54 (fun h1 x2 => wtv (w32 ((i : Int) + 1)) (fun x3 => (f_Md_oneWays_L43 75 (wnk t) n) h1 x2 x3)) 75 (wnk t) i n' b.1 b.2.1 b.2.2) (P := fun o => ∃ h4 M4, o = wtv (w32 ((i : Int) + 1)) (fun x3 => (f_Md_oneWays_L43 75 (wnk t) n) h4 (smN (fun i => ow t (bO S i)) i + ow t (bO S i)) x3) ∧ At h4 c p L M4 ∧ Fr [82] M2 M4) (fun v b => b.2 = (smN (fun i => ow t (bO S i)) i + cnN (fun v => gs t (bO S i) v && !gs t (bO S i + sf t v) (vx v)) v, (v : Int)) ∧ ∃ M', At b.1 c p L M' ∧ Fr [82] M2 M') (nK t) (fun v hv b hb n' => ?_) (fun b hb n' => ?_) (i := 0) (b := (h3, smN (fun i => ow t (bO S i)) i, 0)) ⟨by show _ = (smN (fun i => ow t (bO S i)) i + 0, _); rw [Int.add_zero]; rfl, M3, A3, F3⟩ (by omega) (by omega)
        · obtain ⟨h4, r⟩ := b
          obtain ⟨hr_, M4, A4_, F4⟩ := hb
          have hr : r = (smN (fun i => ow t (bO S i)) i + cnN (fun v => gs t (bO S i) v && !gs t (bO S i + sf t v) (vx v)) v, (v : Int)) := hr_
          have A4 : At h4 c p L M4 := A4_
          clear hr_ A4_
          subst hr
          right
          have I4 := I2.fm (F4.fm (by decide) (by decide))
          have C4 := A4.md
          have P4 := P2.f82 F4
          have hcr := cnN_rng (fun v => gs t (bO S i) v && !gs t (bO S i + sf t v) (vx v)) v
          have hvx : 0 ≤ vx v ∧ vx v < 2 * nb t := by unfold vx; split <;> omega
          obtain ⟨h5, M5, f5, A5, F5⟩ := s_thn A4 I4 (s := bO S i) (v := v) u0 u1_ (by omega) (by omega)
          have I5 := I4.fm (F5.fm (by decide) (by decide))
          have hcs : cnN (fun v => gs t (bO S i) v && !gs t (bO S i + sf t v) (vx v)) (v + 1) = cnN (fun v => gs t (bO S i) v && !gs t (bO S i + sf t v) (vx v)) v + (if (gs t (bO S i) v && !gs t (bO S i + sf t v) (vx v)) = true then 1 else 0) := rfl
          have j102 : ∀ (h6 : mH) (M6 : aM) (a : Int), At h6 c p L M6 → Fr [82] M2 M6 → a = smN (fun i => ow t (bO S i)) i + cnN (fun v => gs t (bO S i) v && !gs t (bO S i + sf t v) (vx v)) (v + 1) → ∃ b' : mH × Int × Int, (b'.2 = (smN (fun i => ow t (bO S i)) i + cnN (fun v => gs t (bO S i) v && !gs t (bO S i + sf t v) (vx v)) (v + 1), ((v + 1 : Nat) : Int)) ∧ ∃ M', At b'.1 c p L M' ∧ Fr [82] M2 M') ∧ f_Md_oneWays_J102 (f_Md_oneWays_L54 (fun h1 x2 => wtv (w32 ((i : Int) + 1)) (fun x3 => (f_Md_oneWays_L43 75 (wnk t) n) h1 x2 x3)) 75 (wnk t) i n') a v h6 = f_Md_oneWays_L54 (fun h1 x2 => wtv (w32 ((i : Int) + 1)) (fun x3 => (f_Md_oneWays_L43 75 (wnk t) n) h1 x2 x3)) 75 (wnk t) i n' b'.1 b'.2.1 b'.2.2 := fun h6 M6 a A6 F6 ha => by
            refine ⟨(h6, a, ((v + 1 : Nat) : Int)), ⟨by rw [ha], M6, A6, F6⟩, ?_⟩
            unfold f_Md_oneWays_J102
            rw [wtv, w32_n v (by omega)]
          show ∃ b' : mH × Int × Int, _ ∧ f_Md_oneWays_L54 _ 75 (wnk t) i (n' + 1) h4 _ v = _
          rw [f_Md_oneWays_L54, chk_t (I4.mh A4).T, s_Md_steps (I4.mh A4) W, bndT_ok (by decide), if_neg (by omega)]
          simp only [C4]
          rw [chk_t trivial, chk_t trivial, chk_t (by omega), chk_t trivial, P4.2.1 i (by omega) (by omega), f5, bndT_ok (by decide)]
          rcases nF_gs W (v := (v : Int)) u0 u1_ with ⟨e, eg⟩ | ⟨eg, e, e0, e1_⟩
          · rw [if_pos e]
            exact j102 h5 M5 _ A5 (F4.tr F5) (by rw [hcs, eg]; simp)
          · obtain ⟨h6, M6, f6, A6, F6⟩ := s_thn A5 I5 (s := nF t (bO S i) v) (v := vx v) e0 e1_ hvx.1 hvx.2
            rw [if_neg (by omega), chk_t (I5.mh A5).T, qxor1 (by omega) (by omega), f6, bndT_ok (by decide)]
            rcases nF_gs W (v := vx v) e0 e1_ with ⟨d, dg_⟩ | ⟨dg_, d, d0, d1⟩
            · rw [if_pos d, wtv, show w32 (smN (fun i => ow t (bO S i)) i + cnN (fun v => gs t (bO S i) v && !gs t (bO S i + sf t v) (vx v)) v + 1) = smN (fun i => ow t (bO S i)) i + cnN (fun v => gs t (bO S i) v && !gs t (bO S i + sf t v) (vx v)) v + 1 from w32_id (by omega) (by omega)]
              exact j102 h6 M6 (smN (fun i => ow t (bO S i)) i + cnN (fun v => gs t (bO S i) v && !gs t (bO S i + sf t v) (vx v)) v + 1) A6 ((F4.tr F5).tr F6) (by rw [hcs, eg, ← e, dg_]; simp [Int.add_assoc])
            · rw [if_neg (by omega)]
              exact j102 h6 M6 (smN (fun i => ow t (bO S i)) i + cnN (fun v => gs t (bO S i) v && !gs t (bO S i + sf t v) (vx v)) v) A6 ((F4.tr F5).tr F6) (by rw [hcs, eg, ← e, dg_]; simp)
        · obtain ⟨h4, r⟩ := b
          obtain ⟨hr_, M4, A4_, F4⟩ := hb
          have hr : r = (smN (fun i => ow t (bO S i)) i + cnN (fun v => gs t (bO S i) v && !gs t (bO S i + sf t v) (vx v)) (nK t), ((nK t : Nat) : Int)) := hr_
          have A4 : At h4 c p L M4 := A4_
          clear hr_ A4_
          subst hr
          have I4 := I2.fm (F4.fm (by decide) (by decide))
          refine ⟨h4, M4, ?_, A4, F4⟩
          show f_Md_oneWays_L54 _ 75 (wnk t) i (n' + 1) h4 _ ((nK t : Nat) : Int) = _
          rw [f_Md_oneWays_L54, chk_t (I4.mh A4).T, s_Md_steps (I4.mh A4) W, bndT_ok (by decide), if_pos (show 2 * nb t ≤ ((nK t : Nat) : Int) by omega)]
          rfl
      obtain ⟨h4, M4, f4, A4, F4⟩ := inner
      refine ⟨(h4, smN (fun i => ow t (bO S i)) i + ow t (bO S i), ((i + 1 : Nat) : Int)), ⟨rfl, M4, A4, F4⟩, ?_⟩
      show f_Md_oneWays_L43 75 (wnk t) (n + 1) h3 (smN (fun i => ow t (bO S i)) i) i = f_Md_oneWays_L43 75 (wnk t) n h4 (smN (fun i => ow t (bO S i)) i + ow t (bO S i)) ((i + 1 : Nat) : Int)
      rw [f_Md_oneWays_L43]
      simp only [C3]
      rw [chk_t trivial, P3.2.2, if_neg (by omega), f4, wtv, w32_n i (by omega)]
    · obtain ⟨h3, r⟩ := b
      obtain ⟨hr_, M3, A3_, F3⟩ := hb
      have hr : r = (smN (fun i => ow t (bO S i)) (bM S).toNat, ((bM S).toNat : Int)) := hr_
      have A3 : At h3 c p L M3 := A3_
      clear hr_ A3_
      subst hr
      have C3 := A3.md
      have P3 := P2.f82 F3
      show RV c p L M2 0 (f_Md_oneWays_L43 75 (wnk t) (n + 1) h3 (smN (fun i => ow t (bO S i)) (bM S).toNat) ((bM S).toNat : Int)) _ 0
      rw [f_Md_oneWays_L43]
      simp only [C3]
      rw [chk_t trivial, P3.2.2, if_pos (by omega)]
      exact RV_mv (F3.fm (by decide) (by decide)) (RV_ok A3 (by rw [F3 75 (by decide)]; exact e2))
  unfold f_Md_oneWays
  rw [chk_t B.T, s_Md_spent A I, bndT_ok (by decide)]
  by_cases g2 : nS t ≤ 20000
  · rw [if_pos g2, if_pos rfl]; exact j 0 (by decide) (fun _ => g2)
  · rw [if_neg g2, if_neg (by decide)]; exact j 1 (by decide) (fun q => absurd q (by decide))
/-- the last one that P picks among n, or -1 -/
def l1 (P : Int → Bool) : Nat → Int
  | 0 => -1
  | n + 1 => if P n = true then n else l1 P n
theorem l1_f1 {P : Int → Bool} {n : Nat} (h : cnN P n = 1) : l1 P n = f1 P n := by
  have H : ∀ m : Nat, (l1 P m = -1 ∧ ∀ s : Int, 0 ≤ s → s < m → P s = false) ∨ ((0 ≤ l1 P m ∧ l1 P m < m) ∧ P (l1 P m) = true) := by
    intro m
    induction m with
    | zero => exact Or.inl ⟨rfl, fun s g0 g1 => by omega⟩
    | succ m ih =>
      rw [l1]
      by_cases e : P m = true
      · rw [if_pos e]; exact Or.inr ⟨by omega, e⟩
      · rw [if_neg e]
        rcases ih with ⟨q1, q2⟩ | ⟨q1, q2⟩
        · left; refine ⟨q1, fun s g0 g1 => ?_⟩
          by_cases e2 : s = m
          · rw [e2]; exact Bool.eq_false_iff.mpr e
          · exact q2 s g0 (by omega)
        · exact Or.inr ⟨by omega, q2⟩
  rcases H n with ⟨q1, q2⟩ | ⟨q1, q2⟩
  · rw [cnN_false q2] at h; omega
  · exact (cnN_uniq h q1.1 q1.2 q2).symm
theorem r_musts (A : At h c p L M) (I : RI M t) {w : Int} (hw : -2147483648 ≤ w ∧ w < 2147483648) : RV c p L M 0 (f_Md_musts h 75 w) (muV t w) (if nS t ≤ 20000 then (if w = 0 ∨ 10 ≤ w then 0 else 2) else 1) := by
  have W := I.2.1
  have B := I.mh A
  have hn := nN_eq W
  have hS := nS_rng W
  have hdue := dueO_rng W I.2.2.1
  have j : ∀ x : Int, 0 ≤ x → (x = 0 → nS t ≤ 20000 ∧ (w = 0 ∨ 10 ≤ w)) → RV c p L M 0 (f_Md_musts_J27 75 w 75 x h) (muV t w) x := by
    intro x h0 hx
    unfold f_Md_musts_J27
    refine RV_head A I h0 (fun _ => rfl) (fun g h1 M1 A1 I1 e1 F1 => ?_)
    obtain ⟨hS2, hww⟩ := hx g
    obtain ⟨h2, M2, f2, A2, F2, e2', P2, E2⟩ := s_laysBoth A1 I1 hS2
    have I2 := I1.fm F2
    have B2 := I2.mh A2
    have C2 := A2.md
    have e2 : M2 75 5 = 0 := by rw [e2']; exact e1
    have ho := I.opnr
    have hfl : ∀ s, -1 ≤ bF (SF t (st t (pa t))) s ∧ bF (SF t (st t (pa t))) s < nS t := fun s => by
      have := BI.fle (SF_B W I.nowr.1 I.nowr.2) s
      rw [hn] at this; exact this
    rw [chk_t (I1.mh A1).T, f2, bndT_ok (by decide), chk_t B2.T, chk_t B2.T, s_opn A2 I2, bndT_ok (by decide)]
    simp only [C2]
    rw [chk_t trivial, chk_t (by omega), wtv, P2.1 _ ho.1 ho.2]
    refine RV_mv F2 ?_
    show RV c p L M2 0 (f_Md_musts_L58 (fun h7 x8 => (if w = 0 then some ((0, x8), h7) else some ((0, (-1)), h7))) 75 w (dueO t) 1000000 h2 0 0) (muV t w) 0
    -- one distance
    have hQ : ∀ d s : Int, -1000000 ≤ d → d ≤ 1000000 → 0 ≤ s → s < nS t → (Qm t d s = true ↔ (M2 84 s = d ∧ M2 88 s = w32 (dueO t - d))) := fun d s d0 d1 g0 g1 => by
      rw [P2.1 s g0 g1, E2 s g0 g1, w32_id (by omega) (by omega)]
      unfold Qm
      rw [Bool.and_eq_true, decide_eq_true_eq, decide_eq_true_eq]
    have row : ∀ (KK : mH → Int → Int → Option mR) (d : Int), 0 ≤ d → d ≤ 20000 → f_Md_musts_L73 KK 75 (dueO t) d 1000000 h2 0 (-1) 0 = KK h2 (cm t d) (l1 (Qm t d) (nN t)) := by
      intro KK d d0 d1
      refine loop_r (F := fun n (b : Int × Int × Int) => f_Md_musts_L73 KK 75 (dueO t) d n h2 b.1 b.2.1 b.2.2) (P := fun o => o = KK h2 (cm t d) (l1 (Qm t d) (nN t))) (fun i b => b = (cnN (Qm t d) i, l1 (Qm t d) i, (i : Int))) (nN t) (fun i hi b hb n => ?_) (fun b hb n => ?_) (i := 0) (b := (0, -1, 0)) rfl (by omega) (by omega)
      · subst hb
        right
        have hc := cnN_rng (Qm t d) i
        have hq := hQ d i (by omega) (by omega) (by omega) (by omega)
        refine ⟨_, rfl, ?_⟩
        show f_Md_musts_L73 KK 75 (dueO t) d (n + 1) h2 (cnN (Qm t d) i) (l1 (Qm t d) i) i = f_Md_musts_L73 KK 75 (dueO t) d n h2 (cnN (Qm t d) i + (if Qm t d i = true then 1 else 0)) (if Qm t d i = true then (i : Int) else l1 (Qm t d) i) ((i + 1 : Nat) : Int)
        rw [f_Md_musts_L73, chk_t B2.T, s_Md_stands B2 W, bndT_ok (by decide), if_neg (by omega)]
        simp only [C2]
        rw [chk_t trivial, chk_t trivial, chk_t (by omega)]
        unfold f_Md_musts_J118
        by_cases q : M2 84 i = d
        · rw [if_pos q, chk_t trivial, chk_t trivial, chk_t (by omega)]
          by_cases q1 : M2 88 i = w32 (dueO t - d)
          · have := hq.mpr ⟨q, q1⟩
            rw [if_pos q1, if_pos this, if_pos this, wtv, wtv, w32_id (by omega) (by omega), w32_n i (by omega)]
          · have : ¬ Qm t d i = true := fun q2 => q1 (hq.mp q2).2
            rw [if_neg q1, if_neg this, if_neg this, wtv, w32_n i (by omega), Int.add_zero]
        · have : ¬ Qm t d i = true := fun q2 => q (hq.mp q2).1
          rw [if_neg q, if_neg this, if_neg this, wtv, w32_n i (by omega), Int.add_zero]
      · subst hb
        show f_Md_musts_L73 KK 75 (dueO t) d (n + 1) h2 (cnN (Qm t d) (nN t)) (l1 (Qm t d) (nN t)) ((nN t : Nat) : Int) = _
        rw [f_Md_musts_L73, chk_t B2.T, s_Md_stands B2 W, bndT_ok (by decide), if_pos (show nS t ≤ ((nN t : Nat) : Int) by omega)]
        rfl
    refine loop_r (F := fun n (b : Int × Int) => f_Md_musts_L58 (fun h7 x8 => (if w = 0 then some ((0, x8), h7) else some ((0, (-1)), h7))) 75 w (dueO t) n h2 b.1 b.2) (P := fun o => RV c p L M2 0 o (muV t w) 0) (fun d b => b = (fo t d, (d : Int)) ∧ (w ≠ 0 → ∀ e : Int, 0 ≤ e → e < (d : Int) → (decide (cm t e = 1) && decide (fo t e = w - 10)) = false)) (dueO t + 1).toNat (fun d hd b hb n => ?_) (fun b hb n => ?_) (i := 0) (b := (0, 0)) ⟨rfl, fun _ e g0 g1 => by omega⟩ (by omega) (by omega)
    · obtain ⟨hb, hno⟩ := hb
      subst hb
      have hfo := fo_rng t d
      have hfs : fo t ((d + 1 : Nat) : Int) = fo t d + (if cm t d = 1 then 1 else 0) := by
        have := fo_succ (t := t) (d := d) (by omega)
        push_cast; exact this
      have next : (w ≠ 0 → (decide (cm t d = 1) && decide (fo t d = w - 10)) = false) → ∃ b' : Int × Int, (b' = (fo t ((d + 1 : Nat) : Int), ((d + 1 : Nat) : Int)) ∧ (w ≠ 0 → ∀ e : Int, 0 ≤ e → e < ((d + 1 : Nat) : Int) → (decide (cm t e = 1) && decide (fo t e = w - 10)) = false)) ∧ f_Md_musts_J147 (f_Md_musts_L58 (fun h7 x8 => (if w = 0 then some ((0, x8), h7) else some ((0, (-1)), h7))) 75 w (dueO t) n) (fo t ((d + 1 : Nat) : Int)) d h2 = f_Md_musts_L58 (fun h7 x8 => (if w = 0 then some ((0, x8), h7) else some ((0, (-1)), h7))) 75 w (dueO t) n h2 b'.1 b'.2 := fun hq => by
        refine ⟨_, ⟨rfl, fun w0 e g0 g1 => ?_⟩, ?_⟩
        · by_cases q : e = d
          · rw [q]; exact hq w0
          · exact hno w0 e g0 (by omega)
        · unfold f_Md_musts_J147
          rw [wtv, w32_n d (by omega)]
      show RV c p L M2 0 (f_Md_musts_L58 _ 75 w (dueO t) (n + 1) h2 (fo t d) d) _ 0 ∨ ∃ b', _ ∧ f_Md_musts_L58 _ 75 w (dueO t) (n + 1) h2 (fo t d) d = _
      rw [f_Md_musts_L58, if_neg (by omega), row _ d (by omega) (by omega)]
      by_cases q : cm t d = 1
      · rw [if_pos q] at hfs
        rw [if_pos q, w32_id (by omega) (by omega)]
        by_cases q1 : w = 10 + fo t d
        · left
          have w0 : w ≠ 0 := by omega
          have hp : (decide (cm t d = 1) && decide (fo t d = w - 10)) = true := by rw [decide_eq_true q, decide_eq_true (show fo t d = w - 10 by omega)]; rfl
          have ef : f1 (fun e => decide (cm t e = 1) && decide (fo t e = w - 10)) (dueO t + 1).toNat = d := f1_at (by omega) (by omega) hp (hno w0)
          rw [if_pos q1, l1_f1 q]
          have em : muV t w = f1 (Qm t d) (nN t) := by
            unfold muV muK
            rw [if_neg w0, ef, if_neg (by omega)]
          rw [em]
          exact RV_ok A2 e2
        · right
          rw [if_neg q1, wtv, w32_id (by omega) (by omega), ← hfs]
          exact next (fun _ => by rw [decide_eq_false (show ¬ fo t d = w - 10 by omega), Bool.and_false])
      · right
        rw [if_neg q, Int.add_zero] at hfs
        rw [if_neg q]
        have := next (fun _ => by rw [decide_eq_false q]; rfl)
        have e : f_Md_musts_J147 (f_Md_musts_L58 (fun h7 x8 => (if w = 0 then some ((0, x8), h7) else some ((0, (-1)), h7))) 75 w (dueO t) n) (fo t ((d + 1 : Nat) : Int)) d h2 = f_Md_musts_J147 (f_Md_musts_L58 (fun h7 x8 => (if w = 0 then some ((0, x8), h7) else some ((0, (-1)), h7))) 75 w (dueO t) n) (fo t d) d h2 := by rw [hfs]
        rw [e] at this
        exact this
    · obtain ⟨hb, hno⟩ := hb
      subst hb
      show RV c p L M2 0 (f_Md_musts_L58 _ 75 w (dueO t) (n + 1) h2 (fo t ((dueO t + 1).toNat : Int)) ((dueO t + 1).toNat : Int)) _ 0
      rw [f_Md_musts_L58, if_pos (by omega)]
      by_cases q : w = 0
      · have em : muV t w = fo t ((dueO t + 1).toNat : Int) := by
          unfold muV; rw [if_pos q]; congr 1; omega
        rw [if_pos q, em]; exact RV_ok A2 e2
      · have em : muV t w = -1 := by
          unfold muV muK
          rw [if_neg q, f1_none (fun e g0 g1 => hno q e g0 g1), if_pos rfl]
        rw [if_neg q, em]; exact RV_ok A2 e2
  unfold f_Md_musts f_Md_musts_J22
  rw [chk_t B.T, s_Md_spent A I, bndT_ok (by decide)]
  by_cases g2 : nS t ≤ 20000
  · rw [if_pos g2, if_pos rfl, if_pos g2]
    by_cases g3 : w = 0
    · rw [if_pos g3, if_pos (Or.inl g3)]; exact j 0 (by decide) (fun _ => ⟨g2, Or.inl g3⟩)
    · rw [if_neg g3]
      by_cases g4 : w < 10
      · rw [if_pos g4, if_neg (by omega)]; exact j 2 (by decide) (fun q => absurd q (by decide))
      · rw [if_neg g4, if_pos (by omega)]; exact j 0 (by decide) (fun _ => ⟨g2, by omega⟩)
  · rw [if_neg g2, if_neg (by decide), if_neg g2]; exact j 1 (by decide) (fun q => absurd q (by decide))
end
