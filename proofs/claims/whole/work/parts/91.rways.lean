/-! WAYS COUNTED, THE REFERENCE -/
section
variable {h : mH} {c : Int} {p L : Int → Int} {M : aM} {t : tT}
theorem RP.f86 {M' : aM} {S : tB} (P : RP M t S) (F : Fr [82, 86] M M') : RP M' t S := P.fr ((F.fs (d := 75) (is := []) (by decide)).mono (by decide) (fun _ q => by cases q))
/-- many holds V -/
def WVQ (M : aM) (v : Int) (t : tT) (V : Int → Int) : Prop := ∀ s, 0 ≤ s → s < nS t → M v s = V s
theorem s_z1 (A : At h c p L M) (I : RI M t) (hS2 : nS t ≤ 20000) {K : mH → Option mR} : ∃ h' M', f_Md_ways_L41 K 75 1000000 h 0 = K h' ∧ At h' c p L M' ∧ Fr [86] M M' ∧ WVQ M' 86 t (fun _ => 0) := by
  have W := I.2.1
  have hn := nN_eq W
  have hS := nS_rng W
  refine loop_r (F := fun n (b : mH × Int) => f_Md_ways_L41 K 75 n b.1 b.2) (P := fun r => ∃ h' M', r = K h' ∧ At h' c p L M' ∧ Fr [86] M M' ∧ WVQ M' 86 t (fun _ => 0)) (fun i b => b.2 = (i : Int) ∧ ∃ M', At b.1 c p L M' ∧ Fr [86] M M' ∧ ∀ s, 0 ≤ s → s < (i : Int) → M' 86 s = 0) (nN t) (fun i hi b hb n => ?_) (fun b hb n => ?_) (i := 0) (b := (h, 0)) ⟨rfl, M, A, Fr.rf _ _, fun s g0 g1 => by omega⟩ (by omega) (by omega)
  · obtain ⟨h2, r⟩ := b
    obtain ⟨hr_, M2, A2_, F2, v2⟩ := hb
    have hr : r = (i : Int) := hr_
    have A2 : At h2 c p L M2 := A2_
    clear hr_ A2_
    subst hr
    right
    have I2 := I.fm (F2.fm (by decide) (by decide))
    have B2 := I2.mh A2
    have C2 := A2.md
    have A3 := A2.aput (v := 86) i 0 (by decide) (by decide) (by decide) (by decide +kernel) (by decide) (by decide)
    refine ⟨(hput h2 86 i 0, ((i + 1 : Nat) : Int)), ⟨rfl, _, A3, F2.pu (by decide), fun s g0 g1 => ?_⟩, ?_⟩
    · by_cases e : s = i
      · rw [e, mup_eq]
      · rw [mup_ne (Or.inr e)]; exact v2 s g0 (by omega)
    · show f_Md_ways_L41 K 75 (n + 1) h2 i = f_Md_ways_L41 K 75 n (hput h2 86 i 0) ((i + 1 : Nat) : Int)
      rw [f_Md_ways_L41, chk_t B2.T, s_Md_stands B2 W, bndT_ok (by decide), if_neg (by omega)]
      simp only [C2]
      rw [chk_t trivial, chk_t trivial, chk_t (by omega), wth, wtv, w32_n i (by omega)]
  · obtain ⟨h2, r⟩ := b
    obtain ⟨hr_, M2, A2_, F2, v2⟩ := hb
    have hr : r = ((nN t : Nat) : Int) := hr_
    have A2 : At h2 c p L M2 := A2_
    clear hr_ A2_
    subst hr
    have I2 := I.fm (F2.fm (by decide) (by decide))
    have B2 := I2.mh A2
    refine ⟨h2, M2, ?_, A2, F2, fun s g0 g1 => v2 s g0 (by omega)⟩
    show f_Md_ways_L41 K 75 (n + 1) h2 _ = _
    rw [f_Md_ways_L41, chk_t B2.T, s_Md_stands B2 W, bndT_ok (by decide), if_pos (show nS t ≤ ((nN t : Nat) : Int) by omega)]
theorem s_z2 (A : At h c p L M) (I : RI M t) (hS2 : nS t ≤ 20000) {K : mH → Option mR} : ∃ h' M', f_Md_waysBegin_L2 K 75 1000000 h 0 = K h' ∧ At h' c p L M' ∧ Fr [86] M M' ∧ WVQ M' 86 t (fun _ => 0) := by
  have W := I.2.1
  have hn := nN_eq W
  have hS := nS_rng W
  refine loop_r (F := fun n (b : mH × Int) => f_Md_waysBegin_L2 K 75 n b.1 b.2) (P := fun r => ∃ h' M', r = K h' ∧ At h' c p L M' ∧ Fr [86] M M' ∧ WVQ M' 86 t (fun _ => 0)) (fun i b => b.2 = (i : Int) ∧ ∃ M', At b.1 c p L M' ∧ Fr [86] M M' ∧ ∀ s, 0 ≤ s → s < (i : Int) → M' 86 s = 0) (nN t) (fun i hi b hb n => ?_) (fun b hb n => ?_) (i := 0) (b := (h, 0)) ⟨rfl, M, A, Fr.rf _ _, fun s g0 g1 => by omega⟩ (by omega) (by omega)
  · obtain ⟨h2, r⟩ := b
    obtain ⟨hr_, M2, A2_, F2, v2⟩ := hb
    have hr : r = (i : Int) := hr_
    have A2 : At h2 c p L M2 := A2_
    clear hr_ A2_
    subst hr
    right
    have I2 := I.fm (F2.fm (by decide) (by decide))
    have B2 := I2.mh A2
    have C2 := A2.md
    have A3 := A2.aput (v := 86) i 0 (by decide) (by decide) (by decide) (by decide +kernel) (by decide) (by decide)
    refine ⟨(hput h2 86 i 0, ((i + 1 : Nat) : Int)), ⟨rfl, _, A3, F2.pu (by decide), fun s g0 g1 => ?_⟩, ?_⟩
    · by_cases e : s = i
      · rw [e, mup_eq]
      · rw [mup_ne (Or.inr e)]; exact v2 s g0 (by omega)
    · show f_Md_waysBegin_L2 K 75 (n + 1) h2 i = f_Md_waysBegin_L2 K 75 n (hput h2 86 i 0) ((i + 1 : Nat) : Int)
      rw [f_Md_waysBegin_L2, chk_t B2.T, s_Md_stands B2 W, bndT_ok (by decide), if_neg (by omega)]
      simp only [C2]
      rw [chk_t trivial, chk_t trivial, chk_t (by omega), wth, wtv, w32_n i (by omega)]
  · obtain ⟨h2, r⟩ := b
    obtain ⟨hr_, M2, A2_, F2, v2⟩ := hb
    have hr : r = ((nN t : Nat) : Int) := hr_
    have A2 : At h2 c p L M2 := A2_
    clear hr_ A2_
    subst hr
    have I2 := I.fm (F2.fm (by decide) (by decide))
    have B2 := I2.mh A2
    refine ⟨h2, M2, ?_, A2, F2, fun s g0 g1 => v2 s g0 (by omega)⟩
    show f_Md_waysBegin_L2 K 75 (n + 1) h2 _ = _
    rw [f_Md_waysBegin_L2, chk_t B2.T, s_Md_stands B2 W, bndT_ok (by decide), if_pos (show nS t ≤ ((nN t : Nat) : Int) by omega)]
theorem s_z3 (A : At h c p L M) (I : RI M t) (hS2 : nS t ≤ 20000) {K : mH → Option mR} : ∃ h' M', f_Md_waysGo_L2 K 75 1000000 h 0 = K h' ∧ At h' c p L M' ∧ Fr [87] M M' ∧ WVQ M' 87 t (fun _ => 0) := by
  have W := I.2.1
  have hn := nN_eq W
  have hS := nS_rng W
  refine loop_r (F := fun n (b : mH × Int) => f_Md_waysGo_L2 K 75 n b.1 b.2) (P := fun r => ∃ h' M', r = K h' ∧ At h' c p L M' ∧ Fr [87] M M' ∧ WVQ M' 87 t (fun _ => 0)) (fun i b => b.2 = (i : Int) ∧ ∃ M', At b.1 c p L M' ∧ Fr [87] M M' ∧ ∀ s, 0 ≤ s → s < (i : Int) → M' 87 s = 0) (nN t) (fun i hi b hb n => ?_) (fun b hb n => ?_) (i := 0) (b := (h, 0)) ⟨rfl, M, A, Fr.rf _ _, fun s g0 g1 => by omega⟩ (by omega) (by omega)
  · obtain ⟨h2, r⟩ := b
    obtain ⟨hr_, M2, A2_, F2, v2⟩ := hb
    have hr : r = (i : Int) := hr_
    have A2 : At h2 c p L M2 := A2_
    clear hr_ A2_
    subst hr
    right
    have I2 := I.fm (F2.fm (by decide) (by decide))
    have B2 := I2.mh A2
    have C2 := A2.md
    have A3 := A2.aput (v := 87) i 0 (by decide) (by decide) (by decide) (by decide +kernel) (by decide) (by decide)
    refine ⟨(hput h2 87 i 0, ((i + 1 : Nat) : Int)), ⟨rfl, _, A3, F2.pu (by decide), fun s g0 g1 => ?_⟩, ?_⟩
    · by_cases e : s = i
      · rw [e, mup_eq]
      · rw [mup_ne (Or.inr e)]; exact v2 s g0 (by omega)
    · show f_Md_waysGo_L2 K 75 (n + 1) h2 i = f_Md_waysGo_L2 K 75 n (hput h2 87 i 0) ((i + 1 : Nat) : Int)
      rw [f_Md_waysGo_L2, chk_t B2.T, s_Md_stands B2 W, bndT_ok (by decide), if_neg (by omega)]
      simp only [C2]
      rw [chk_t trivial, chk_t trivial, chk_t (by omega), wth, wtv, w32_n i (by omega)]
  · obtain ⟨h2, r⟩ := b
    obtain ⟨hr_, M2, A2_, F2, v2⟩ := hb
    have hr : r = ((nN t : Nat) : Int) := hr_
    have A2 : At h2 c p L M2 := A2_
    clear hr_ A2_
    subst hr
    have I2 := I.fm (F2.fm (by decide) (by decide))
    have B2 := I2.mh A2
    refine ⟨h2, M2, ?_, A2, F2, fun s g0 g1 => v2 s g0 (by omega)⟩
    show f_Md_waysGo_L2 K 75 (n + 1) h2 _ = _
    rw [f_Md_waysGo_L2, chk_t B2.T, s_Md_stands B2 W, bndT_ok (by decide), if_pos (show nS t ≤ ((nN t : Nat) : Int) by omega)]
theorem wvq_dl {M : aM} {v z : Int} (Z : WVQ M v t (fun _ => 0)) : WVQ (mup M v z 1) v t (dl z) := fun s g0 g1 => by
  unfold dl
  by_cases e : s = z
  · rw [e, mup_eq, if_pos rfl]
  · rw [mup_ne (Or.inr e), if_neg e]; exact Z s g0 g1
theorem s_waysBegin (A : At h c p L M) (I : RI M t) (hS2 : nS t ≤ 20000) : ∃ h' M', f_Md_waysBegin h 75 = some ((3, 0), h') ∧ At h' c p L M' ∧ Fr [86] M M' ∧ WVQ M' 86 t (dl (st t (pa t))) := by
  unfold f_Md_waysBegin
  obtain ⟨h1, M1, f1, A1, F1, Z1⟩ := s_z2 A I hS2 (K := fun h1  => chk (hpT h1 75 = 12) (chk (hpT h1 75 = 12) (bndT 0 (f_Md_standNow h1 75) (fun x3 h2 => chk (hpT h2 (hpV h1 75 25) = 22) (chk (0 ≤ x3 ∧ x3 < hpL h2 (hpV h1 75 25)) (wth (hput h2 (hpV h1 75 25) x3 1) (fun h4 => some ((3, 0), h4))))))))
  have I1 := I.fm (F1.fm (by decide) (by decide))
  have B1 := I1.mh A1
  have C1 := A1.md
  have hz := I.nowr
  have A2 := A1.aput (v := 86) (st t (pa t)) 1 (by decide) (by decide) (by decide) (by decide +kernel) (by decide) (by decide)
  refine ⟨hput h1 86 (st t (pa t)) 1, _, ?_, A2, F1.pu (by decide), wvq_dl Z1⟩
  rw [f1, chk_t B1.T, chk_t B1.T, s_now A1 I1, bndT_ok (by decide)]
  simp only [C1]
  rw [chk_t trivial, chk_t (by omega), wth]
theorem s_ways_in (A : At h c p L M) (I : RI M t) (hS2 : nS t ≤ 20000) {K : mH → Option mR} {S : tB} (P : RP M t S) (BI : ∀ s, -1 ≤ bF S s ∧ bF S s < nS t) {U : Int → Int} (V : WVQ M 86 t U) {i : Nat} (hi : (i : Int) < 20000) (hs : 0 ≤ bO S i ∧ bO S i < nS t) (ho : M 85 i = bO S i) : ∃ h' M', f_Md_ways_L84 K 75 (wnk t) i 1000000 h 0 = K h' ∧ At h' c p L M' ∧ Fr [82, 86] M M' ∧ WVQ M' 86 t (wyi t S (bO S i) (nK t) U) := by
  have W := I.2.1
  have hn := nN_eq W
  have hS := nS_rng W
  have hk := nK_rng W
  have hk2 : ((nK t : Nat) : Int) = 2 * nb t := by unfold nK; have := W.1; omega
  refine loop_r (F := fun n (b : mH × Int) => f_Md_ways_L84 K 75 (wnk t) i n b.1 b.2) (P := fun r => ∃ h' M', r = K h' ∧ At h' c p L M' ∧ Fr [82, 86] M M' ∧ WVQ M' 86 t (wyi t S (bO S i) (nK t) U)) (fun v b => b.2 = (v : Int) ∧ ∃ M', At b.1 c p L M' ∧ Fr [82, 86] M M' ∧ WVQ M' 86 t (wyi t S (bO S i) v U)) (nK t) (fun v hv b hb n => ?_) (fun b hb n => ?_) (i := 0) (b := (h, 0)) ⟨rfl, M, A, Fr.rf _ _, V⟩ (by omega) (by omega)
  · obtain ⟨h2, r⟩ := b
    obtain ⟨hr_, M2, A2_, F2, v2⟩ := hb
    have hr : r = (v : Int) := hr_
    have A2 : At h2 c p L M2 := A2_
    clear hr_ A2_
    subst hr
    right
    have I2 := I.fm (F2.fm (by decide) (by decide))
    have B2 := I2.mh A2
    have C2 := A2.md
    have o2 : M2 85 i = bO S i := by rw [F2 85 (by decide)]; exact ho
    obtain ⟨h3, M3, f3, A3, F3⟩ := s_thn A2 I2 (s := bO S i) (v := v) hs.1 hs.2 (by omega) (by omega)
    have F3' : Fr [82, 86] M M3 := F2.tr (F3.mono (by decide))
    have I3 := I.fm (F3'.fm (by decide) (by decide))
    have B3 := I3.mh A3
    have C3 := A3.md
    have P3 := P.f86 F3'
    have o3 : M3 85 i = bO S i := by rw [F3' 85 (by decide)]; exact ho
    have v3 : WVQ M3 86 t (wyi t S (bO S i) v U) := fun s g0 g1 => by rw [F3 86 (by decide)]; exact v2 s g0 g1
    have j156 : ∀ h, f_Md_ways_J156 (f_Md_ways_L84 K 75 (wnk t) i n) v h = f_Md_ways_L84 K 75 (wnk t) i n h ((v + 1 : Nat) : Int) := fun h => by
      unfold f_Md_ways_J156; rw [wtv, w32_n v (by omega)]
    show ∃ b' : mH × Int, _ ∧ f_Md_ways_L84 K 75 (wnk t) i (n + 1) h2 v = _
    rw [f_Md_ways_L84, chk_t B2.T, s_Md_steps B2 W, bndT_ok (by decide), if_neg (by omega)]
    simp only [C2]
    rw [chk_t trivial, chk_t trivial, chk_t (by omega), chk_t trivial, o2, f3, bndT_ok (by decide), j156]
    rcases nF_gs W (v := (v : Int)) hs.1 hs.2 with ⟨e, eg⟩ | ⟨eg, e, e0, e1_⟩
    · rw [if_pos e]
      refine ⟨(h3, ((v + 1 : Nat) : Int)), ⟨rfl, M3, A3, F3', ?_⟩, rfl⟩
      rw [wyi, eg, Bool.false_and, if_neg (by decide)]; exact v3
    · have e1 := e1_
      rw [e] at e0 e1
      have q0 := BI (bO S i)
      rw [if_neg (by omega), e]
      simp only [C3]
      rw [chk_t trivial, chk_t trivial, chk_t (by omega), chk_t trivial, chk_t trivial, chk_t trivial, chk_t (by omega), o3, chk_t trivial, chk_t (by omega), P3.1 _ e0 e1, P3.1 _ hs.1 hs.2, w32_id (by omega) (by omega)]
      by_cases g : bF S (bO S i + sf t v) = bF S (bO S i) + 1
      · have A4 := A3.aput (v := 86) (bO S i + sf t v) (w64 (wyi t S (bO S i) v U (bO S i + sf t v) + wyi t S (bO S i) v U (bO S i))) (by decide) (by decide) (by decide) (by decide +kernel) (by decide) (by decide)
        rw [if_pos g, chk_t trivial, chk_t trivial, chk_t (by omega), chk_t trivial, chk_t trivial, chk_t trivial, chk_t (by omega), chk_t trivial, chk_t (by omega), chk_t trivial, chk_t (by omega), wth, v3 _ e0 e1, v3 _ hs.1 hs.2, j156]
        refine ⟨(hput h3 86 (bO S i + sf t v) (w64 (wyi t S (bO S i) v U (bO S i + sf t v) + wyi t S (bO S i) v U (bO S i))), ((v + 1 : Nat) : Int)), ⟨rfl, _, A4, F3'.pu (by decide), fun w g0 g1 => ?_⟩, rfl⟩
        rw [wyi, eg, decide_eq_true g, if_pos (by rfl)]
        by_cases q : w = bO S i + sf t v
        · rw [q, mup_eq, u1_eq]
        · rw [mup_ne (Or.inr q), u1_ne q]; exact v3 w g0 g1
      · rw [if_neg g]
        refine ⟨(h3, ((v + 1 : Nat) : Int)), ⟨rfl, M3, A3, F3', ?_⟩, rfl⟩
        rw [wyi, decide_eq_false g, Bool.and_false, if_neg (by decide)]; exact v3
  · obtain ⟨h2, r⟩ := b
    obtain ⟨hr_, M2, A2_, F2, v2⟩ := hb
    have hr : r = ((nK t : Nat) : Int) := hr_
    have A2 : At h2 c p L M2 := A2_
    clear hr_ A2_
    subst hr
    have I2 := I.fm (F2.fm (by decide) (by decide))
    have B2 := I2.mh A2
    refine ⟨h2, M2, ?_, A2, F2, v2⟩
    show f_Md_ways_L84 K 75 (wnk t) i (n + 1) h2 _ = _
    rw [f_Md_ways_L84, chk_t B2.T, s_Md_steps B2 W, bndT_ok (by decide), if_pos (show 2 * nb t ≤ ((nK t : Nat) : Int) by omega)]
theorem r_ways (A : At h c p L M) (I : RI M t) : RV c p L M 1 (f_Md_ways h 75) (wy t (SF t (st t (pa t))) (st t (pa t)) (bM (SF t (st t (pa t)))).toNat (st t (po t))) (if nS t ≤ 20000 then 0 else 1) := by
  have W := I.2.1
  have B := I.mh A
  have hn := nN_eq W
  have hS := nS_rng W
  have BI := SF_B W I.nowr.1 I.nowr.2
  have hle := BI.le
  have hz := I.nowr
  have ho := I.opnr
  have j : ∀ x : Int, 0 ≤ x → (x = 0 → nS t ≤ 20000) → RV c p L M 1 (f_Md_ways_J13 75 75 x h) (wy t (SF t (st t (pa t))) (st t (pa t)) (bM (SF t (st t (pa t)))).toNat (st t (po t))) x := by
    intro x h0 hx
    unfold f_Md_ways_J13
    refine RV_head A I h0 (fun _ => rfl) (fun g h1 M1 A1 I1 e1 F1 => ?_)
    have hS2 := hx g
    obtain ⟨h2, M2, f2, A2, F2, P2⟩ := s_fromNow A1 I1 hS2
    have I2 := I1.fm F2.fm
    have e2 : M2 75 5 = 0 := by rw [F2.2 5 (by decide)]; exact e1
    rw [chk_t (I1.mh A1).T, s_wn A1 I1, bndT_ok (by decide), chk_t (I1.mh A1).T, s_now A1 I1, bndT_ok (by decide), chk_t (I1.mh A1).T, f2, bndT_ok (by decide)]
    refine RV_mv F2.fm ?_
    obtain ⟨h3, M3, f3, A3, F3, Z3⟩ := s_z1 A2 I2 hS2 (K := fun h8 => chk (hpT h8 75 = 12) (chk (hpT h8 75 = 12) (bndT 0 (f_Md_standNow h8 75) (fun x10 h9 => chk (hpT h9 (hpV h8 75 25) = 22) (chk (0 ≤ x10 ∧ x10 < hpL h9 (hpV h8 75 25)) (wth (hput h9 (hpV h8 75 25) x10 1) (fun h11 => f_Md_ways_L74 (fun h12  => chk (hpT h12 75 = 12) (chk (hpT h12 75 = 12) (bndT 0 (f_Md_openStand h12 75) (fun x14 h13 => chk (hpT h13 (hpV h12 75 25) = 22) (chk (0 ≤ x14 ∧ x14 < hpL h13 (hpV h12 75 25)) (some ((1, hpV h13 (hpV h12 75 25) x14), h13))))))) 75 (wnk t) 1000000 h11 0)))))))
    have I3 := I2.fm (F3.fm (by decide) (by decide))
    have B3 := I3.mh A3
    have C3 := A3.md
    have A4 := A3.aput (v := 86) (st t (pa t)) 1 (by decide) (by decide) (by decide) (by decide +kernel) (by decide) (by decide)
    have V4 := wvq_dl (z := st t (pa t)) Z3
    have F4 : Fr [82, 86] M2 (mup M3 86 (st t (pa t)) 1) := (F3.mono (by decide)).pu (by decide)
    rw [f3, chk_t B3.T, chk_t B3.T, s_now A3 I3, bndT_ok (by decide)]
    simp only [C3]
    rw [chk_t trivial, chk_t (by omega), wth]
    generalize hput h3 86 (st t (pa t)) 1 = h4 at A4 ⊢
    generalize mup M3 86 (st t (pa t)) 1 = M4 at A4 V4 F4
    have hfl : ∀ s, -1 ≤ bF (SF t (st t (pa t))) s ∧ bF (SF t (st t (pa t))) s < nS t := fun s => by
      have := BI.fle s
      rw [hn] at this; exact this
    generalize st t (pa t) = z at *
    generalize SF t z = S at P2 BI hle hfl ⊢
    refine loop_r (F := fun n (b : mH × Int) => f_Md_ways_L74 (fun h12  => chk (hpT h12 75 = 12) (chk (hpT h12 75 = 12) (bndT 0 (f_Md_openStand h12 75) (fun x14 h13 => chk (hpT h13 (hpV h12 75 25) = 22) (chk (0 ≤ x14 ∧ x14 < hpL h13 (hpV h12 75 25)) (some ((1, hpV h13 (hpV h12 75 25) x14), h13))))))) 75 (wnk t) n b.1 b.2) (P := fun o => RV c p L M2 1 o (wy t S z (bM S).toNat (st t (po t))) 0) (fun i b => b.2 = (i : Int) ∧ ∃ M', At b.1 c p L M' ∧ Fr [82, 86] M2 M' ∧ WVQ M' 86 t (wy t S z i)) (bM S).toNat (fun i hi b hb n => ?_) (fun b hb n => ?_) (i := 0) (b := (h4, 0)) ⟨rfl, M4, A4, F4, V4⟩ (by omega) (by omega)
    · obtain ⟨h5, r⟩ := b
      obtain ⟨hr_, M5, A5_, F5, V5⟩ := hb
      have hr : r = (i : Int) := hr_
      have A5 : At h5 c p L M5 := A5_
      clear hr_ A5_
      subst hr
      right
      have hu := BI.2.1 i (by omega) (by omega)
      have I5 := I2.fm (F5.fm (by decide) (by decide))
      have P5 := P2.f86 F5
      have C5 := A5.md
      have hu1 : 0 ≤ bO S i ∧ bO S i < nS t := ⟨hu.1.1, by have := hu.1.2; omega⟩
      obtain ⟨h6, M6, f6, A6, F6, V6⟩ := s_ways_in A5 I5 hS2 (K := fun h1 => wtv (w32 ((i : Int) + 1)) (fun x2 => (f_Md_ways_L74 (fun h12  => chk (hpT h12 75 = 12) (chk (hpT h12 75 = 12) (bndT 0 (f_Md_openStand h12 75) (fun x14 h13 => chk (hpT h13 (hpV h12 75 25) = 22) (chk (0 ≤ x14 ∧ x14 < hpL h13 (hpV h12 75 25)) (some ((1, hpV h13 (hpV h12 75 25) x14), h13))))))) 75 (wnk t) n) h1 x2)) P5 hfl V5 (i := i) (by omega) hu1 (P5.2.1 i (by omega) (by omega))
      refine ⟨(h6, ((i + 1 : Nat) : Int)), ⟨rfl, M6, A6, F5.tr F6, V6⟩, ?_⟩
      show f_Md_ways_L74 _ 75 (wnk t) (n + 1) h5 i = _
      rw [f_Md_ways_L74, chk_t (I5.mh A5).T]
      simp only [C5]
      rw [P5.2.2, if_neg (by omega), f6, wtv, w32_n i (by omega)]
    · obtain ⟨h5, r⟩ := b
      obtain ⟨hr_, M5, A5_, F5, V5⟩ := hb
      have hr : r = ((bM S).toNat : Int) := hr_
      have A5 : At h5 c p L M5 := A5_
      clear hr_ A5_
      subst hr
      have I5 := I2.fm (F5.fm (by decide) (by decide))
      have P5 := P2.f86 F5
      have C5 := A5.md
      show RV c p L M2 1 (f_Md_ways_L74 _ 75 (wnk t) (n + 1) h5 _) _ 0
      rw [f_Md_ways_L74, chk_t (I5.mh A5).T]
      simp only [C5]
      rw [P5.2.2, if_pos (by omega), chk_t trivial, chk_t trivial, s_opn A5 I5, bndT_ok (by decide)]
      simp only [C5]
      rw [chk_t trivial, chk_t (by omega), V5 _ ho.1 ho.2]
      exact RV_mv (F5.fm (by decide) (by decide)) (RV_ok A5 (by rw [F5 75 (by decide)]; exact e2))
  unfold f_Md_ways
  rw [chk_t B.T, s_Md_spent A I, bndT_ok (by decide)]
  by_cases g2 : nS t ≤ 20000
  · rw [if_pos g2, if_pos rfl]; exact j 0 (by decide) (fun _ => g2)
  · rw [if_neg g2, if_neg (by decide)]; exact j 1 (by decide) (fun q => absurd q (by decide))
end
