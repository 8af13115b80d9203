/-! ROWS COUNTED, THE REFERENCE -/
section
variable {h : mH} {c : Int} {p L : Int → Int} {M : aM} {t : tT}
theorem s_trayFault (A : At h c p L M) (τ : Int) : f_Md_trayFault h 75 τ = some ((0, if 0 ≤ τ ∧ τ < 4 then (if M 96 τ = -1 then 2 else 0) else 1), h) := by
  have C := A.md
  unfold f_Md_trayFault f_Md_isTray
  rw [s_Md_amid, bndT_ok (by decide)]
  by_cases g : 0 ≤ τ ∧ τ < 4
  · rw [b2d (show 0 ≤ τ ∧ τ ≤ 3 by omega), chk_t (by decide), bndT_ok (by decide), if_neg (by decide), if_pos g]
    simp only [C]
    rw [chk_t trivial, chk_t trivial, chk_t (by omega)]
    by_cases q : M 96 τ = -1
    · rw [if_pos q, if_pos q]
    · rw [if_neg q, if_neg q]
  · rw [b2n (show ¬ (0 ≤ τ ∧ τ ≤ 3) by omega), chk_t (by decide), bndT_ok (by decide), if_pos rfl, if_neg g]
/-- where each step leads to -/
def LQ (M : aM) (t : tT) : Prop := ∀ s v, 0 ≤ s → s < nS t → 0 ≤ v → v < 2 * nb t → M 90 (18 * s + v) = nF t s v
theorem s_leads_in (A : At h c p L M) (I : RI M t) (hS2 : nS t ≤ 20000) {K : mH → Option mR} {s : Int} (h0 : 0 ≤ s) (h1 : s < nS t) (H : ∀ r v, 0 ≤ r → r < s → 0 ≤ v → v < 2 * nb t → M 90 (18 * r + v) = nF t r v) : ∃ h' M', f_Md_laysLeads_L17 K 75 (wnk t) s 1000000 h 0 = K h' ∧ At h' c p L M' ∧ Fr [82, 90] M M' ∧ ∀ r v, 0 ≤ r → r < s + 1 → 0 ≤ v → v < 2 * nb t → M' 90 (18 * r + v) = nF t r v := by
  have W := I.2.1
  have hk := nK_rng W
  have hk2 : ((nK t : Nat) : Int) = 2 * nb t := by unfold nK; have := W.1; omega
  refine loop_r (F := fun n (b : mH × Int) => f_Md_laysLeads_L17 K 75 (wnk t) s n b.1 b.2) (P := fun r => ∃ h' M', r = K h' ∧ At h' c p L M' ∧ Fr [82, 90] M M' ∧ ∀ r v, 0 ≤ r → r < s + 1 → 0 ≤ v → v < 2 * nb t → M' 90 (18 * r + v) = nF t r v) (fun i b => b.2 = (i : Int) ∧ ∃ M', At b.1 c p L M' ∧ Fr [82, 90] M M' ∧ (∀ r v, 0 ≤ r → r < s → 0 ≤ v → v < 2 * nb t → M' 90 (18 * r + v) = nF t r v) ∧ ∀ v, 0 ≤ v → v < (i : Int) → M' 90 (18 * s + v) = nF t s v) (nK t) (fun i hi b hb n => ?_) (fun b hb n => ?_) (i := 0) (b := (h, 0)) ⟨rfl, M, A, Fr.rf _ _, H, fun v g0 g1 => by omega⟩ (by omega) (by omega)
  · obtain ⟨h2, r⟩ := b
    obtain ⟨hr_, M2, A2_, F2, H2, v2⟩ := hb
    have hr : r = (i : Int) := hr_
    have A2 : At h2 c p L M2 := A2_
    clear hr_ A2_
    subst hr
    right
    have I2 := I.fm (F2.fm (by decide) (by decide))
    have B2 := I2.mh A2
    have C2 := A2.md
    obtain ⟨h3, M3, f3, A3, F3⟩ := s_thn A2 I2 (s := s) (v := i) h0 h1 (by omega) (by omega)
    have F3' : Fr [82, 90] M M3 := F2.tr (F3.mono (by decide))
    have C3 := A3.md
    have A4 := A3.aput (v := 90) (18 * s + i) (nF t s i) (by decide) (by decide) (by decide) (by decide +kernel) (by decide) (by decide)
    refine ⟨(hput h3 90 (18 * s + i) (nF t s i), ((i + 1 : Nat) : Int)), ⟨rfl, _, A4, F3'.pu (by decide), fun r v g0 g1 g2 g3 => ?_, fun v g0 g1 => ?_⟩, ?_⟩
    · rw [mup_ne (Or.inr (by omega)), F3 90 (by decide)]; exact H2 r v g0 g1 g2 g3
    · by_cases e : v = i
      · rw [e, mup_eq]
      · rw [mup_ne (Or.inr (by omega)), F3 90 (by decide)]; exact v2 v g0 (by omega)
    · show f_Md_laysLeads_L17 K 75 (wnk t) s (n + 1) h2 i = f_Md_laysLeads_L17 K 75 (wnk t) s n (hput h3 90 (18 * s + i) (nF t s i)) ((i + 1 : Nat) : Int)
      rw [f_Md_laysLeads_L17, chk_t B2.T, s_Md_steps B2 W, bndT_ok (by decide), if_neg (by omega)]
      simp only [C2]
      rw [chk_t trivial, chk_t trivial, f3, bndT_ok (by decide), show w32 (w32 (18 * s) + (i : Int)) = 18 * s + i by rw [w32_id (x := 18 * s) (by omega) (by omega), w32_id (by omega) (by omega)]]
      simp only [C3]
      rw [chk_t trivial, chk_t (by omega), wth, wtv, w32_n i (by omega)]
  · obtain ⟨h2, r⟩ := b
    obtain ⟨hr_, M2, A2_, F2, H2, v2⟩ := hb
    have hr : r = ((nK t : Nat) : Int) := hr_
    have A2 : At h2 c p L M2 := A2_
    clear hr_ A2_
    subst hr
    have I2 := I.fm (F2.fm (by decide) (by decide))
    have B2 := I2.mh A2
    refine ⟨h2, M2, ?_, A2, F2, fun r v g0 g1 g2 g3 => ?_⟩
    · show f_Md_laysLeads_L17 K 75 (wnk t) s (n + 1) h2 _ = _
      rw [f_Md_laysLeads_L17, chk_t B2.T, s_Md_steps B2 W, bndT_ok (by decide), if_pos (show 2 * nb t ≤ ((nK t : Nat) : Int) by omega)]
    · by_cases e : r = s
      · rw [e]; exact v2 v g2 (by omega)
      · exact H2 r v g0 (by omega) g2 g3
theorem s_laysLeads (A : At h c p L M) (I : RI M t) (hS2 : nS t ≤ 20000) : ∃ h' M', f_Md_laysLeads h 75 = some ((3, 0), h') ∧ At h' c p L M' ∧ Fr [82, 90] M M' ∧ LQ M' t := by
  have W := I.2.1
  have B := I.mh A
  have hn := nN_eq W
  have hS := nS_rng W
  unfold f_Md_laysLeads
  rw [chk_t B.T, s_wn A I, bndT_ok (by decide)]
  refine loop_r (F := fun n (b : mH × Int) => f_Md_laysLeads_L7 75 (wnk t) n b.1 b.2) (P := fun r => ∃ h' M', r = some ((3, 0), h') ∧ At h' c p L M' ∧ Fr [82, 90] M M' ∧ LQ M' t) (fun i b => b.2 = (i : Int) ∧ ∃ M', At b.1 c p L M' ∧ Fr [82, 90] M M' ∧ ∀ r v, 0 ≤ r → r < (i : Int) → 0 ≤ v → v < 2 * nb t → M' 90 (18 * r + v) = nF t r v) (nN t) (fun i hi b hb n => ?_) (fun b hb n => ?_) (i := 0) (b := (h, 0)) ⟨rfl, M, A, Fr.rf _ _, fun r v g0 g1 => by omega⟩ (by omega) (by omega)
  · obtain ⟨h2, r⟩ := b
    obtain ⟨hr_, M2, A2_, F2, H2⟩ := hb
    have hr : r = (i : Int) := hr_
    have A2 : At h2 c p L M2 := A2_
    clear hr_ A2_
    subst hr
    right
    have I2 := I.fm (F2.fm (by decide) (by decide))
    have B2 := I2.mh A2
    obtain ⟨h3, M3, f3, A3, F3, H3⟩ := s_leads_in A2 I2 hS2 (K := fun h3  => wtv (w32 ((i : Int) + 1)) (fun x4 => (f_Md_laysLeads_L7 75 (wnk t) n) h3 x4)) (s := (i : Int)) (by omega) (by omega) H2
    refine ⟨(h3, ((i + 1 : Nat) : Int)), ⟨rfl, M3, A3, F2.tr F3, fun r v g0 g1 g2 g3 => H3 r v g0 (by omega) g2 g3⟩, ?_⟩
    show f_Md_laysLeads_L7 75 (wnk t) (n + 1) h2 i = _
    rw [f_Md_laysLeads_L7, chk_t B2.T, s_Md_stands B2 W, bndT_ok (by decide), if_neg (by omega), f3, wtv, w32_n i (by omega)]
  · obtain ⟨h2, r⟩ := b
    obtain ⟨hr_, M2, A2_, F2, H2⟩ := hb
    have hr : r = ((nN t : Nat) : Int) := hr_
    have A2 : At h2 c p L M2 := A2_
    clear hr_ A2_
    subst hr
    have I2 := I.fm (F2.fm (by decide) (by decide))
    have B2 := I2.mh A2
    refine ⟨h2, M2, ?_, A2, F2, fun r v g0 g1 g2 g3 => H2 r v g0 (by omega) g2 g3⟩
    show f_Md_laysLeads_L7 75 (wnk t) (n + 1) h2 _ = _
    rw [f_Md_laysLeads_L7, chk_t B2.T, s_Md_stands B2 W, bndT_ok (by decide), if_pos (show nS t ≤ ((nN t : Nat) : Int) by omega)]
/-- one stand's share -/
theorem s_go_in (A : At h c p L M) (I : RI M t) (hS2 : nS t ≤ 20000) (Q : LQ M t) {K : mH → Option mR} {w : Int} {V U : Int → Int} (HV : WVQ M 86 t V) (HU : WVQ M 87 t U) {s : Int} (h0 : 0 ≤ s) (h1 : s < nS t) : ∃ h' M', f_Md_waysGo_L50 K 75 w s 1000000 h 0 = K h' ∧ At h' c p L M' ∧ Fr [87] M M' ∧ WVQ M' 87 t (li t (flT w) (-1) V s (nK t) U) := by
  have W := I.2.1
  have hk := nK_rng W
  have hk2 : ((nK t : Nat) : Int) = 2 * nb t := by unfold nK; have := W.1; omega
  refine loop_r (F := fun n (b : mH × Int) => f_Md_waysGo_L50 K 75 w s n b.1 b.2) (P := fun r => ∃ h' M', r = K h' ∧ At h' c p L M' ∧ Fr [87] M M' ∧ WVQ M' 87 t (li t (flT w) (-1) V s (nK t) U)) (fun v b => b.2 = (v : Int) ∧ ∃ M', At b.1 c p L M' ∧ Fr [87] M M' ∧ WVQ M' 87 t (li t (flT w) (-1) V s v U)) (nK t) (fun v hv b hb n => ?_) (fun b hb n => ?_) (i := 0) (b := (h, 0)) ⟨rfl, M, A, Fr.rf _ _, HU⟩ (by omega) (by omega)
  · obtain ⟨h2, r⟩ := b
    obtain ⟨hr_, M2, A2_, F2, v2⟩ := hb
    have hr : r = (v : Int) := hr_
    have A2 : At h2 c p L M2 := A2_
    clear hr_ A2_
    subst hr
    right
    have I2 := I.fm (F2.fm (by decide) (by decide))
    have B2 := I2.mh A2
    have C2 := A2.md
    have j115 : ∀ h, f_Md_waysGo_J115 (f_Md_waysGo_L50 K 75 w s n) v h = f_Md_waysGo_L50 K 75 w s n h ((v + 1 : Nat) : Int) := fun h => by
      unfold f_Md_waysGo_J115; rw [wtv, w32_n v (by omega)]
    have e90 : M2 90 (18 * s + v) = nF t s v := by rw [F2 90 (by decide)]; exact Q s v h0 h1 (by omega) (by omega)
    have e86 : M2 86 s = V s := by rw [F2 86 (by decide)]; exact HV s h0 h1
    have skip : (gs t s v && flT w v && decide (s + sf t v ≠ -1)) = false → ∃ b' : mH × Int, (b'.2 = ((v + 1 : Nat) : Int) ∧ ∃ M', At b'.1 c p L M' ∧ Fr [87] M M' ∧ WVQ M' 87 t (li t (flT w) (-1) V s (v + 1) U)) ∧ f_Md_waysGo_L50 K 75 w s n h2 ((v + 1 : Nat) : Int) = f_Md_waysGo_L50 K 75 w s n b'.1 b'.2 := fun e => by
      refine ⟨(h2, ((v + 1 : Nat) : Int)), ⟨rfl, M2, A2, F2, ?_⟩, rfl⟩
      rw [li, if_neg (by rw [e]; decide)]; exact v2
    have j75 : flT w v = true → ∃ b' : mH × Int, (b'.2 = ((v + 1 : Nat) : Int) ∧ ∃ M', At b'.1 c p L M' ∧ Fr [87] M M' ∧ WVQ M' 87 t (li t (flT w) (-1) V s (v + 1) U)) ∧ f_Md_waysGo_J75 (f_Md_waysGo_L50 K 75 w s n) 75 s v h2 = f_Md_waysGo_L50 K 75 w s n b'.1 b'.2 := fun ew => by
      unfold f_Md_waysGo_J75 f_Md_waysGo_J91
      rw [show w32 (w32 (18 * s) + (v : Int)) = 18 * s + v by rw [w32_id (x := 18 * s) (by omega) (by omega), w32_id (by omega) (by omega)]]
      simp only [C2]
      rw [chk_t trivial, chk_t trivial, chk_t (by omega), e90, j115]
      rcases nF_gs W (v := (v : Int)) h0 h1 with ⟨e, eg⟩ | ⟨eg, e, e0, e1_⟩
      · rw [if_pos e]; exact skip (by rw [eg]; rfl)
      · have e1 := e1_
        rw [e] at e0 e1
        have A4 := A2.aput (v := 87) (s + sf t v) (w64 (li t (flT w) (-1) V s v U (s + sf t v) + V s)) (by decide) (by decide) (by decide) (by decide +kernel) (by decide) (by decide)
        rw [if_neg (by omega), e, chk_t trivial, chk_t trivial, chk_t (by omega), chk_t trivial, chk_t trivial, chk_t (by omega), chk_t trivial, chk_t (by omega), v2 _ e0 e1, e86, wth, j115]
        refine ⟨(hput h2 87 (s + sf t v) (w64 (li t (flT w) (-1) V s v U (s + sf t v) + V s)), ((v + 1 : Nat) : Int)), ⟨rfl, _, A4, F2.pu (by decide), fun x g0 g1 => ?_⟩, rfl⟩
        rw [li, eg, ew, decide_eq_true (show s + sf t v ≠ -1 by omega), if_pos (by rfl)]
        by_cases q : x = s + sf t v
        · rw [q, mup_eq, u1_eq]
        · rw [mup_ne (Or.inr q), u1_ne q]; exact v2 x g0 g1
    show ∃ b' : mH × Int, _ ∧ f_Md_waysGo_L50 K 75 w s (n + 1) h2 v = _
    rw [f_Md_waysGo_L50, chk_t B2.T, s_Md_steps B2 W, bndT_ok (by decide), if_neg (by omega)]
    by_cases g1 : w = -1
    · rw [if_pos (qlcmp_eq.mpr g1)]
      exact j75 (by unfold flT; rw [decide_eq_true g1]; rfl)
    · rw [if_neg (fun e => g1 (qlcmp_eq.mp e))]
      by_cases g2 : w = v
      · rw [if_pos (qlcmp_eq.mpr g2)]
        exact j75 (by unfold flT; rw [decide_eq_true g2, Bool.or_true])
      · rw [if_neg (fun e => g2 (qlcmp_eq.mp e))]
        unfold f_Md_waysGo_J91
        rw [if_pos rfl, j115]
        exact skip (by unfold flT; rw [decide_eq_false g1, decide_eq_false g2]; simp)
  · obtain ⟨h2, r⟩ := b
    obtain ⟨hr_, M2, A2_, F2, v2⟩ := hb
    have hr : r = ((nK t : Nat) : Int) := hr_
    have A2 : At h2 c p L M2 := A2_
    clear hr_ A2_
    subst hr
    have I2 := I.fm (F2.fm (by decide) (by decide))
    have B2 := I2.mh A2
    refine ⟨h2, M2, ?_, A2, F2, v2⟩
    show f_Md_waysGo_L50 K 75 w s (n + 1) h2 _ = _
    rw [f_Md_waysGo_L50, chk_t B2.T, s_Md_steps B2 W, bndT_ok (by decide), if_pos (show 2 * nb t ≤ ((nK t : Nat) : Int) by omega)]
theorem s_waysGo (A : At h c p L M) (I : RI M t) (hS2 : nS t ≤ 20000) (Q : LQ M t) {w : Int} {V : Int → Int} (HV : WVQ M 86 t V) : ∃ h' M', f_Md_waysGo h 75 w = some ((3, 0), h') ∧ At h' c p L M' ∧ Fr [86, 87] M M' ∧ WVQ M' 86 t (LO t (flT w) (-1) V) := by
  have W := I.2.1
  have hn := nN_eq W
  have hS := nS_rng W
  unfold f_Md_waysGo
  obtain ⟨h1, M1, f1, A1, F1, Z1⟩ := s_z3 A I hS2 (K := fun h1  => f_Md_waysGo_L25 (fun h2  => f_Md_waysGo_L129 75 1000000 h2 0) 75 w 1000000 h1 0)
  rw [f1]
  have I1 := I.fm (F1.fm (by decide) (by decide))
  refine loop_r (F := fun n (b : mH × Int) => f_Md_waysGo_L25 (fun h2  => f_Md_waysGo_L129 75 1000000 h2 0) 75 w n b.1 b.2) (P := fun r => ∃ h' M', r = some ((3, 0), h') ∧ At h' c p L M' ∧ Fr [86, 87] M M' ∧ WVQ M' 86 t (LO t (flT w) (-1) V)) (fun i b => b.2 = (i : Int) ∧ ∃ M', At b.1 c p L M' ∧ Fr [87] M M' ∧ WVQ M' 87 t (lo t (flT w) (-1) V i)) (nN t) (fun i hi b hb n => ?_) (fun b hb n => ?_) (i := 0) (b := (h1, 0)) ⟨rfl, M1, A1, F1, Z1⟩ (by omega) (by omega)
  · obtain ⟨h2, r⟩ := b
    obtain ⟨hr_, M2, A2_, F2, v2⟩ := hb
    have hr : r = (i : Int) := hr_
    have A2 : At h2 c p L M2 := A2_
    clear hr_ A2_
    subst hr
    right
    have I2 := I.fm (F2.fm (by decide) (by decide))
    have B2 := I2.mh A2
    have C2 := A2.md
    have e86 : WVQ M2 86 t V := fun s g0 g1 => by rw [F2 86 (by decide)]; exact HV s g0 g1
    have Q2 : LQ M2 t := fun s v q0 q1 q2 q3 => by rw [F2 90 (by decide)]; exact Q s v q0 q1 q2 q3
    have j121 : ∀ h, f_Md_waysGo_J121 (f_Md_waysGo_L25 (fun h2  => f_Md_waysGo_L129 75 1000000 h2 0) 75 w n) i h = f_Md_waysGo_L25 (fun h2  => f_Md_waysGo_L129 75 1000000 h2 0) 75 w n h ((i + 1 : Nat) : Int) := fun h => by
      unfold f_Md_waysGo_J121; rw [wtv, w32_n i (by omega)]
    show ∃ b' : mH × Int, _ ∧ f_Md_waysGo_L25 _ 75 w (n + 1) h2 i = _
    rw [f_Md_waysGo_L25, chk_t B2.T, s_Md_stands B2 W, bndT_ok (by decide), if_neg (by omega)]
    simp only [C2]
    rw [chk_t trivial, chk_t trivial, chk_t (by omega), e86 i (by omega) (by omega)]
    by_cases g : V i = 0
    · rw [if_pos (qlcmp_eq.mpr g), j121]
      refine ⟨(h2, ((i + 1 : Nat) : Int)), ⟨rfl, M2, A2, F2, ?_⟩, rfl⟩
      rw [lo, if_pos g]; exact v2
    · rw [if_neg (fun e => g (qlcmp_eq.mp e))]
      obtain ⟨h3, M3, f3, A3, F3, V3⟩ := s_go_in A2 I2 hS2 Q2 (K := fun h3  => f_Md_waysGo_J121 (f_Md_waysGo_L25 (fun h2  => f_Md_waysGo_L129 75 1000000 h2 0) 75 w n) i h3) (w := w) e86 v2 (s := (i : Int)) (by omega) (by omega)
      rw [f3, j121]
      refine ⟨(h3, ((i + 1 : Nat) : Int)), ⟨rfl, M3, A3, F2.tr F3, ?_⟩, rfl⟩
      rw [lo, if_neg g]; exact V3
  · obtain ⟨h2, r⟩ := b
    obtain ⟨hr_, M2, A2_, F2, v2⟩ := hb
    have hr : r = ((nN t : Nat) : Int) := hr_
    have A2 : At h2 c p L M2 := A2_
    clear hr_ A2_
    subst hr
    have I2 := I.fm (F2.fm (by decide) (by decide))
    have B2 := I2.mh A2
    have v2 : WVQ M2 87 t (LO t (flT w) (-1) V) := v2
    show ∃ h' M', f_Md_waysGo_L25 _ 75 w (n + 1) h2 _ = some ((3, 0), h') ∧ _
    rw [f_Md_waysGo_L25, chk_t B2.T, s_Md_stands B2 W, bndT_ok (by decide), if_pos (show nS t ≤ ((nN t : Nat) : Int) by omega)]
    generalize LO t (flT w) (-1) V = X at v2 ⊢
    refine loop_r (F := fun n (b : mH × Int) => f_Md_waysGo_L129 75 n b.1 b.2) (P := fun r => ∃ h' M', r = some ((3, 0), h') ∧ At h' c p L M' ∧ Fr [86, 87] M M' ∧ WVQ M' 86 t X) (fun i b => b.2 = (i : Int) ∧ ∃ M', At b.1 c p L M' ∧ Fr [86] M2 M' ∧ ∀ s, 0 ≤ s → s < (i : Int) → M' 86 s = X s) (nN t) (fun i hi b hb n => ?_) (fun b hb n => ?_) (i := 0) (b := (h2, 0)) ⟨rfl, M2, A2, Fr.rf _ _, fun s g0 g1 => by omega⟩ (by omega) (by omega)
    · obtain ⟨h3, r⟩ := b
      obtain ⟨hr_, M3, A3_, F3, v3⟩ := hb
      have hr : r = (i : Int) := hr_
      have A3 : At h3 c p L M3 := A3_
      clear hr_ A3_
      subst hr
      right
      have I3 := I2.fm (F3.fm (by decide) (by decide))
      have B3 := I3.mh A3
      have C3 := A3.md
      have A4 := A3.aput (v := 86) i (X i) (by decide) (by decide) (by decide) (by decide +kernel) (by decide) (by decide)
      refine ⟨(hput h3 86 i (X i), ((i + 1 : Nat) : Int)), ⟨rfl, _, A4, F3.pu (by decide), fun s g0 g1 => ?_⟩, ?_⟩
      · by_cases e : s = i
        · rw [e, mup_eq]
        · rw [mup_ne (Or.inr e)]; exact v3 s g0 (by omega)
      · show f_Md_waysGo_L129 75 (n + 1) h3 i = f_Md_waysGo_L129 75 n (hput h3 86 i (X i)) ((i + 1 : Nat) : Int)
        have e87 : M3 87 i = X i := by rw [F3 87 (by decide)]; exact v2 i (by omega) (by omega)
        rw [f_Md_waysGo_L129, chk_t B3.T, s_Md_stands B3 W, bndT_ok (by decide), if_neg (by omega)]
        simp only [C3]
        rw [chk_t trivial, chk_t trivial, chk_t trivial, chk_t (by omega), chk_t trivial, chk_t (by omega), e87, wth, wtv, w32_n i (by omega)]
    · obtain ⟨h3, r⟩ := b
      obtain ⟨hr_, M3, A3_, F3, v3⟩ := hb
      have hr : r = ((nN t : Nat) : Int) := hr_
      have A3 : At h3 c p L M3 := A3_
      clear hr_ A3_
      subst hr
      have I3 := I2.fm (F3.fm (by decide) (by decide))
      have B3 := I3.mh A3
      refine ⟨h3, M3, ?_, A3, (F2.mono (by decide)).tr (F3.mono (by decide)), fun s g0 g1 => v3 s g0 (by omega)⟩
      show f_Md_waysGo_L129 75 (n + 1) h3 _ = _
      rw [f_Md_waysGo_L129, chk_t B3.T, s_Md_stands B3 W, bndT_ok (by decide), if_pos (show nS t ≤ ((nN t : Nat) : Int) by omega)]
end
