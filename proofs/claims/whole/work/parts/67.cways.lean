section
variable {h : mH} {c : Int} {p L : Int → Int} {M : aM} {E : Int → tT}
theorem s_Counter_ways_in (A : At h c p L M) {t : tT} (W : WS t) (hS2 : nS t ≤ 20000) (G : GS M L t) {K : mH → Option mR} {z : Int} (P : PR M L 48 49 50 t z false) (hz0 : 0 ≤ z) (hz1 : z < nS t) {U : Int → Int} (Uh : CV M L (nS t) U) {s : Int} (hs0 : 0 ≤ s) (hs1 : s < nS t) :
    ∃ h' M', f_Counter_waysToOpen_L38 K 57 41 48 s (mkM (gm t (wB t) s) (nK t)) 1000000 h 0 = K h' ∧ At h' c p L M' ∧ Fr [58] M M' ∧ CV M' L (nS t) (wyi t (SF t z) s (nK t) U) := by
  have hkk := nK_rng W
  have hk1 : PK 48 49 50 := by unfold PK; decide
  have hL := Uh.1
  have hL2 := Uh.2.1
  have hmp := mkM_pos (f := gm t (wB t) s) (n := nK t) (by omega)
  have hp18 := pw18 hkk.1
  have bits : ∀ v : Nat, v < nK t → bt (mkM (gm t (wB t) s) (nK t)) v = gs t s v := fun v hv => by
    rw [bt_mkM _ (by omega) (by omega), decide_eq_true hv, Bool.true_and, gm_gs W (by omega) (by omega)]
  generalize mkM (gm t (wB t) s) (nK t) = m at hmp bits ⊢
  have hB := SF_B W hz0 hz1
  have fs := hB.fle s
  have hnn := nN_eq W
  refine loop_r (F := fun n (b : mH × Int) => f_Counter_waysToOpen_L38 K 57 41 48 s m n b.1 b.2) (P := fun r => ∃ h' M', r = K h' ∧ At h' c p L M' ∧ Fr [58] M M' ∧ CV M' L (nS t) (wyi t (SF t z) s (nK t) U)) (fun i b => b.2 = (i : Int) ∧ ∃ M', At b.1 c p L M' ∧ Fr [58] M M' ∧ CV M' L (nS t) (wyi t (SF t z) s i U)) (nK t) (fun i hi b hb n => ?_) (fun b hb n => ?_) (i := 0) (b := (h, 0)) ⟨rfl, M, A, Fr.rf _ _, Uh⟩ (by omega) (by omega)
  · obtain ⟨h1, r⟩ := b
    obtain ⟨hr_, M1, A1_, F1, V1⟩ := hb
    have hr : r = (i : Int) := hr_
    have A1 : At h1 c p L M1 := A1_
    clear hr_ A1_
    subst hr
    have C1 := A1.ca
    have D1 := A1.gr
    have E1 := A1.p48
    have e3 : M1 41 3 = 2 * nb t := by rw [F1 41 (by decide)]; exact G.1.2.1
    have e42 : M1 42 i = sf t i := by rw [F1 42 (by decide)]; exact G.2.1 i (by omega) (by omega)
    have P1 : PR M1 L 48 49 50 t z false := P.fr (F1 48 (by decide)) (F1 49 (by decide)) (F1 50 (by decide)) rfl rfl
    have hw := GS_42 W G i (by omega)
    rw [G.2.1 i (by omega) (by omega)] at hw
    have j138 : ∀ h, f_Counter_waysToOpen_J138 (f_Counter_waysToOpen_L38 K 57 41 48 s m n) i h = f_Counter_waysToOpen_L38 K 57 41 48 s m n h ((i + 1 : Nat) : Int) := fun h => by
      unfold f_Counter_waysToOpen_J138; rw [wtv, w32_n i (by omega)]
    show (∃ h' M', f_Counter_waysToOpen_L38 K 57 41 48 s m (n + 1) h1 i = K h' ∧ _) ∨ ∃ b' : mH × Int, _ ∧ f_Counter_waysToOpen_L38 K 57 41 48 s m (n + 1) h1 i = _
    rw [f_Counter_waysToOpen_L38]
    simp only [D1]
    rw [chk_t trivial, e3, if_neg (by omega)]
    by_cases g : qshr m i = 0
    · left
      rw [if_pos g]
      refine ⟨h1, M1, rfl, A1, F1, ?_⟩
      rw [wyi_stop (j := i) (by omega) (fun v g2 g3 => ?_)]
      · exact V1
      · have := bits v.toNat (by omega)
        rw [show ((v.toNat : Nat) : Int) = v by omega, qshr_0 (by omega) (by omega) (by omega) (by omega) g (show (i : Int) ≤ (v.toNat : Nat) by omega)] at this
        exact this.symm
    · right
      have hxi := bits i hi
      rw [if_neg g, chk_t trivial, chk_t trivial, chk_t (by omega), wtv, e42, w32_id (by omega) (by omega)]
      unfold f_Counter_waysToOpen_J83
      by_cases g2 : gs t s i = true
      · rw [if_pos ((bt_at (by omega) (by omega) (by omega) (by omega)).mpr (by rw [Int.toNat_natCast, hxi]; exact g2)), if_neg (by decide)]
        obtain ⟨a1, a2, a3, a4⟩ := go_rng g2
        have hto := go_to W hs0 hs1 a1 a2 a3 a4
        have farT : f_Paths_farOf h1 48 (s + sf t i) = some ((0, bF (SF t z) (s + sf t i)), h1) := PR_far A1 hk1 P1 hto.1 hto.2.1
        have farS : f_Paths_farOf h1 48 s = some ((0, bF (SF t z) s), h1) := PR_far A1 hk1 P1 hs0 hs1
        rw [if_neg (by omega)]
        simp only [C1, E1]
        rw [chk_t trivial, chk_t (by decide), if_neg (by omega), chk_t trivial, farT, bndT_ok (by decide)]
        simp only [E1]
        rw [chk_t trivial, farS, bndT_ok (by decide), w32_id (by omega) (by omega)]
        by_cases g3 : bF (SF t z) (s + sf t i) = bF (SF t z) s + 1
        · rw [if_pos g3]
          simp only [C1]
          have A2 := A1.gput (v := 58) (s + sf t i) (w64 (wyi t (SF t z) s i U (s + sf t i) + wyi t (SF t z) s i U s)) (by decide) (by decide) (by decide +kernel) (by decide) (by decide)
          rw [chk_t trivial, chk_t trivial, chk_t (by omega), chk_t trivial, s_Counter_rowsAt A1 V1 hs0 hs1, bndT_ok (by decide)]
          simp only [C1]
          rw [chk_t trivial, chk_t (by omega), wth, V1.2.2 _ hto.1 hto.2.1, j138]
          refine ⟨(hput h1 (p 58) (s + sf t i) (w64 (wyi t (SF t z) s i U (s + sf t i) + wyi t (SF t z) s i U s)), ((i + 1 : Nat) : Int)), ⟨rfl, _, A2, F1.pu (by decide), hL, hL2, fun w g0 g1 => ?_⟩, rfl⟩
          rw [wyi, g2, decide_eq_true g3, if_pos (by rfl)]
          by_cases q : w = s + sf t i
          · rw [q, mup_eq, u1_eq]
          · rw [mup_ne (Or.inr q), u1_ne q]; exact V1.2.2 w g0 g1
        · rw [if_neg g3, j138]
          refine ⟨(h1, ((i + 1 : Nat) : Int)), ⟨rfl, M1, A1, F1, ?_⟩, rfl⟩
          rw [wyi, decide_eq_false g3, Bool.and_false, if_neg (by decide)]; exact V1
      · rw [if_neg (fun e => g2 (by have := (bt_at (by omega) (by omega) (by omega) (by omega)).mp e; rw [Int.toNat_natCast, hxi] at this; exact this)), if_pos rfl, j138]
        refine ⟨(h1, ((i + 1 : Nat) : Int)), ⟨rfl, M1, A1, F1, ?_⟩, rfl⟩
        rw [wyi, Bool.eq_false_iff.mpr g2, Bool.false_and, if_neg (by decide)]; exact V1
  · obtain ⟨h1, r⟩ := b
    obtain ⟨hr_, M1, A1_, F1, V1⟩ := hb
    have hr : r = ((nK t : Nat) : Int) := hr_
    have A1 : At h1 c p L M1 := A1_
    clear hr_ A1_
    have D1 := A1.gr
    have e3 : M1 41 3 = 2 * nb t := by rw [F1 41 (by decide)]; exact G.1.2.1
    refine ⟨h1, M1, ?_, A1, F1, V1⟩
    show f_Counter_waysToOpen_L38 K 57 41 48 s m (n + 1) h1 r = _
    rw [f_Counter_waysToOpen_L38]
    simp only [D1]
    rw [chk_t trivial, e3, if_pos (by omega)]
theorem c_ways (A : At h c p L M) {t : tT} (K : KS E M L t) : CR c M E t (f_Nb_ways h 1) (if nS t ≤ 20000 then (1, wy t (SF t (st t (pa t))) (st t (pa t)) (bM (SF t (st t (pa t)))).toNat (st t (po t))) else (4, xS)) := by
  have C := A.nb
  have hnn := nN_eq K.W
  have B := SF_B K.W K.now.1 K.now.2
  have hle := B.le
  unfold f_Nb_ways
  simp only [C]
  rw [chk_t trivial]
  refine CR_graph A K (fun h1 p1 L1 M1 A1 K1 G1 F1 hS2 => ?_)
  have C1 := A1.nb
  simp only [C1]
  rw [chk_t trivial, chk_t trivial, chk_t trivial]
  refine CR_now A1 K1 hS2 (fun h2 p2 L2 M2 A2 K2 G2 P2 => ?_)
  have C2 := A2.ca
  have D2 := A2.p48
  simp only [C2]
  have w : ∃ h' p' L' M', f_Counter_waysToOpen h2 57 41 48 = some ((1, wy t (SF t (st t (pa t))) (st t (pa t)) (bM (SF t (st t (pa t)))).toNat (st t (po t))), h') ∧ At h' c p' L' M' ∧ Of [58, 59] L2 L' ∧ Fr [58, 59] M2 M' := by
    obtain ⟨h3, p3, L3, M3, f3, A3, oL3, F3, V3⟩ := s_Counter_begin A2 K.W hS2 G2.1 (z := st t (pa t))
    have C3 := A3.ca
    unfold f_Counter_waysToOpen
    simp only [C2, D2]
    rw [chk_t trivial, chk_t trivial, P2.1.2, f3, bndT_ok (by decide)]
    refine loop_r (F := fun m (b : mH × Int) => f_Counter_waysToOpen_L11 (fun h3 => chk (hpT h3 41 = 5) (chk (hpT h3 57 = 2) (bndT 1 (f_Counter_rowsAt h3 57 (hpV h3 41 4)) (fun x5 h4 => some ((1, x5), h4))))) 57 41 48 m b.1 b.2) (P := fun r => ∃ h' p' L' M', r = some ((1, wy t (SF t (st t (pa t))) (st t (pa t)) (bM (SF t (st t (pa t)))).toNat (st t (po t))), h') ∧ At h' c p' L' M' ∧ Of [58, 59] L2 L' ∧ Fr [58, 59] M2 M') (fun i b => b.2 = (i : Int) ∧ ∃ M', At b.1 c p3 L3 M' ∧ Fr [58, 59] M2 M' ∧ CV M' L3 (nS t) (wy t (SF t (st t (pa t))) (st t (pa t)) i)) (bM (SF t (st t (pa t)))).toNat (fun i hi b hb m => ?_) (fun b hb m => ?_) (i := 0) (b := (h3, 0)) ⟨rfl, M3, A3, F3, V3⟩ (by omega) (by omega)
    · obtain ⟨h4, r⟩ := b
      obtain ⟨hr_, M4, A4_, F4, V4⟩ := hb
      have hr : r = (i : Int) := hr_
      have A4 : At h4 c p3 L3 M4 := A4_
      clear hr_ A4_
      subst hr
      right
      have D4 := A4.p48
      have E4 := A4.gr
      have G4 := G2.fr59 F4 oL3
      have P4 : PR M4 L3 48 49 50 t (st t (pa t)) false := P2.fr (F4 48 (by decide)) (F4 49 (by decide)) (F4 50 (by decide)) (oL3 49 (by decide)) (oL3 50 (by decide))
      have Q4 : PI M4 49 50 (M4 48 4) (nS t) (SF t (st t (pa t))) := P4.2.2
      have hL := P4.1
      have hL2 := P4.2.1
      have hu := B.2.1 i (by omega) (by omega)
      rw [hnn] at hu
      obtain ⟨h5, M5, f5, A5, F5, V5⟩ := s_Counter_ways_in A4 K.W hS2 G4.1 (K := fun h4 => f_Counter_waysToOpen_J144 (f_Counter_waysToOpen_L11 (fun h3 => chk (hpT h3 41 = 5) (chk (hpT h3 57 = 2) (bndT 1 (f_Counter_rowsAt h3 57 (hpV h3 41 4)) (fun x5 h4 => some ((1, x5), h4))))) 57 41 48 m) i h4) P4 K.now.1 K.now.2 V4 hu.1.1 hu.1.2
      refine ⟨(h5, ((i + 1 : Nat) : Int)), ⟨rfl, M5, A5, F4.tr (F5.mono (by decide)), V5⟩, ?_⟩
      show f_Counter_waysToOpen_L11 _ 57 41 48 (m + 1) h4 i = f_Counter_waysToOpen_L11 _ 57 41 48 m h5 ((i + 1 : Nat) : Int)
      rw [f_Counter_waysToOpen_L11]
      simp only [D4, E4]
      rw [chk_t trivial, Q4.2.2, if_neg (by omega), chk_t trivial, chk_t trivial, chk_t (by omega), wtv, Q4.2.1 i (by omega) (by omega), chk_t trivial, s_Graph_stepsFrom A4 K.W G4.1 G4.2.1, bndT_ok (by decide), if_pos hu.1, f5]
      unfold f_Counter_waysToOpen_J144
      rw [wtv, w32_n i (by omega)]
    · obtain ⟨h4, r⟩ := b
      obtain ⟨hr_, M4, A4_, F4, V4⟩ := hb
      have hr : r = ((bM (SF t (st t (pa t)))).toNat : Int) := hr_
      have A4 : At h4 c p3 L3 M4 := A4_
      clear hr_ A4_
      have D4 := A4.p48
      have E4 := A4.gr
      have C4 := A4.ca
      have G4 := G2.fr59 F4 oL3
      have P4 : PR M4 L3 48 49 50 t (st t (pa t)) false := P2.fr (F4 48 (by decide)) (F4 49 (by decide)) (F4 50 (by decide)) (oL3 49 (by decide)) (oL3 50 (by decide))
      have Q4 : PI M4 49 50 (M4 48 4) (nS t) (SF t (st t (pa t))) := P4.2.2
      have hB := B.1.2
      refine ⟨h4, p3, L3, M4, ?_, A4, oL3, F4⟩
      show f_Counter_waysToOpen_L11 _ 57 41 48 (m + 1) h4 r = _
      rw [f_Counter_waysToOpen_L11]
      simp only [D4]
      rw [chk_t trivial, Q4.2.2, if_pos (by omega)]
      simp only [C4, E4]
      rw [chk_t trivial, chk_t trivial, G4.1.1.2.2, s_Counter_rowsAt A4 V4 K.opn.1 K.opn.2, bndT_ok (by decide)]
  obtain ⟨h3, p3, L3, M3, f3, A3, oL3, F3⟩ := w
  rw [chk_t trivial, f3, bndT_ok (by decide)]
  exact CR_mv (F3.mono (by decide)) (CR_ok A3 (K2.fr59 F3 oL3))
end
