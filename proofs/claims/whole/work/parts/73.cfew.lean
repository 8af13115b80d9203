/-! the fewest steps of a bar -/
theorem bt_ones (i : Nat) (hi : i < 32) : bt (-1) i = true := by
  have H : ∀ j : Fin 32, bt (-1) j.val = true := by decide +kernel
  exact H ⟨i, hi⟩
def mW (b : Int) (y : Bool) : Int := if y = true then qshl 3 (2 * b) else qxor (qshl 3 (2 * b)) (-1)
theorem bt_mW {b : Int} (h0 : 0 ≤ b) (h1 : b < 9) (y : Bool) {v : Nat} (hv : v < 18) : bt (mW b y) v = decide (decide ((v : Int) / 2 = b) = y) := by
  unfold mW
  cases y with
  | true =>
    rw [if_pos rfl, bt_shl3 h0 (by omega) (by omega)]
    cases decide ((v : Int) / 2 = b) <;> rfl
  | false =>
    rw [if_neg (by decide), bt_qxor, bt_shl3 h0 (by omega) (by omega), bt_ones v (by omega)]
    cases decide ((v : Int) / 2 = b) <;> rfl
section
variable {h : mH} {c : Int} {p L : Int → Int} {M : aM} {E : Int → tT}
theorem fewMask {t : tT} (W : WS t) {b : Int} (h0 : 0 ≤ b) (h1 : b < nb t) (y : Bool) (s : Int) : (0 ≤ qand (mkM (gm t (wB t) s) (nK t)) (mW b y) ∧ qand (mkM (gm t (wB t) s) (nK t)) (mW b y) < 262144) ∧
    ∀ v : Nat, v < nK t → bt (qand (mkM (gm t (wB t) s) (nK t)) (mW b y)) v = (gm t (wB t) s v && decide (decide ((v : Int) / 2 = b) = y)) := by
  have hn := W.1
  have hk := nK_rng W
  have e : ∀ v : Nat, v < nK t → bt (qand (mkM (gm t (wB t) s) (nK t)) (mW b y)) v = (gm t (wB t) s v && decide (decide ((v : Int) / 2 = b) = y)) := fun v hv => by
    rw [bt_qand, bt_mkM _ (by omega) (by omega), decide_eq_true hv, Bool.true_and, bt_mW h0 (by omega) y (by omega)]
  refine ⟨?_, e⟩
  have := mask_rng (k := 18) (by decide) (qand_rng (mkM (gm t (wB t) s) (nK t)) (mW b y)) (fun i g0 g1 => by
    rw [bt_qand, bt_mkM _ (by omega) g1, decide_eq_false (by omega)]; rfl)
  exact ⟨this.1, Int.lt_of_lt_of_le this.2 (by decide)⟩
theorem fewNx {t : tT} (W : WS t) (S : GS M L t) {b : Int} (h0 : 0 ≤ b) (h1 : b < nb t) (y : Bool) (s : Int) : ∀ v : Nat, v < nK t → nw (nF t) b y s v = if bt (qand (mkM (gm t (wB t) s) (nK t)) (mW b y)) v = true then s + M 42 v else -1 := fun v hv => by
  have hk := nK_rng W
  rw [(fewMask W h0 h1 y s).2 v hv, gm_gs W (by omega) (by omega), S.2.1 v (by omega) (by omega)]
  unfold nw nF th
  by_cases q : decide ((v : Int) / 2 = b) = y
  · rw [if_pos q, decide_eq_true q, Bool.and_true]
  · rw [if_neg q, decide_eq_false q, Bool.and_false, if_neg (by decide)]
def FWi (M : aM) (c : Int) (p L : Int → Int) (n : Int) (S : tB) (h : mH) : Prop := ∃ M', At h c p L M' ∧ Fs [55, 56] 54 [4] M M' ∧ PI M' 55 56 (M' 54 4) n S
theorem s_few41 {t : tT} (W : WS t) (hS2 : nS t ≤ 20000) (G : GP M M L t) (hf : nS t ≤ L 55) (ho : nS t ≤ L 56) {b : Int} (hb0 : 0 ≤ b) (hb1 : b < nb t) {z : Int} {K95 : mH → Option mR} {P : Option mR → Prop} {f r : Int} (hr : r ≤ 20000) {S0 : tB}
    (hP : ∀ h' S', EX S0 S' → FWi M c p L (nS t) S' h' → JW (nF t) b (nK t) (nN t) z S' f (bM S') (bM S') f r → P (K95 h')) :
    ∀ {i fu : Nat} {h : mH} {S : tB}, EX S0 S → FWi M c p L (nS t) S h → JW (nF t) b (nK t) (nN t) z S f (bM S) i f r → f ≤ i → i ≤ nN t → nN t - i < fu → P (f_Paths_fewestOwn_L41 K95 54 41 (qshl 3 (2 * b)) r fu h i) := by
  have hk : PK 54 55 56 := by unfold PK; decide
  have hn := nN_eq W
  have hkk := nK_rng W
  intro i fu h S hX hF hJ hfi hin hfu
  refine loop_r (F := fun n (x : mH × Int) => f_Paths_fewestOwn_L41 K95 54 41 (qshl 3 (2 * b)) r n x.1 x.2) (P := P) (fun i x => x.2 = (i : Int) ∧ f ≤ i ∧ ∃ S, EX S0 S ∧ FWi M c p L (nS t) S x.1 ∧ JW (nF t) b (nK t) (nN t) z S f (bM S) i f r) (nN t) (fun i hi x hx m => ?_) (fun x hx m => ?_) (i := i) (b := (h, (i : Int))) ⟨rfl, hfi, S, hX, hF, hJ⟩ hin hfu
  · obtain ⟨h1, x⟩ := x
    obtain ⟨hr_, hfi, S1, X1, ⟨M1, A1_, F1, Q1⟩, J1⟩ := hx
    have hx2 : x = (i : Int) := hr_
    have A1 : At h1 c p L M1 := A1_
    clear hr_ A1_
    subst hx2
    have C1 := A1.p54
    have D1 := A1.gr
    have s2 : M1 41 2 = nS t := by rw [F1.1 41 (by decide) (by decide)]; exact G.1.1.1
    have s3 : M1 41 3 = nK t := by rw [F1.1 41 (by decide) (by decide), G.1.1.2.1]; omega
    have e42 : M1 42 = M 42 := F1.1 42 (by decide) (by decide)
    have G1 : GS M1 L t := by
      have e41 : M1 41 = M 41 := F1.1 41 (by decide) (by decide)
      have e44 : M1 44 = M 44 := F1.1 44 (by decide) (by decide)
      have e45 : M1 45 = M 45 := F1.1 45 (by decide) (by decide)
      have := G.1
      unfold GS at this ⊢
      rw [e41, e42, e44, e45]; exact this
    have GG1 : GG M1 L 46 t (gm t (wB t)) := by
      have := G.2.1
      unfold GG at this ⊢
      rw [F1.1 46 (by decide) (by decide)]; exact this
    show P (f_Paths_fewestOwn_L41 K95 54 41 (qshl 3 (2 * b)) r (m + 1) h1 i) ∨ ∃ b' : mH × Int, _ ∧ f_Paths_fewestOwn_L41 K95 54 41 (qshl 3 (2 * b)) r (m + 1) h1 i = _
    rw [f_Paths_fewestOwn_L41]
    simp only [C1, D1]
    rw [chk_t trivial, s2, if_neg (by omega), chk_t trivial, Q1.2.2]
    by_cases g : bM S1 ≤ i
    · left
      rw [if_pos g]
      have hz := J1.le3
      refine hP h1 S1 X1 ⟨M1, A1, F1, Q1⟩ ?_
      exact ⟨J1.ci, J1.zz, J1.rg, J1.inO, J1.snd, J1.le3, J1.cf, fun j v g0 g1 => J1.ca j v g0 (by omega), J1.cc, J1.lf, J1.lr, J1.lh⟩
    · right
      have hu := J1.rg i (by omega) (by omega)
      have FM := fewMask W hb0 hb1 false (bO S1 i)
      have FX := fewNx W G1 hb0 hb1 false (bO S1 i)
      have hle := J1.ci.le
      obtain ⟨h2, M2, f2, A2, F2, Q2⟩ := s_Paths_visit A1 hk (n := nN t) (K := nK t) (by omega) hkk.1 s3 (S := S1) (by rw [hn]; exact Q1) J1.ci (by omega) (by omega) (nx := nw (nF t) b false) (s := bO S1 i) (m := qand (mkM (gm t (wB t) (bO S1 i)) (nK t)) (mW b false)) (d := r) hu.1.1 hu.1.2 (by have := J1.le3; omega) FM.1.1 FM.1.2 FX (fun v g0 g1 g2 => by
        unfold nw at g2 ⊢
        by_cases q : decide (v / 2 = b) = false
        · rw [if_pos q] at g2 ⊢; exact NX_F W false X0 (wS t) _ v hu.1.1 hu.1.2 g0 g1 g2
        · rw [if_neg q] at g2; exact absurd rfl g2)
      rw [if_neg g, chk_t trivial, chk_t trivial, chk_t (by omega), chk_t trivial, chk_t trivial, chk_t (by omega), chk_t trivial, Q1.2.1 i (by omega) (by omega), s_Graph_stepsFrom A1 W G1 GG1, bndT_ok (by decide), if_pos ⟨hu.1.1, by omega⟩]
      have em : mW b false = qxor (qshl 3 (2 * b)) (-1) := by unfold mW; rw [if_neg (by decide)]
      simp only [C1]
      rw [chk_t trivial, ← em, f2, bndT_ok (by decide), wtv, w32_n i (by omega)]
      refine ⟨(h2, ((i + 1 : Nat) : Int)), ⟨rfl, by omega, _, X1.tr (EX_visd (nK t) S1), ⟨M2, A2, F1.tr F2, by rw [← hn]; exact Q2⟩, ?_⟩, rfl⟩
      exact JW.half0 (NX_F W false X0 (wS t)) J1 ⟨hfi, by omega⟩ (Int.le_refl _)
  · obtain ⟨h1, x⟩ := x
    obtain ⟨hr_, hfi, S1, X1, ⟨M1, A1_, F1, Q1⟩, J1⟩ := hx
    have hx2 : x = (nN t : Int) := hr_
    have A1 : At h1 c p L M1 := A1_
    clear hr_ A1_
    subst hx2
    have D1 := A1.gr
    have s2 : M1 41 2 = nS t := by rw [F1.1 41 (by decide) (by decide)]; exact G.1.1.1
    have hle := J1.ci.le
    show P (f_Paths_fewestOwn_L41 K95 54 41 (qshl 3 (2 * b)) r (m + 1) h1 _)
    rw [f_Paths_fewestOwn_L41]
    simp only [D1]
    rw [chk_t trivial, s2, if_pos (by omega)]
    refine hP h1 S1 X1 ⟨M1, A1, F1, Q1⟩ ?_
    have hz := J1.le3
    exact ⟨J1.ci, J1.zz, J1.rg, J1.inO, J1.snd, J1.le3, J1.cf, fun j v g0 g1 => J1.ca j v g0 (by omega), J1.cc, J1.lf, J1.lr, J1.lh⟩
theorem s_few126 {t : tT} (W : WS t) (hS2 : nS t ≤ 20000) (G : GP M M L t) (hf : nS t ≤ L 55) (ho : nS t ≤ L 56) {b : Int} (hb0 : 0 ≤ b) (hb1 : b < nb t) {z : Int} {K169 : mH → Option mR} {P : Option mR → Prop} {f e r : Int} (hr : r ≤ 20000)
    {S0 : tB}
    (hP2 : ∀ h' S', FWi M c p L (nS t) S' h' → JW (nF t) b (nK t) (nN t) z S' f e e e r → EX S0 S' → P (K169 h')) :
    ∀ {i fu : Nat} {h : mH} {S : tB}, EX S0 S → FWi M c p L (nS t) S h → JW (nF t) b (nK t) (nN t) z S f e e i r → f ≤ i → i ≤ e → e.toNat - i < fu → P (f_Paths_fewestOwn_L126 K169 54 41 (qshl 3 (2 * b)) r e fu h i) := by
  have hk : PK 54 55 56 := by unfold PK; decide
  have hn := nN_eq W
  have hkk := nK_rng W
  intro i fu h S hX hF hJ hfi hin hfu
  have h3 := hJ.le3
  have hle := hJ.ci.le
  refine loop_r (F := fun n (x : mH × Int) => f_Paths_fewestOwn_L126 K169 54 41 (qshl 3 (2 * b)) r e n x.1 x.2) (P := P) (fun i x => x.2 = (i : Int) ∧ f ≤ i ∧ ∃ S, EX S0 S ∧ FWi M c p L (nS t) S x.1 ∧ JW (nF t) b (nK t) (nN t) z S f e e i r) e.toNat (fun i hi x hx m => ?_) (fun x hx m => ?_) (i := i) (b := (h, (i : Int))) ⟨rfl, hfi, S, hX, hF, hJ⟩ (by omega) hfu
  · obtain ⟨h1, x⟩ := x
    obtain ⟨hr_, hfi, S1, X1, ⟨M1, A1_, F1, Q1⟩, J1⟩ := hx
    have hx2 : x = (i : Int) := hr_
    have A1 : At h1 c p L M1 := A1_
    clear hr_ A1_
    subst hx2
    have C1 := A1.p54
    have D1 := A1.gr
    have s3 : M1 41 3 = nK t := by rw [F1.1 41 (by decide) (by decide), G.1.1.2.1]; omega
    have G1 : GS M1 L t := by
      have e41 : M1 41 = M 41 := F1.1 41 (by decide) (by decide)
      have e42 : M1 42 = M 42 := F1.1 42 (by decide) (by decide)
      have e44 : M1 44 = M 44 := F1.1 44 (by decide) (by decide)
      have e45 : M1 45 = M 45 := F1.1 45 (by decide) (by decide)
      have := G.1
      unfold GS at this ⊢
      rw [e41, e42, e44, e45]; exact this
    have GG1 : GG M1 L 46 t (gm t (wB t)) := by
      have := G.2.1
      unfold GG at this ⊢
      rw [F1.1 46 (by decide) (by decide)]; exact this
    right
    have j3 := J1.le3
    have hu := J1.rg i (by omega) (by omega)
    have FM := fewMask W hb0 hb1 true (bO S1 i)
    have FX := fewNx W G1 hb0 hb1 true (bO S1 i)
    have hle := J1.ci.le
    obtain ⟨h2, M2, f2, A2, F2, Q2⟩ := s_Paths_visit A1 hk (n := nN t) (K := nK t) (by omega) hkk.1 s3 (S := S1) (by rw [hn]; exact Q1) J1.ci (by omega) (by omega) (nx := nw (nF t) b true) (s := bO S1 i) (m := qand (mkM (gm t (wB t) (bO S1 i)) (nK t)) (mW b true)) (d := r + 1) hu.1.1 hu.1.2 (by omega) FM.1.1 FM.1.2 FX (fun v g0 g1 g2 => by
      unfold nw at g2 ⊢
      by_cases q : decide (v / 2 = b) = true
      · rw [if_pos q] at g2 ⊢; exact NX_F W false X0 (wS t) _ v hu.1.1 hu.1.2 g0 g1 g2
      · rw [if_neg q] at g2; exact absurd rfl g2)
    have em : mW b true = qshl 3 (2 * b) := by unfold mW; rw [if_pos rfl]
    show ∃ b' : mH × Int, _ ∧ f_Paths_fewestOwn_L126 K169 54 41 (qshl 3 (2 * b)) r e (m + 1) h1 i = _
    rw [f_Paths_fewestOwn_L126]
    simp only [C1]
    rw [if_neg (by omega), chk_t trivial, chk_t trivial, chk_t (by omega), chk_t trivial, chk_t trivial, chk_t (by omega), chk_t D1.1, Q1.2.1 i (by omega) (by omega), s_Graph_stepsFrom A1 W G1 GG1, bndT_ok (by decide), if_pos ⟨hu.1.1, by omega⟩]
    simp only [C1]
    rw [chk_t trivial, w32_id (by omega) (by omega), ← em, f2, bndT_ok (by decide), wtv, w32_n i (by omega)]
    refine ⟨(h2, ((i + 1 : Nat) : Int)), ⟨rfl, by omega, _, X1.tr (EX_visd (nK t) S1), ⟨M2, A2, F1.tr F2, by rw [← hn]; exact Q2⟩, ?_⟩, by rw [em]⟩
    exact JW.half1 (NX_F W false X0 (wS t)) J1 ⟨hfi, by omega⟩
  · obtain ⟨h1, x⟩ := x
    obtain ⟨hr_, hfi, S1, X1, F1, J1⟩ := hx
    have hx2 : x = (e.toNat : Int) := hr_
    clear hr_
    subst hx2
    have j3 := J1.le3
    show P (f_Paths_fewestOwn_L126 K169 54 41 (qshl 3 (2 * b)) r e (m + 1) h1 _)
    rw [f_Paths_fewestOwn_L126, if_pos (by omega)]
    rw [show ((e.toNat : Nat) : Int) = e by omega] at J1
    exact hP2 h1 S1 F1 J1 X1
theorem s_few19 {t : tT} (W : WS t) (hS2 : nS t ≤ 20000) (G : GP M M L t) (hf : nS t ≤ L 55) (ho : nS t ≤ L 56) {b : Int} (hb0 : 0 ≤ b) (hb1 : b < nb t) {z : Int} (hz0 : 0 ≤ z) (hz1 : z < nS t) (hst : 0 ≤ st t (po t) ∧ st t (po t) < nS t)
    (hA : At h c p L M) (hQ : PI M 55 56 (M 54 4) (nS t) (b0 z)) :
    ∃ d h' M', f_Paths_fewestOwn_L19 (fun h4 => chk (hpT h4 41 = 5) (chk (hpT h4 54 = 8) (bndT 0 (f_Paths_farOf h4 54 (hpV h4 41 4)) (fun x6 h5 => some ((0, x6), h5))))) 54 41 (qshl 3 (2 * b)) 1000000 h 0 0 = some ((0, d), h') ∧ At h' c p L M' ∧ Fs [55, 56] 54 [4] M M' ∧ DW (nF t) b (nK t) (nN t) z (st t (po t)) d := by
  have hk : PK 54 55 56 := by unfold PK; decide
  have hn := nN_eq W
  have hkk := nK_rng W
  have N : NX (nF t) (nK t) (nN t) := NX_F W false X0 (wS t)
  have hz1n : z < nN t := by omega
  generalize hK : (fun h4 => chk (hpT h4 41 = 5) (chk (hpT h4 54 = 8) (bndT 0 (f_Paths_farOf h4 54 (hpV h4 41 4)) (fun x6 h5 => some ((0, x6), h5))))) = K107
  refine loop_r (F := fun n (x : mH × Int × Int) => f_Paths_fewestOwn_L19 K107 54 41 (qshl 3 (2 * b)) n x.1 x.2.1 x.2.2) (P := fun o => ∃ d h' M', o = some ((0, d), h') ∧ At h' c p L M' ∧ Fs [55, 56] 54 [4] M M' ∧ DW (nF t) b (nK t) (nN t) z (st t (po t)) d)
    (fun i x => x.2.2 = (i : Int) ∧ (i : Int) ≤ x.2.1 ∧ ∃ S, FWi M c p L (nS t) S x.1 ∧ JW (nF t) b (nK t) (nN t) z S x.2.1 (bM S) x.2.1 x.2.1 i ∧ ∀ j : Int, 0 ≤ j → j < x.2.1 → bO S j ≠ st t (po t)) (nN t + 1) (fun i hi x hx m => ?_) (fun x hx m => ?_) (i := 0) (b := (h, 0, 0)) ⟨rfl, Int.le_refl _, b0 z, ⟨M, hA, Fs.rf _ _ _ _, hQ⟩, JW.ini hz0 hz1n, fun j g0 g1 => absurd g1 (by show ¬ j < 0; omega)⟩ (by omega) (by omega)
  · obtain ⟨h1, f, x⟩ := x
    obtain ⟨hr_, hfr_, S1, ⟨M1, A1_, F1, Q1⟩, J1_, hno_⟩ := hx
    have hx2 : x = (i : Int) := hr_
    have hfr : (i : Int) ≤ f := hfr_
    have A1 : At h1 c p L M1 := A1_
    have J1 : JW (nF t) b (nK t) (nN t) z S1 f (bM S1) f f i := J1_
    have hno : ∀ j : Int, 0 ≤ j → j < f → bO S1 j ≠ st t (po t) := hno_
    clear hr_ hfr_ A1_ J1_ hno_
    subst hx2
    have C1 := A1.p54
    have D1 := A1.gr
    have s2 : M1 41 2 = nS t := by rw [F1.1 41 (by decide) (by decide)]; exact G.1.1.1
    have hle := J1.ci.le
    have j3 := J1.le3
    show (∃ d h' M', f_Paths_fewestOwn_L19 K107 54 41 (qshl 3 (2 * b)) (m + 1) h1 f i = some ((0, d), h') ∧ _) ∨ ∃ b' : mH × Int × Int, _ ∧ f_Paths_fewestOwn_L19 K107 54 41 (qshl 3 (2 * b)) (m + 1) h1 f i = _
    rw [f_Paths_fewestOwn_L19]
    simp only [C1, D1]
    rw [chk_t trivial, s2, if_neg (by omega), chk_t trivial, Q1.2.2]
    by_cases g : bM S1 ≤ f
    · left
      rw [if_pos g]
      have ef : f = bM S1 := by omega
      rw [ef] at J1 hno
      refine ⟨-1, h1, M1, rfl, A1, F1, JW.none N hz0 hz1n J1 ?_⟩
      rcases J1.inO (st t (po t)) with q | ⟨j, q0, q1, q2⟩
      · exact q
      · exact absurd q2 (hno j q0 q1)
    · rw [if_neg g]
      have key : ∀ o : Option mR, (fun o => (∃ d h' M', o = some ((0, d), h') ∧ At h' c p L M' ∧ Fs [55, 56] 54 [4] M M' ∧ DW (nF t) b (nK t) (nN t) z (st t (po t)) d) ∨ ∃ b' : mH × Int × Int, (b'.2.2 = ((i + 1 : Nat) : Int) ∧ ((i + 1 : Nat) : Int) ≤ b'.2.1 ∧ ∃ S, FWi M c p L (nS t) S b'.1 ∧ JW (nF t) b (nK t) (nN t) z S b'.2.1 (bM S) b'.2.1 b'.2.1 ((i + 1 : Nat) : Int) ∧ ∀ j : Int, 0 ≤ j → j < b'.2.1 → bO S j ≠ st t (po t)) ∧ o = f_Paths_fewestOwn_L19 K107 54 41 (qshl 3 (2 * b)) m b'.1 b'.2.1 b'.2.2) o →
        (∃ d h' M', o = some ((0, d), h') ∧ At h' c p L M' ∧ Fs [55, 56] 54 [4] M M' ∧ DW (nF t) b (nK t) (nN t) z (st t (po t)) d) ∨ ∃ b' : mH × Int × Int, (b'.2.2 = ((i + 1 : Nat) : Int) ∧ ((i + 1 : Nat) : Int) ≤ b'.2.1 ∧ ∃ S, FWi M c p L (nS t) S b'.1 ∧ JW (nF t) b (nK t) (nN t) z S b'.2.1 (bM S) b'.2.1 b'.2.1 ((i + 1 : Nat) : Int) ∧ ∀ j : Int, 0 ≤ j → j < b'.2.1 → bO S j ≠ st t (po t)) ∧ o = f_Paths_fewestOwn_L19 K107 54 41 (qshl 3 (2 * b)) m b'.1 b'.2.1 b'.2.2 := fun o h => h
      refine key _ ?_
      have hfN : ((f.toNat : Nat) : Int) = f := by omega
      have st41 := s_few41 (M := M) (c := c) (p := p) (L := L) W hS2 G hf ho hb0 hb1 (z := z) (f := f) (r := (i : Int)) (K95 := fun h1 => f_Paths_fewestOwn_J95 K107 (f_Paths_fewestOwn_L19 K107 54 41 (qshl 3 (2 * b)) m) 54 41 (qshl 3 (2 * b)) f i h1) (P := fun o => (∃ d h' M', o = some ((0, d), h') ∧ At h' c p L M' ∧ Fs [55, 56] 54 [4] M M' ∧ DW (nF t) b (nK t) (nN t) z (st t (po t)) d) ∨ ∃ b' : mH × Int × Int, (b'.2.2 = ((i + 1 : Nat) : Int) ∧ ((i + 1 : Nat) : Int) ≤ b'.2.1 ∧ ∃ S, FWi M c p L (nS t) S b'.1 ∧ JW (nF t) b (nK t) (nN t) z S b'.2.1 (bM S) b'.2.1 b'.2.1 ((i + 1 : Nat) : Int) ∧ ∀ j : Int, 0 ≤ j → j < b'.2.1 → bO S j ≠ st t (po t)) ∧ o = f_Paths_fewestOwn_L19 K107 54 41 (qshl 3 (2 * b)) m b'.1 b'.2.1 b'.2.2) (by omega) (S0 := S1) (fun h2 S2 X2 hF2 J2 => ?_) (i := f.toNat) (fu := 1000000) (h := h1) (S := S1) (EX.rf _) ⟨M1, A1, F1, Q1⟩ (by rw [hfN]; exact J1) (by omega) (by omega) (by omega)
      · rw [hfN] at st41; exact st41
      · obtain ⟨M2, A2_, F2, Q2⟩ := hF2
        have A2 : At h2 c p L M2 := A2_
        clear A2_
        have C2 := A2.p54
        have D2 := A2.gr
        have e4 : M2 41 4 = st t (po t) := by rw [F2.1 41 (by decide) (by decide)]; exact G.1.1.2.2
        have far : f_Paths_farOf h2 54 (st t (po t)) = some ((0, bF S2 (st t (po t))), h2) := by rw [s_Paths_farOf A2 hk, if_pos ⟨hst.1, by omega⟩, Q2.1 _ hst.1 hst.2]
        unfold f_Paths_fewestOwn_J95
        simp only [C2, D2]
        rw [chk_t trivial, chk_t trivial, e4, far, bndT_ok (by decide)]
        by_cases q : bF S2 (st t (po t)) = -1
        · have x1 := X2.1
          have k3 := J2.le3
          have kle := J2.ci.le
          rw [if_pos q]
          simp only [C2]
          rw [chk_t trivial, wtv, Q2.2.2]
          have st126 := s_few126 (M := M) (c := c) (p := p) (L := L) W hS2 G hf ho hb0 hb1 (z := z) (f := f) (e := bM S2) (r := (i : Int)) (K169 := fun h4 => wtv (w32 ((i : Int) + 1)) (fun x5 => f_Paths_fewestOwn_L19 K107 54 41 (qshl 3 (2 * b)) m h4 (bM S2) x5)) (P := fun o => (∃ d h' M', o = some ((0, d), h') ∧ At h' c p L M' ∧ Fs [55, 56] 54 [4] M M' ∧ DW (nF t) b (nK t) (nN t) z (st t (po t)) d) ∨ ∃ b' : mH × Int × Int, (b'.2.2 = ((i + 1 : Nat) : Int) ∧ ((i + 1 : Nat) : Int) ≤ b'.2.1 ∧ ∃ S, FWi M c p L (nS t) S b'.1 ∧ JW (nF t) b (nK t) (nN t) z S b'.2.1 (bM S) b'.2.1 b'.2.1 ((i + 1 : Nat) : Int) ∧ ∀ j : Int, 0 ≤ j → j < b'.2.1 → bO S j ≠ st t (po t)) ∧ o = f_Paths_fewestOwn_L19 K107 54 41 (qshl 3 (2 * b)) m b'.1 b'.2.1 b'.2.2) (by omega) (S0 := S2) (fun h3 S3 hF3 J3 X3 => ?_) (i := f.toNat) (fu := 1000000) (h := h2) (S := S2) (EX.rf _) ⟨M2, A2, F2, Q2⟩ (by rw [hfN]; exact J2) (by omega) (by omega) (by omega)
          · rw [hfN] at st126; exact st126
          · right
            refine ⟨(h3, bM S2, ((i + 1 : Nat) : Int)), ⟨rfl, by show ((i + 1 : Nat) : Int) ≤ bM S2; omega, S3, hF3, JW.next J3, fun j g0 g1 => ?_⟩, by rw [wtv, w32_n i (by omega)]⟩
            have g1 : j < bM S2 := g1
            rw [X3.2.2 j g1]
            intro e
            have := (J2.rg j g0 g1).2
            rw [e, q] at this
            omega
        · left
          rw [if_neg q, ← hK]
          simp only [C2, D2]
          rw [chk_t trivial, chk_t trivial, e4, far, bndT_ok (by decide)]
          exact ⟨_, h2, M2, rfl, A2, F2, JW.found N hz0 hz1n J2 rfl q⟩
  · obtain ⟨h1, f, x⟩ := x
    obtain ⟨hr_, hfr_, S1, ⟨M1, A1_, F1, Q1⟩, J1_, hno_⟩ := hx
    have hfr : ((nN t + 1 : Nat) : Int) ≤ f := hfr_
    have J1 : JW (nF t) b (nK t) (nN t) z S1 f (bM S1) f f ((nN t + 1 : Nat) : Int) := J1_
    have := J1.le3
    have := J1.ci.le
    omega
theorem c_fewestOf (A : At h c p L M) {t : tT} (K : KS E M L t) (b : Int) : ∃ d, (0 ≤ b ∧ b < nb t → nS t ≤ 20000 → DW (nF t) b (nK t) (nN t) (st t (pa t)) (st t (po t)) d) ∧ CR c M E t (f_Nb_fewestOf h 1 b) (if 0 ≤ b ∧ b < nb t then (if nS t ≤ 20000 then (0, d) else (4, xS)) else (4, xN)) := by
  have C := A.nb
  have hk : PK 54 55 56 := by unfold PK; decide
  have hnn := nN_eq K.W
  have hkk := nK_rng K.W
  have hS := nS_rng K.W
  unfold f_Nb_fewestOf
  simp only [C]
  rw [chk_t trivial, s_Nb_needBar A K]
  by_cases g : 0 ≤ b ∧ b < nb t
  · rw [if_pos g, bndT_ok (by decide)]
    simp only [C]
    rw [chk_t trivial]
    rcases s_Nb_needGraph A K with ⟨g2, e⟩ | ⟨g2, h1, p1, L1, M1, f1, A1, -, -, F1, K1, G1⟩
    · rw [e, bndT_ex]
      exact ⟨0, fun _ q => absurd q (by omega), by rw [if_pos g, if_neg (by omega)]; exact CR_ex A K⟩
    · rw [f1, bndT_ok (by decide)]
      have C1 := A1.nb
      have E1 := A1.b5
      simp only [C1, E1]
      rw [chk_t trivial, chk_t trivial, chk_t trivial, chk_t trivial, chk_t trivial, chk_t trivial, s_standNow5 A1 K1, bndT_ok (by decide), chk_t A1.p54.1]
      have hn := K.W.1
      obtain ⟨h2, p2, L2, M2, f2, A2, op2, oL2, l1, l2, F2, v3, Q2⟩ := s_Paths_begin A1 hk (n := nN t) (by omega) (by omega) (by rw [hnn]; exact G1.1.1.1) (z := st t (pa t)) K1.now.1 (by have := K1.now.2; omega)
      have C2 := A2.p54
      have G2 : GP M2 M2 L2 t := G1.fr (fun v hv => F2.1 v (by
        simp only [List.mem_cons, List.not_mem_nil, or_false] at hv
        rcases hv with rfl | rfl | rfl | rfl | rfl | rfl <;> decide) (by
        simp only [List.mem_cons, List.not_mem_nil, or_false] at hv
        rcases hv with rfl | rfl | rfl | rfl | rfl | rfl <;> decide)) (fun v hv => oL2 v (by
        simp only [List.mem_cons, List.not_mem_nil, or_false] at hv
        rcases hv with rfl | rfl | rfl <;> decide))
      obtain ⟨d, h3, M3, f3, A3, F3, D3⟩ := s_few19 K.W g2 G2 (by omega) (by omega) g.1 g.2 K1.now.1 K1.now.2 K1.opn A2 (by rw [← hnn]; exact Q2)
      refine ⟨d, fun _ _ => D3, ?_⟩
      rw [if_pos g, if_pos g2]
      have F23 : Fs [55, 56] 54 [3, 4] M1 M3 := F2.tr (F3.mono (fun _ h => h) (by simp))
      have hF : Fr [54, 55, 56] M1 M3 := fun v hv => by
        simp only [List.mem_cons, List.not_mem_nil, or_false, not_or] at hv
        exact F23.1 v (by simp; omega) (by omega)
      have m1 : M3 1 = M1 1 := hF 1 (by decide)
      have K3 : KS E M3 L2 t := ⟨K1.R.eq (fun v g0 g1 => hF v (by simp; omega)), K1.W, K1.D, by rw [hF 5 (by decide)]; exact K1.S, by rw [m1, hF 5 (by decide)]; exact K1.e, K1.G.keep (fun v hv => hF v (by
        simp only [List.mem_cons, List.not_mem_nil, or_false] at hv
        rcases hv with rfl | rfl | rfl | rfl | rfl | rfl <;> decide)) (fun v hv => oL2 v (by
        simp only [List.mem_cons, List.not_mem_nil, or_false] at hv
        rcases hv with rfl | rfl | rfl <;> decide)), K1.p1.keep m1 (hF _ (by decide)) (hF _ (by decide)) (hF _ (by decide)) (oL2 _ (by decide)) (oL2 _ (by decide)), K1.p2.keep m1 (hF _ (by decide)) (hF _ (by decide)) (hF _ (by decide)) (oL2 _ (by decide)) (oL2 _ (by decide)),
        ⟨Or.inl (by rw [F3.2 3 (by decide)]; exact v3), by rw [F23.2 1 (by decide), m1]; exact K1.p3.2.1, by rw [F23.2 0 (by decide)]; exact K1.p3.2.2⟩, K1.N.keep m1 (hF _ (by decide)) (hF _ (by decide))⟩
      unfold f_Paths_fewestOwn
      rw [w32_2b g.1 (by omega), wtv, chk_t A1.p54.1, f2, bndT_ok (by decide), f3, bndT_ok (by decide)]
      exact CR_mv F1.a (CR_mv (hF.mono (by decide)) (CR_ok A3 K3))
  · exact ⟨0, fun q _ => absurd q g, by rw [if_neg g, if_neg g, bndT_ex]; exact CR_ex A K⟩
end
