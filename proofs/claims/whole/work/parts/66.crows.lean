section
variable {h : mH} {c : Int} {p L : Int → Int} {M : aM} {E : Int → tT}
theorem GP.fr59 {M M' : aM} {L L' : Int → Int} {t : tT} (G : GP M M L t) (F : Fr [58, 59] M M') (hL : Of [58, 59] L L') : GP M' M' L' t := G.fr (fun v hv => F v (by
  simp only [List.mem_cons, List.not_mem_nil, or_false] at hv
  rcases hv with rfl | rfl | rfl | rfl | rfl | rfl <;> decide)) (fun v hv => hL v (by
  simp only [List.mem_cons, List.not_mem_nil, or_false] at hv
  rcases hv with rfl | rfl | rfl <;> decide))
theorem s_Counter_rowsFrom (A : At h c p L M) {t : tT} (W : WS t) (hS2 : nS t ≤ 20000) (G : GP M M L t) {z n sh : Int} (hn0 : 0 ≤ n) (hn1 : n ≤ 20) : ∃ h' p' L' M', f_Counter_rowsFrom h 57 41 z n sh = some ((1, rwV t z n sh), h') ∧ At h' c p' L' M' ∧ Of [58, 59] L L' ∧ Fr [58, 59] M M' := by
  have hnn := nN_eq W
  have C := A.ca
  unfold f_Counter_rowsFrom rwV
  by_cases g : z = sh
  · rw [if_pos g, if_pos g]; exact ⟨h, p, L, M, rfl, A, Of.rf _ _, Fr.rf _ _⟩
  · rw [if_neg g, if_neg g]
    simp only [C]
    obtain ⟨h1, p1, L1, M1, f1, A1, oL1, F1, V1⟩ := s_Counter_begin A W hS2 G.1 (z := z)
    rw [chk_t trivial, f1, bndT_ok (by decide)]
    refine loop_r (F := fun m (b : mH × Int) => f_Counter_rowsFrom_L17 (fun h3 => f_Counter_rowsFrom_L44 57 41 1000000 h3 0 0) 57 41 n sh m b.1 b.2) (P := fun r => ∃ h' p' L' M', r = some ((1, sq (it t sh z n.toNat) (nN t)), h') ∧ At h' c p' L' M' ∧ Of [58, 59] L L' ∧ Fr [58, 59] M M') (fun i b => b.2 = (i : Int) ∧ ∃ p' L' M', At b.1 c p' L' M' ∧ Of [58, 59] L L' ∧ Fr [58, 59] M M' ∧ CV M' L' (nS t) (it t sh z i)) n.toNat (fun i hi b hb m => ?_) (fun b hb m => ?_) (i := 0) (b := (h1, 0)) ⟨rfl, p1, L1, M1, A1, oL1, F1, V1⟩ (by omega) (by omega)
    · obtain ⟨h2, r⟩ := b
      obtain ⟨hr_, p2, L2, M2, A2_, oL2, F2, V2⟩ := hb
      have hr : r = (i : Int) := hr_
      have A2 : At h2 c p2 L2 M2 := A2_
      clear hr_ A2_
      subst hr
      right
      have C2 := A2.ca
      obtain ⟨h3, p3, L3, M3, f3, A3, oL3, F3, V3⟩ := s_Counter_leadOn A2 W hS2 (G.fr59 F2 oL2) (fl := fun _ => true) (st' := 262143) (sh := sh) V2 (fun v hv => by
        have H : ∀ j : Fin 18, bt 262143 j.val = true := by decide +kernel
        exact H ⟨v, by have := nK_rng W; omega⟩)
      refine ⟨(h3, ((i + 1 : Nat) : Int)), ⟨rfl, p3, L3, M3, A3, oL2.tr oL3, F2.tr F3, V3⟩, ?_⟩
      show f_Counter_rowsFrom_L17 _ 57 41 n sh (m + 1) h2 i = f_Counter_rowsFrom_L17 _ 57 41 n sh m h3 ((i + 1 : Nat) : Int)
      rw [f_Counter_rowsFrom_L17, if_neg (by omega)]
      simp only [C2]
      rw [chk_t trivial, f3, bndT_ok (by decide), wtv, w32_n i (by omega)]
    · obtain ⟨h2, r⟩ := b
      obtain ⟨hr_, p2, L2, M2, A2_, oL2, F2, V2⟩ := hb
      have hr : r = (n.toNat : Int) := hr_
      have A2 : At h2 c p2 L2 M2 := A2_
      clear hr_ A2_
      have C2 := A2.ca
      have D2 := A2.gr
      have e2 : M2 41 2 = nS t := by rw [F2 41 (by decide)]; exact G.1.1.1
      have hL := V2.1
      refine ⟨h2, p2, L2, M2, ?_, A2, oL2, F2⟩
      show f_Counter_rowsFrom_L17 _ 57 41 n sh (m + 1) h2 r = _
      rw [f_Counter_rowsFrom_L17, if_pos (by omega)]
      refine loop_r (F := fun m (b : Int × Int) => f_Counter_rowsFrom_L44 57 41 m h2 b.1 b.2) (P := fun o => o = some ((1, sq (it t sh z n.toNat) (nN t)), h2)) (fun i x => x = (sq (it t sh z n.toNat) i, (i : Int))) (nN t) (fun i hi x hx m => ?_) (fun x hx m => ?_) (i := 0) (b := (0, 0)) rfl (by omega) (by omega)
      · subst hx
        right
        refine ⟨_, rfl, ?_⟩
        show f_Counter_rowsFrom_L44 57 41 (m + 1) h2 (sq (it t sh z n.toNat) i) i = f_Counter_rowsFrom_L44 57 41 m h2 (w64 (sq (it t sh z n.toNat) i + it t sh z n.toNat i)) ((i + 1 : Nat) : Int)
        rw [f_Counter_rowsFrom_L44]
        simp only [C2, D2]
        rw [chk_t trivial, e2, if_neg (by omega), chk_t trivial, chk_t (by decide), if_neg (by omega), chk_t trivial, chk_t trivial, chk_t (by omega), V2.2.2 i (by omega) (by omega), wtv, wtv, w32_n i (by omega)]
      · subst hx
        show f_Counter_rowsFrom_L44 57 41 (m + 1) h2 _ _ = _
        rw [f_Counter_rowsFrom_L44]
        simp only [D2]
        rw [chk_t trivial, e2, if_pos (by omega)]
theorem KS.fr59 {M M' : aM} {L L' : Int → Int} {t : tT} (K : KS E M L t) (F : Fr [58, 59] M M') (hL : Of [58, 59] L L') : KS E M' L' t := K.keep (fun v hv => F v (by
  simp only [List.mem_cons, List.not_mem_nil, or_false, not_or]
  unfold kO at hv; omega)) (fun v hv => hL v (by
  simp only [List.mem_cons, List.not_mem_nil, or_false, not_or]
  unfold kO at hv; omega))
theorem c_rows (A : At h c p L M) {t : tT} (K : KS E M L t) (n o : Int) : CR c M E t (f_Nb_rows h 1 n o) (if 0 ≤ n ∧ n ≤ 20 then (if nS t ≤ 20000 then (1, if o = 0 then rwV t (st t (pa t)) n (-1) else w64 (rwV t (st t (pa t)) n (-1) - rwV t (st t (pa t)) n (st t (po t)))) else (4, xS)) else (4, xA)) := by
  have C := A.nb
  unfold f_Nb_rows
  by_cases g : n < 0
  · rw [if_pos g, if_neg (by omega)]; exact CR_ex A K
  · rw [if_neg g]
    by_cases g2 : n ≤ 20
    · rw [if_pos g2, if_pos (by omega)]
      simp only [C]
      rw [chk_t trivial]
      refine CR_graph A K (fun h1 p1 L1 M1 A1 K1 G1 F1 hS2 => ?_)
      have C1 := A1.nb
      have D1 := A1.b5
      have E1 := A1.ca
      simp only [C1, D1]
      rw [chk_t trivial, chk_t trivial, chk_t trivial, chk_t trivial, s_standNow5 A1 K1, bndT_ok (by decide)]
      simp only [C1, E1]
      obtain ⟨h2, p2, L2, M2, f2, A2, oL2, F2⟩ := s_Counter_rowsFrom A1 K.W hS2 G1 (z := st t (pa t)) (n := n) (sh := -1) (by omega) g2
      have C2 := A2.nb
      have D2 := A2.gr
      have E2 := A2.ca
      rw [chk_t trivial, chk_t trivial, chk_t trivial, f2, bndT_ok (by decide)]
      have K2 := K1.fr59 F2 oL2
      by_cases go : o = 0
      · rw [if_pos go, if_pos go]
        exact CR_mv (F2.mono (by decide)) (CR_ok A2 K2)
      · rw [if_neg go, if_neg go]
        have G2 := G1.fr59 F2 oL2
        obtain ⟨h3, p3, L3, M3, f3, A3, oL3, F3⟩ := s_Counter_rowsFrom A2 K.W hS2 G2 (z := st t (pa t)) (n := n) (sh := st t (po t)) (by omega) g2
        simp only [C2, D2, E2]
        rw [chk_t trivial, chk_t trivial, chk_t trivial, chk_t trivial, chk_t trivial, G2.1.1.2.2, f3, bndT_ok (by decide)]
        exact CR_mv ((F2.tr F3).mono (by decide)) (CR_ok A3 (K2.fr59 F3 oL3))
    · rw [if_neg g2, if_neg (by omega)]; exact CR_ex A K
/-! trays of the class -/
def TK (τ k a : Int) : Prop := (τ = 0 ∧ k = 33 ∧ a = 34) ∨ (τ = 1 ∧ k = 35 ∧ a = 36) ∨ (τ = 2 ∧ k = 37 ∧ a = 38) ∨ (τ = 3 ∧ k = 39 ∧ a = 40)
theorem At.tk (A : At h c p L M) {τ k a : Int} (hk : TK τ k a) : hpV h 32 τ = k ∧ hpT h k = 10 ∧ hpV h k 0 = a ∧ hpV h k 1 = M k 1 ∧ hpV h k 2 = M k 2 ∧ hpT h a = 22 ∧ hpL h a = 40 ∧ ∀ i, hpV h a i = M a i := by
  have B := A.ty
  have C := A.nb
  rcases hk with ⟨rfl, rfl, rfl⟩ | ⟨rfl, rfl, rfl⟩ | ⟨rfl, rfl, rfl⟩ | ⟨rfl, rfl, rfl⟩ <;> simp only [B, C] <;> simp
theorem TK.of {τ : Int} (h0 : 0 ≤ τ) (h1 : τ < 4) : TK τ (33 + 2 * τ) (34 + 2 * τ) := by unfold TK; omega
theorem TK.rg {τ k a : Int} (hk : TK τ k a) : 0 ≤ τ ∧ τ < 4 ∧ 33 ≤ k ∧ k ≤ 39 ∧ 34 ≤ a ∧ a ≤ 40 ∧ k ≠ a := by unfold TK at hk; omega
theorem s_Nb_needTray (A : At h c p L M) (τ : Int) : (¬ (0 ≤ τ ∧ τ < 4) ∧ f_Nb_needTray h 1 τ = some ((4, xN), halc h 0 0 6)) ∨ ((0 ≤ τ ∧ τ < 4) ∧ f_Nb_needTray h 1 τ = if M (33 + 2 * τ) 2 = -1 then some ((4, xS), halc h 0 0 6) else some ((2, 33 + 2 * τ), h)) := by
  have C := A.nb
  unfold f_Nb_needTray f_Nb_needTrayNumber
  simp only [C]
  rw [chk_t trivial]
  by_cases g : τ < 0
  · left; rw [if_pos g, bndT_ex]; exact ⟨by omega, rfl⟩
  · rw [if_neg g]
    by_cases g2 : τ < 4
    · right
      have D := A.tk (TK.of (by omega) g2)
      rw [if_pos g2, bndT_ok (by decide)]
      simp only [C]
      rw [chk_t trivial, chk_t trivial, chk_t (by omega)]
      simp only [D]
      rw [chk_t trivial]
      refine ⟨by omega, ?_⟩
      by_cases g3 : M (33 + 2 * τ) 2 = -1
      · rw [if_pos g3, if_pos g3]; rfl
      · rw [if_neg g3, if_neg g3, chk_t trivial, chk_t trivial, chk_t (by omega)]
    · left; rw [if_neg g2, bndT_ex]; exact ⟨by omega, rfl⟩
theorem s_Counter_versesAsTold (A : At h c p L M) {t : tT} (W : WS t) (hS2 : nS t ≤ 20000) (G : GP M M L t) {z τ k a : Int} (hk : TK τ k a) (hm0 : 0 ≤ M k 2) (hm1 : M k 2 ≤ 40) (ho : 0 ≤ st t (po t) ∧ st t (po t) < nS t) : ∃ h' p' L' M', f_Counter_versesAsTold h 57 41 z k = some ((1, itK t z (M a) (M k 2).toNat (st t (po t))), h') ∧ At h' c p' L' M' ∧ Of [58, 59] L L' ∧ Fr [58, 59] M M' := by
  have hnn := nN_eq W
  have hkk := nK_rng W
  have C := A.ca
  have hkr := hk.rg
  obtain ⟨h1, p1, L1, M1, f1, A1, oL1, F1, V1⟩ := s_Counter_begin A W hS2 G.1 (z := z)
  unfold f_Counter_versesAsTold
  simp only [C]
  rw [chk_t trivial, f1, bndT_ok (by decide)]
  refine loop_r (F := fun m (b : mH × Int) => f_Counter_versesAsTold_L9 (fun h3 => chk (hpT h3 41 = 5) (chk (hpT h3 57 = 2) (bndT 1 (f_Counter_rowsAt h3 57 (hpV h3 41 4)) (fun x5 h4 => some ((1, x5), h4))))) 57 41 k m b.1 b.2) (P := fun r => ∃ h' p' L' M', r = some ((1, itK t z (M a) (M k 2).toNat (st t (po t))), h') ∧ At h' c p' L' M' ∧ Of [58, 59] L L' ∧ Fr [58, 59] M M') (fun i b => b.2 = (i : Int) ∧ ∃ p' L' M', At b.1 c p' L' M' ∧ Of [58, 59] L L' ∧ Fr [58, 59] M M' ∧ CV M' L' (nS t) (itK t z (M a) i)) (M k 2).toNat (fun i hi b hb m => ?_) (fun b hb m => ?_) (i := 0) (b := (h1, 0)) ⟨rfl, p1, L1, M1, A1, oL1, F1, V1⟩ (by omega) (by omega)
  · obtain ⟨h2, r⟩ := b
    obtain ⟨hr_, p2, L2, M2, A2_, oL2, F2, V2⟩ := hb
    have hr : r = (i : Int) := hr_
    have A2 : At h2 c p2 L2 M2 := A2_
    clear hr_ A2_
    subst hr
    right
    have C2 := A2.ca
    have D2 := A2.gr
    have T2 := A2.tk hk
    have G2 := G.fr59 F2 oL2
    have ek : M2 k 2 = M k 2 := by rw [F2 k (by simp; omega)]
    have ea : M2 a i = M a i := by rw [F2 a (by simp; omega)]
    have step : ∀ st', (∀ v : Nat, v < nK t → bt st' v = flT (M a i) v) → ∃ b' : mH × Int, (b'.2 = ((i + 1 : Nat) : Int) ∧ ∃ p' L' M', At b'.1 c p' L' M' ∧ Of [58, 59] L L' ∧ Fr [58, 59] M M' ∧ CV M' L' (nS t) (itK t z (M a) (i + 1))) ∧ f_Counter_versesAsTold_J74 (f_Counter_versesAsTold_L9 (fun h3 => chk (hpT h3 41 = 5) (chk (hpT h3 57 = 2) (bndT 1 (f_Counter_rowsAt h3 57 (hpV h3 41 4)) (fun x5 h4 => some ((1, x5), h4))))) 57 41 k m) i 57 41 st' h2 = f_Counter_versesAsTold_L9 (fun h3 => chk (hpT h3 41 = 5) (chk (hpT h3 57 = 2) (bndT 1 (f_Counter_rowsAt h3 57 (hpV h3 41 4)) (fun x5 h4 => some ((1, x5), h4))))) 57 41 k m b'.1 b'.2 := fun st' hst => by
      obtain ⟨h3, p3, L3, M3, f3, A3, oL3, F3, V3⟩ := s_Counter_leadOn A2 W hS2 G2 (fl := flT (M a i)) (st' := st') (sh := -1) V2 hst
      refine ⟨(h3, ((i + 1 : Nat) : Int)), ⟨rfl, p3, L3, M3, A3, oL2.tr oL3, F2.tr F3, V3⟩, ?_⟩
      unfold f_Counter_versesAsTold_J74
      simp only [C2]
      rw [chk_t trivial, f3, bndT_ok (by decide), wtv, w32_n i (by omega)]
    have hall : M a i = -1 → ∀ v : Nat, v < nK t → bt 262143 v = flT (M a i) v := fun e v hv => by
      have H : ∀ j : Fin 18, bt 262143 j.val = true := by decide +kernel
      rw [H ⟨v, by omega⟩]; unfold flT; rw [decide_eq_true e]; rfl
    have hnone : M a i ≠ -1 → ¬ (0 ≤ M a i ∧ M a i < 2 * nb t) → ∀ v : Nat, v < nK t → bt 0 v = flT (M a i) v := fun e e2 v hv => by
      rw [bt_0]; unfold flT; rw [decide_eq_false e, decide_eq_false (by omega)]; rfl
    show ∃ b' : mH × Int, _ ∧ f_Counter_versesAsTold_L9 _ 57 41 k (m + 1) h2 i = _
    rw [f_Counter_versesAsTold_L9]
    simp only [T2]
    rw [chk_t trivial, ek, if_neg (by omega), chk_t trivial, chk_t trivial, chk_t (by omega), wtv, ea]
    unfold f_Counter_versesAsTold_J53 f_Counter_versesAsTold_J54
    by_cases g1 : M a i < 0
    · rw [if_pos (qlcmp_lt.mpr g1)]
      by_cases g2 : M a i = -1
      · rw [if_pos (qlcmp_eq.mpr g2)]; exact step _ (hall g2)
      · rw [if_neg (fun e => g2 (qlcmp_eq.mp e))]; exact step _ (hnone g2 (by omega))
    · rw [if_neg (fun e => g1 (qlcmp_lt.mp e))]
      simp only [D2]
      rw [chk_t trivial, G2.1.1.2.1]
      have hne : M a i ≠ -1 := by omega
      have hne2 : ¬ qlcmp (M a i) (-1) = 0 := fun e => hne (qlcmp_eq.mp e)
      by_cases g2 : 2 * nb t ≤ M a i
      · have : 0 ≤ qlcmp (M a i) (2 * nb t) := by
          have := qlcmp_lt (a := M a i) (b := 2 * nb t)
          omega
        rw [if_pos this, if_neg hne2]; exact step _ (hnone hne (by omega))
      · have : ¬ 0 ≤ qlcmp (M a i) (2 * nb t) := by
          have := qlcmp_lt (a := M a i) (b := 2 * nb t)
          omega
        rw [if_neg this, if_neg hne2, w32_id (by omega) (by omega)]
        refine step _ (fun v hv => ?_)
        rw [bt_shl1 (by omega) (by omega) (by omega)]
        unfold flT
        rw [decide_eq_false hne, Bool.false_or]
        congr 1; apply propext; omega
  · obtain ⟨h2, r⟩ := b
    obtain ⟨hr_, p2, L2, M2, A2_, oL2, F2, V2⟩ := hb
    have hr : r = ((M k 2).toNat : Int) := hr_
    have A2 : At h2 c p2 L2 M2 := A2_
    clear hr_ A2_
    have C2 := A2.ca
    have D2 := A2.gr
    have T2 := A2.tk hk
    have G2 := G.fr59 F2 oL2
    have ek : M2 k 2 = M k 2 := by rw [F2 k (by simp; omega)]
    refine ⟨h2, p2, L2, M2, ?_, A2, oL2, F2⟩
    show f_Counter_versesAsTold_L9 _ 57 41 k (m + 1) h2 r = _
    rw [f_Counter_versesAsTold_L9]
    simp only [T2]
    rw [chk_t trivial, ek, if_pos (by omega)]
    simp only [C2, D2]
    rw [chk_t trivial, chk_t trivial, G2.1.1.2.2, s_Counter_rowsAt A2 V2 ho.1 ho.2, bndT_ok (by decide)]
theorem c_known (A : At h c p L M) {t : tT} (K : KS E M L t) {τ : Int} (hm : 0 ≤ τ → τ < 4 → -1 ≤ M (33 + 2 * τ) 2 ∧ M (33 + 2 * τ) 2 ≤ 40) : CR c M E t (f_Nb_known h 1 τ) (if 0 ≤ τ ∧ τ < 4 then (if M (33 + 2 * τ) 2 = -1 then (4, xS) else if nS t ≤ 20000 then (if 1 ≤ M (33 + 2 * τ) 2 then (1, itK t (st t (pa t)) (M (34 + 2 * τ)) (M (33 + 2 * τ) 2).toNat (st t (po t))) else (4, xA)) else (4, xS)) else (4, xN)) := by
  have C := A.nb
  unfold f_Nb_known
  simp only [C]
  rw [chk_t trivial]
  rcases s_Nb_needTray A τ with ⟨g, e⟩ | ⟨g, e⟩
  · rw [e, bndT_ex, if_neg g]; exact CR_ex A K
  · rw [e, if_pos g]
    have hm := hm g.1 g.2
    by_cases g2 : M (33 + 2 * τ) 2 = -1
    · rw [if_pos g2, if_pos g2, bndT_ex]; exact CR_ex A K
    · rw [if_neg g2, if_neg g2, bndT_ok (by decide)]
      simp only [C]
      rw [chk_t trivial]
      refine CR_graph A K (fun h1 p1 L1 M1 A1 K1 G1 F1 hS2 => ?_)
      have C1 := A1.nb
      have D1 := A1.b5
      have E1 := A1.ca
      have T1 := A1.tk (TK.of g.1 g.2)
      have ek : M1 (33 + 2 * τ) = M (33 + 2 * τ) := F1 _ (by unfold cA; simp; omega)
      have ea : M1 (34 + 2 * τ) = M (34 + 2 * τ) := F1 _ (by unfold cA; simp; omega)
      simp only [T1]
      rw [chk_t trivial, ek]
      by_cases g3 : 1 ≤ M (33 + 2 * τ) 2
      · rw [if_pos g3, if_pos g3]
        simp only [C1, D1]
        rw [chk_t trivial, chk_t trivial, chk_t trivial, chk_t trivial, chk_t trivial, chk_t trivial, s_standNow5 A1 K1, bndT_ok (by decide)]
        simp only [E1]
        obtain ⟨h2, p2, L2, M2, f2, A2, oL2, F2⟩ := s_Counter_versesAsTold A1 K.W hS2 G1 (z := st t (pa t)) (TK.of g.1 g.2) (by rw [ek]; omega) (by rw [ek]; omega) K.opn
        rw [chk_t trivial, f2, bndT_ok (by decide), ek, ea]
        exact CR_mv (F2.mono (by decide)) (CR_ok A2 (K1.fr59 F2 oL2))
      · rw [if_neg g3, if_neg g3]; exact CR_ex A1 K1
end
