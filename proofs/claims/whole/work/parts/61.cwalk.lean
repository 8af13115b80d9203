/-! THE CLASS'S ANSWERS OUT OF ITS WALKS -/
section
variable {h : mH} {c : Int} {p L : Int → Int} {M : aM} {E : Int → tT}
theorem PR_B {M : aM} {L : Int → Int} {k f o : Int} {t : tT} (W : WS t) {z : Int} {bk : Bool} (hz0 : 0 ≤ z) (hz1 : z < nS t) : BI (nxD bk t (wS t)) (nK t) (nN t) z (bfs (nxD bk t (wS t)) (nK t) (nN t) z) := BI_bfs (NX_D W bk (wS t)) hz0 (by have := nN_eq W; omega)
theorem s_Paths_farthestStand (A : At h c p L M) {t : tT} (W : WS t) (hS2 : nS t ≤ 20000) {z : Int} (hz0 : 0 ≤ z) (hz1 : z < nS t) (P : PR M L 48 49 50 t z false) : ∃ b, f_Paths_farthestStand h 48 = some ((0, b), h) ∧ Fst (SF t z) (nS t) b := by
  have hk : PK 48 49 50 := by unfold PK; decide
  have C := A.p48
  have hn := nN_eq W
  have B : BI (nF t) (nK t) (nN t) z (SF t z) := BI_bfs (NX_F W false X0 (wS t)) hz0 (by omega)
  have Q : PI M 49 50 (M 48 4) (nS t) (SF t z) := P.2.2
  have hle := B.le
  have hL := P.1
  have hL2 := P.2.1
  have far : ∀ s, 0 ≤ s → s < nS t → f_Paths_farOf h 48 s = some ((0, bF (SF t z) s), h) := fun s g0 g1 => PR_far A hk P g0 g1
  have far1 : f_Paths_farOf h 48 (-1) = some ((0, -1), h) := by rw [s_Paths_farOf A hk, if_neg (by omega)]
  unfold f_Paths_farthestStand
  refine loop_r (F := fun n (b : Int × Int) => f_Paths_farthestStand_L4 48 n h b.1 b.2) (P := fun o => ∃ b, o = some ((0, b), h) ∧ Fst (SF t z) (nS t) b)
    (fun i x => x.2 = (i : Int) ∧ ((i = 0 ∧ x.1 = -1) ∨ ((0 ≤ x.1 ∧ x.1 < nS t) ∧ 0 ≤ bF (SF t z) x.1 ∧ ∀ j : Int, 0 ≤ j → j < i → bF (SF t z) (bO (SF t z) j) < bF (SF t z) x.1 ∨ (bF (SF t z) (bO (SF t z) j) = bF (SF t z) x.1 ∧ x.1 ≤ bO (SF t z) j)))) (bM (SF t z)).toNat (fun i hi x hx n => ?_) (fun x hx n => ?_) (i := 0) (b := (-1, 0)) ⟨rfl, Or.inl ⟨rfl, rfl⟩⟩ (by omega) (by omega)
  · obtain ⟨b, r⟩ := x
    obtain ⟨hr, hb⟩ := hx
    have hr : r = (i : Int) := hr
    subst hr
    right
    have hu := B.2.1 i (by omega) (by omega)
    rw [hn] at hu
    have j52 : ∀ b, f_Paths_farthestStand_J52 (f_Paths_farthestStand_L4 48 n) b i h = f_Paths_farthestStand_L4 48 n h b ((i + 1 : Nat) : Int) := fun b => by
      unfold f_Paths_farthestStand_J52; rw [wtv, w32_n i (by omega)]
    have j50 : ∀ b, f_Paths_farthestStand_J50 (f_Paths_farthestStand_L4 48 n) i b h = f_Paths_farthestStand_L4 48 n h b ((i + 1 : Nat) : Int) := fun b => by
      unfold f_Paths_farthestStand_J50; exact j52 b
    show ∃ b' : Int × Int, _ ∧ f_Paths_farthestStand_L4 48 (n + 1) h b i = _
    rw [f_Paths_farthestStand_L4]
    simp only [C]
    rw [chk_t trivial, Q.2.2, if_neg (by omega), chk_t trivial, chk_t trivial, chk_t (by omega), wtv, Q.2.1 i (by omega) (by omega), chk_t trivial, far _ hu.1.1 hu.1.2, bndT_ok (by decide)]
    simp only [C]
    rw [chk_t trivial]
    have take : (∀ j : Int, 0 ≤ j → j < i → bF (SF t z) (bO (SF t z) j) < bF (SF t z) (bO (SF t z) i) ∨ (bF (SF t z) (bO (SF t z) j) = bF (SF t z) (bO (SF t z) i) ∧ bO (SF t z) i ≤ bO (SF t z) j)) → ∃ b' : Int × Int, (b'.2 = ((i + 1 : Nat) : Int) ∧ ((i + 1 = 0 ∧ b'.1 = -1) ∨ ((0 ≤ b'.1 ∧ b'.1 < nS t) ∧ 0 ≤ bF (SF t z) b'.1 ∧ ∀ j : Int, 0 ≤ j → j < ((i + 1 : Nat) : Int) → bF (SF t z) (bO (SF t z) j) < bF (SF t z) b'.1 ∨ (bF (SF t z) (bO (SF t z) j) = bF (SF t z) b'.1 ∧ b'.1 ≤ bO (SF t z) j)))) ∧ f_Paths_farthestStand_L4 48 n h (bO (SF t z) i) ((i + 1 : Nat) : Int) = f_Paths_farthestStand_L4 48 n h b'.1 b'.2 := fun hj => by
      refine ⟨(bO (SF t z) i, ((i + 1 : Nat) : Int)), ⟨rfl, Or.inr ⟨hu.1, hu.2, fun j g0 g1 => ?_⟩⟩, rfl⟩
      by_cases e : j = i
      · right; rw [e]; exact ⟨rfl, Int.le_refl _⟩
      · exact hj j g0 (by omega)
    rcases hb with ⟨e0, e1⟩ | ⟨b1, b2, b3⟩
    · have e1 : b = -1 := e1
      subst e1
      rw [far1, bndT_ok (by decide), if_pos (by omega), j50]
      exact take (fun j g0 g1 => by omega)
    · have b1 : 0 ≤ b ∧ b < nS t := b1
      have b2 : 0 ≤ bF (SF t z) b := b2
      have b3 : ∀ j : Int, 0 ≤ j → j < i → bF (SF t z) (bO (SF t z) j) < bF (SF t z) b ∨ (bF (SF t z) (bO (SF t z) j) = bF (SF t z) b ∧ b ≤ bO (SF t z) j) := b3
      have keep : (bF (SF t z) (bO (SF t z) i) < bF (SF t z) b ∨ (bF (SF t z) (bO (SF t z) i) = bF (SF t z) b ∧ b ≤ bO (SF t z) i)) → ∃ b' : Int × Int, (b'.2 = ((i + 1 : Nat) : Int) ∧ ((i + 1 = 0 ∧ b'.1 = -1) ∨ ((0 ≤ b'.1 ∧ b'.1 < nS t) ∧ 0 ≤ bF (SF t z) b'.1 ∧ ∀ j : Int, 0 ≤ j → j < ((i + 1 : Nat) : Int) → bF (SF t z) (bO (SF t z) j) < bF (SF t z) b'.1 ∨ (bF (SF t z) (bO (SF t z) j) = bF (SF t z) b'.1 ∧ b'.1 ≤ bO (SF t z) j)))) ∧ f_Paths_farthestStand_L4 48 n h b ((i + 1 : Nat) : Int) = f_Paths_farthestStand_L4 48 n h b'.1 b'.2 := fun hj => by
        refine ⟨(b, ((i + 1 : Nat) : Int)), ⟨rfl, Or.inr ⟨b1, b2, fun j g0 g1 => ?_⟩⟩, rfl⟩
        by_cases e : j = i
        · rw [e]; exact hj
        · exact b3 j g0 (by omega)
      rw [far b b1.1 b1.2, bndT_ok (by decide)]
      by_cases g : bF (SF t z) b < bF (SF t z) (bO (SF t z) i)
      · rw [if_pos g, j50]
        exact take (fun j g0 g1 => by have := b3 j g0 g1; omega)
      · rw [if_neg g]
        simp only [C]
        rw [chk_t trivial, far _ hu.1.1 hu.1.2, bndT_ok (by decide)]
        simp only [C]
        rw [chk_t trivial, far b b1.1 b1.2, bndT_ok (by decide)]
        by_cases g2 : bF (SF t z) (bO (SF t z) i) = bF (SF t z) b
        · rw [if_pos g2]
          by_cases g3 : b ≤ bO (SF t z) i
          · rw [if_pos g3, j52]; exact keep (Or.inr ⟨g2, g3⟩)
          · rw [if_neg g3, j50]
            exact take (fun j g0 g1 => by have := b3 j g0 g1; omega)
        · rw [if_neg g2, j52]; exact keep (Or.inl (by omega))
  · obtain ⟨b, r⟩ := x
    obtain ⟨hr, hb⟩ := hx
    have hr : r = ((bM (SF t z)).toNat : Int) := hr
    subst hr
    have hm := B.1.2
    rcases hb with ⟨e0, e1⟩ | ⟨b1, b2, b3⟩
    · omega
    · have b2 : 0 ≤ bF (SF t z) b := b2
      refine ⟨b, ?_, b1, by omega, fun s g0 g1 g2 => ?_⟩
      · show f_Paths_farthestStand_L4 48 (n + 1) h b _ = _
        rw [f_Paths_farthestStand_L4]
        simp only [C]
        rw [chk_t trivial, Q.2.2, if_pos (by omega)]
      · rcases B.2.2.2.1 s with g3 | ⟨g3, g4, j, g5, g6, g7⟩
        · exact absurd g3 g2
        · have := b3 j g5 (by omega)
          rw [g7] at this; exact this
theorem cnN_pre {P : Int → Bool} {m : Nat} : ∀ {n : Nat}, m ≤ n → (∀ i : Int, 0 ≤ i → i < m → P i = true) → (∀ i : Int, m ≤ i → i < n → P i = false) → cnN P n = m
  | 0, h, _, _ => by rw [show m = 0 by omega]; rfl
  | n + 1, h, h1, h2 => by
    by_cases e : m = n + 1
    · rw [e] at h1 ⊢; exact cnN_true h1
    · show cnN P n + _ = _
      rw [cnN_pre (by omega) h1 (fun i g0 g1 => h2 i g0 (by omega)), h2 n (by omega) (by omega)]; simp
theorem s_Paths_manyWithin (A : At h c p L M) {t : tT} (W : WS t) (hS2 : nS t ≤ 20000) {z : Int} (hz0 : 0 ≤ z) (hz1 : z < nS t) (P : PR M L 48 49 50 t z false) (m : Int) : f_Paths_manyWithin h 48 m = some ((0, cnN (fun i => decide (bF (SF t z) (bO (SF t z) i) ≤ m)) (bM (SF t z)).toNat), h) := by
  have hk : PK 48 49 50 := by unfold PK; decide
  have C := A.p48
  have hn := nN_eq W
  have B : BI (nF t) (nK t) (nN t) z (SF t z) := BI_bfs (NX_F W false X0 (wS t)) hz0 (by omega)
  have Q : PI M 49 50 (M 48 4) (nS t) (SF t z) := P.2.2
  have hle := B.le
  have hL := P.1
  have hL2 := P.2.1
  unfold f_Paths_manyWithin
  refine loop_r (F := fun n (b : Int) => f_Paths_manyWithin_L2 48 m n h b) (P := fun o => o = _) (fun i x => x = (i : Int) ∧ ∀ j : Int, 0 ≤ j → j < i → bF (SF t z) (bO (SF t z) j) ≤ m) (bM (SF t z)).toNat (fun i hi x hx n => ?_) (fun x hx n => ?_) (i := 0) (b := 0) ⟨rfl, fun j g0 g1 => by omega⟩ (by omega) (by omega)
  · obtain ⟨rfl, hx⟩ := hx
    have hu := B.2.1 i (by omega) (by omega)
    rw [hn] at hu
    show f_Paths_manyWithin_L2 48 m (n + 1) h i = _ ∨ ∃ b', _ ∧ f_Paths_manyWithin_L2 48 m (n + 1) h i = _
    rw [f_Paths_manyWithin_L2]
    simp only [C]
    rw [chk_t trivial, Q.2.2, if_neg (by omega), chk_t trivial, chk_t trivial, chk_t (by omega), chk_t trivial, Q.2.1 i (by omega) (by omega), PR_far A hk P hu.1.1 hu.1.2, bndT_ok (by decide)]
    show (if m < bF (SF t z) (bO (SF t z) i) then _ else _) = _ ∨ _
    by_cases g : m < bF (SF t z) (bO (SF t z) i)
    · left
      rw [if_pos g]
      rw [cnN_pre (m := i) (by omega) (fun j g0 g1 => decide_eq_true (hx j g0 g1)) (fun j g0 g1 => decide_eq_false (by have := B.2.2.2.2.1 i j (by omega) g0 (by omega); omega))]
    · right
      refine ⟨((i + 1 : Nat) : Int), ⟨rfl, fun j g0 g1 => ?_⟩, ?_⟩
      · by_cases e : j = i
        · rw [e]; omega
        · exact hx j g0 (by omega)
      · show (if m < bF (SF t z) (bO (SF t z) i) then _ else _) = _
        rw [if_neg g, wtv, w32_n i (by omega)]
  · obtain ⟨rfl, hx⟩ := hx
    show f_Paths_manyWithin_L2 48 m (n + 1) h _ = _
    rw [f_Paths_manyWithin_L2]
    simp only [C]
    rw [chk_t trivial, Q.2.2, if_pos (by omega), cnN_true (fun j g0 g1 => decide_eq_true (hx j g0 g1))]
theorem gm_gs {t : tT} (W : WS t) {s v : Int} (h0 : 0 ≤ v) (h1 : v < 2 * nb t) : gm t (wB t) s v = gs t s v := gm_go W (bt_wB W) h0 h1 X0
theorem s_Paths_lineFrom (A : At h c p L M) {t : tT} (W : WS t) (hS2 : nS t ≤ 20000) (G : GP M M L t) {z : Int} (P : PR M L 51 52 53 t z true) (hz0 : 0 ≤ z) (hz1 : z < nS t) {s : Int} (h0 : 0 ≤ s) (h1 : s < nS t) : f_Paths_lineFrom h 51 41 s = some ((0, lnx t (SB t z) s), h) := by
  have hk : PK 51 52 53 := by unfold PK; decide
  have C := A.p51
  have D := A.gr
  have hn := nN_eq W
  have hkk := nK_rng W
  have B : BI (nB t) (nK t) (nN t) z (SB t z) := BI_bfs (NX_B W false X0 (wS t)) hz0 (by omega)
  have hfl := B.fle s
  have hL := P.1
  have farS := PR_far A hk P h0 h1
  have farS : f_Paths_farOf h 51 s = some ((0, bF (SB t z) s), h) := farS
  unfold f_Paths_lineFrom
  refine loop_r (F := fun n (b : Int) => f_Paths_lineFrom_L2 51 41 s n h b) (P := fun o => o = _) (fun i x => x = (i : Int) ∧ (0 < bF (SB t z) s → ∀ j : Int, 0 ≤ j → j < i → (gs t s j && decide (bF (SB t z) (s + sf t j) = bF (SB t z) s - 1)) = false)) (nK t) (fun i hi x hx n => ?_) (fun x hx n => ?_) (i := 0) (b := 0) ⟨rfl, fun _ j g0 g1 => by omega⟩ (by omega) (by omega)
  · obtain ⟨rfl, hx⟩ := hx
    show f_Paths_lineFrom_L2 51 41 s (n + 1) h i = _ ∨ ∃ b', _ ∧ f_Paths_lineFrom_L2 51 41 s (n + 1) h i = _
    rw [f_Paths_lineFrom_L2]
    simp only [C, D]
    rw [chk_t trivial, G.1.1.2.1, if_neg (by omega), chk_t trivial, farS, bndT_ok (by decide)]
    by_cases g : bF (SB t z) s ≤ 0
    · left
      rw [if_pos g]; unfold lnx; rw [if_neg (by omega)]
    · rw [if_neg g]
      simp only [C, D]
      rw [chk_t trivial, s_Graph_goesFrom A W G.1 G.2.1, bndT_ok (by decide), decide_eq_true h0, decide_eq_true h1, decide_eq_true (show (0 : Int) ≤ i by omega), decide_eq_true (show (i : Int) < 2 * nb t by omega), gm_gs W (by omega) (by omega), Bool.true_and, Bool.true_and, Bool.true_and]
      have j51 : f_Paths_lineFrom_J51 (f_Paths_lineFrom_L2 51 41 s n) i h = f_Paths_lineFrom_L2 51 41 s n h ((i + 1 : Nat) : Int) := by
        unfold f_Paths_lineFrom_J51; rw [wtv, w32_n i (by omega)]
      have next : (gs t s i && decide (bF (SB t z) (s + sf t i) = bF (SB t z) s - 1)) = false → ((i + 1 : Nat) : Int) = ((i + 1 : Nat) : Int) ∧ (0 < bF (SB t z) s → ∀ j : Int, 0 ≤ j → j < ((i + 1 : Nat) : Int) → (gs t s j && decide (bF (SB t z) (s + sf t j) = bF (SB t z) s - 1)) = false) := fun hf => ⟨rfl, fun g2 j g0 g1 => by
        by_cases e : j = i
        · rw [e]; exact hf
        · exact hx g2 j g0 (by omega)⟩
      cases hg : gs t s i
      · right
        rw [if_pos (by rfl), j51]
        exact ⟨_, next (by rw [hg]; rfl), rfl⟩
      · obtain ⟨a1, a2, a3, a4⟩ := go_rng hg
        have hto := go_to W h0 h1 a1 a2 a3 a4
        rw [if_neg (by decide)]
        simp only [C, D]
        rw [chk_t trivial, chk_t trivial, chk_t (by omega), G.1.2.1 i (by omega) (by omega), w32_id (by omega) (by omega), chk_t trivial]
        have farT : f_Paths_farOf h 51 (s + sf t i) = some ((0, bF (SB t z) (s + sf t i)), h) := PR_far A hk P hto.1 hto.2.1
        rw [farT, bndT_ok (by decide)]
        simp only [C]
        rw [chk_t trivial, farS, bndT_ok (by decide), w32_id (by omega) (by omega)]
        by_cases g3 : bF (SB t z) (s + sf t i) = bF (SB t z) s - 1
        · left
          rw [if_pos g3]
          unfold lnx
          rw [if_pos (by omega), f1_at (by omega) (by omega) (by rw [hg, decide_eq_true g3]; rfl) (hx (by omega))]
        · right
          rw [if_neg g3, j51]
          exact ⟨_, next (by rw [decide_eq_false g3, Bool.and_false]), rfl⟩
  · obtain ⟨rfl, hx⟩ := hx
    show f_Paths_lineFrom_L2 51 41 s (n + 1) h _ = _
    rw [f_Paths_lineFrom_L2]
    simp only [C, D]
    rw [chk_t trivial, G.1.1.2.1, if_pos (by omega)]
    unfold lnx
    by_cases g : 0 < bF (SB t z) s
    · rw [if_pos g, f1_none (hx g)]
    · rw [if_neg g]
theorem s_Paths_lineOf (A : At h c p L M) {t : tT} (W : WS t) (hS2 : nS t ≤ 20000) (G : GP M M L t) {z : Int} (P : PR M L 51 52 53 t z true) (hz0 : 0 ≤ z) (hz1 : z < nS t) {s : Int} (h0 : 0 ≤ s) (h1 : s < nS t) (k : Int) : f_Paths_lineOf h 51 41 s k = some ((0, lof t (SB t z) s k), h) := by
  have hk : PK 51 52 53 := by unfold PK; decide
  have C := A.p51
  have D := A.gr
  have hn := nN_eq W
  have B : BI (nB t) (nK t) (nN t) z (SB t z) := BI_bfs (NX_B W false X0 (wS t)) hz0 (by omega)
  have hfl := B.fle s
  have farS : f_Paths_farOf h 51 s = some ((0, bF (SB t z) s), h) := PR_far A hk P h0 h1
  unfold f_Paths_lineOf lof f_Paths_lineOf_J22
  simp only [C]
  rw [chk_t trivial, farS, bndT_ok (by decide)]
  by_cases g1 : k = -1
  · rw [if_pos g1, if_pos g1, if_pos g1]
  · rw [if_neg g1, if_neg g1, if_neg g1]
    by_cases g2 : k < 0
    · rw [if_pos g2, if_pos (Or.inl g2)]
    · rw [if_neg g2]
      by_cases g3 : k < bF (SB t z) s
      · rw [if_pos g3, if_neg (by omega)]
        refine loop_r (F := fun n (b : Int × Int) => f_Paths_lineOf_L40 (fun h3 x4 => chk (hpT h3 51 = 8) (bndT 0 (f_Paths_lineFrom h3 51 41 x4) (fun x6 h5 => some ((0, x6), h5)))) 51 41 k n h b.1 b.2) (P := fun o => o = some ((0, lnx t (SB t z) (wlk t (SB t z) s k.toNat)), h)) (fun i x => x = (wlk t (SB t z) s i, (i : Int))) k.toNat (fun i hi x hx n => ?_) (fun x hx n => ?_) (i := 0) (b := (s, 0)) rfl (by omega) (by omega)
        · subst hx
          right
          refine ⟨_, rfl, ?_⟩
          have hw := wlk_spec W hz0 hz1 h0 h1 (i := i) (by omega)
          have hl := lnx_spec W hz0 hz1 hw.1.1 hw.1.2 (by omega)
          show f_Paths_lineOf_L40 _ 51 41 k (n + 1) h (wlk t (SB t z) s i) i = f_Paths_lineOf_L40 _ 51 41 k n h (wlk t (SB t z) s (i + 1)) ((i + 1 : Nat) : Int)
          rw [f_Paths_lineOf_L40, if_neg (by omega)]
          simp only [C]
          rw [chk_t trivial, s_Paths_lineFrom A W hS2 G P hz0 hz1 hw.1.1 hw.1.2, bndT_ok (by decide)]
          simp only [D]
          rw [chk_t trivial, s_Graph_behind A W G.1 (by omega), bndT_ok (by decide), if_pos hl.1, wtv, w32_n i (by omega)]
          rfl
        · subst hx
          have hw := wlk_spec W hz0 hz1 h0 h1 (i := k.toNat) (by omega)
          show f_Paths_lineOf_L40 _ 51 41 k (n + 1) h (wlk t (SB t z) s k.toNat) (k.toNat : Int) = _
          rw [f_Paths_lineOf_L40, if_pos (by omega)]
          simp only [C]
          rw [chk_t trivial, s_Paths_lineFrom A W hS2 G P hz0 hz1 hw.1.1 hw.1.2, bndT_ok (by decide)]
      · rw [if_neg g3, if_pos (Or.inr (by omega))]
end
