/-! what can't be opened any more; one-way steps; stands that all shortest verses pass -/
def Qd (t : tT) (s : Int) : Bool := decide (bF (SF t (st t (pa t))) s ≠ -1) && decide (bF (SB t (st t (po t))) s = -1)
def vx (v : Int) : Int := if v % 2 = 0 then v + 1 else v - 1
theorem qxor1 {v : Int} (h0 : 0 ≤ v) (h1 : v < 32) : qxor v 1 = vx v := by
  obtain ⟨n, rfl⟩ := Int.eq_ofNat_of_zero_le h0
  have H : ∀ j : Fin 32, qxor (j.val : Int) 1 = vx (j.val : Int) := by decide +kernel
  exact H ⟨n, by omega⟩
def ow (t : tT) (s : Int) : Int := cnN (fun v => gs t s v && !gs t (s + sf t v) (vx v)) (nK t)
theorem ow_rng (t : tT) (s : Int) : 0 ≤ ow t s ∧ ow t s ≤ nK t := cnN_rng _ _
def dueO (t : tT) : Int := bF (SF t (st t (pa t))) (st t (po t))
def Qm (t : tT) (d s : Int) : Bool := decide (bF (SF t (st t (pa t))) s = d) && decide (bF (SB t (st t (po t))) s = dueO t - d)
def cm (t : tT) (d : Int) : Int := cnN (Qm t d) (nN t)
def fo (t : tT) (d : Int) : Int := cnN (fun e => decide (cm t e = 1)) d.toNat
def muK (t : tT) (k : Int) : Int := if f1 (fun d => decide (cm t d = 1) && decide (fo t d = k)) (dueO t + 1).toNat = -1 then -1 else f1 (Qm t (f1 (fun d => decide (cm t d = 1) && decide (fo t d = k)) (dueO t + 1).toNat)) (nN t)
def muV (t : tT) (w : Int) : Int := if w = 0 then fo t (dueO t + 1) else muK t (w - 10)
theorem cnN_two {P : Int → Bool} {x y : Int} : ∀ {n : Nat}, 0 ≤ x → x < y → y < n → P x = true → P y = true → 2 ≤ cnN P n
  | 0, _, _, h, _, _ => absurd h (by omega)
  | n + 1, h0, h1, h2, h3, h4 => by
    show 2 ≤ cnN P n + _
    by_cases e : y = n
    · subst e
      rw [h4, if_pos rfl]
      have : 1 ≤ cnN P n := by
        have H : ∀ m : Nat, x < m → 1 ≤ cnN P m := by
          intro m
          induction m with
          | zero => intro h; omega
          | succ m ih =>
            intro h
            show 1 ≤ cnN P m + _
            have := cnN_rng P m
            by_cases e2 : x = m
            · rw [← e2, h3, if_pos rfl]; omega
            · have := ih (by omega); split <;> omega
        exact H n h1
      omega
    · have := cnN_two h0 h1 (show y < n by omega) h3 h4
      split <;> omega
theorem cnN_uniq {P : Int → Bool} {n : Nat} {x : Int} (h : cnN P n = 1) (h0 : 0 ≤ x) (h1 : x < n) (hx : P x = true) : f1 P n = x := by
  refine f1_at h0 h1 hx (fun j g0 g1 => ?_)
  rw [Bool.eq_false_iff]
  intro g
  have := cnN_two g0 g1 h1 g hx
  omega
theorem cnN_zero {P : Int → Bool} {n : Nat} {x : Int} (h : cnN P n = 0) (h0 : 0 ≤ x) (h1 : x < n) : P x = false := by
  rw [Bool.eq_false_iff]
  intro g
  have := cnN_one (P := fun i => if i = x then false else P i) (P' := P) (s := x) (by rw [if_pos rfl]) h0 h1 (fun i _ _ e => by rw [if_neg e])
  rw [h, if_pos g] at this
  have := cnN_rng (fun i => if i = x then false else P i) n
  omega
section
variable {h : mH} {c : Int} {p L : Int → Int} {M : aM} {E : Int → tT}
theorem SF_B {t : tT} (W : WS t) {z : Int} (hz0 : 0 ≤ z) (hz1 : z < nS t) : BI (nF t) (nK t) (nN t) z (SF t z) := BI_bfs (NX_F W false X0 (wS t)) hz0 (by have := nN_eq W; omega)
theorem SB_B {t : tT} (W : WS t) {z : Int} (hz0 : 0 ≤ z) (hz1 : z < nS t) : BI (nB t) (nK t) (nN t) z (SB t z) := BI_bfs (NX_B W false X0 (wS t)) hz0 (by have := nN_eq W; omega)
theorem SF_Q {t : tT} (W : WS t) {z : Int} (hz0 : 0 ≤ z) (hz1 : z < nS t) (Q : Int → Bool) : cnN (fun i => Q (bO (SF t z) i)) (bM (SF t z)).toNat = cnN (fun s => decide (bF (SF t z) s ≠ -1) && Q s) (nN t) := CQ_bfs (NX_F W false X0 (wS t)) hz0 (by have := nN_eq W; omega) Q
theorem c_dead (A : At h c p L M) {t : tT} (K : KS E M L t) (w : Int) : CR c M E t (f_Nb_dead h 1 w) (if nS t ≤ 20000 then (if w = 0 then (0, cnN (Qd t) (nN t)) else if w = 1 then (0, f1 (Qd t) (nN t)) else (4, xA)) else (4, xS)) := by
  have C := A.nb
  have hk : PK 48 49 50 := by unfold PK; decide
  have hk2 : PK 51 52 53 := by unfold PK; decide
  have hn := nN_eq K.W
  have B := SF_B K.W K.now.1 K.now.2
  unfold f_Nb_dead
  simp only [C]
  rw [chk_t trivial]
  refine CR_graph A K (fun h1 p1 L1 M1 A1 K1 G1 F1 hS2 => ?_)
  have C1 := A1.nb
  have j24 : w = 0 ∨ w = 1 → CR c M1 E t (f_Nb_dead_J24 1 w h1) (if w = 0 then (0, cnN (Qd t) (nN t)) else if w = 1 then (0, f1 (Qd t) (nN t)) else (4, xA)) := fun hw => by
    unfold f_Nb_dead_J24
    simp only [C1]
    rw [chk_t trivial]
    refine CR_now A1 K1 hS2 (fun h2 p2 L2 M2 A2 K2 G2 P2 => ?_)
    have C2 := A2.nb
    simp only [C2]
    rw [chk_t trivial]
    refine CR_open A2 K2 hS2 G2 (fun h3 p3 L3 M3 A3 K3 G3 P3 hP => ?_)
    have P2 := hP _ P2
    have C3 := A3.p48
    have D3 := A3.p51
    have Q3 : PI M3 49 50 (M3 48 4) (nS t) (SF t (st t (pa t))) := P2.2.2
    have hL := P2.1
    have hL2 := P2.2.1
    have hle := B.le
    refine loop_r (F := fun n (b : Int × Int × Int) => f_Nb_dead_L43 (fun h5 x6 x7 => (if w = (0 : Int) then some ((0, x6), h5) else some ((0, x7), h5))) 48 51 n h3 b.1 b.2.1 b.2.2) (P := fun o => CR c M3 E t o (if w = 0 then (0, cnN (Qd t) (nN t)) else if w = 1 then (0, f1 (Qd t) (nN t)) else (4, xA)))
      (fun i x => x.2.2 = (i : Int) ∧ x.1 = cnN (fun j => Qd t (bO (SF t (st t (pa t))) j)) i ∧ ((x.2.1 = -1 ∧ ∀ j : Int, 0 ≤ j → j < i → Qd t (bO (SF t (st t (pa t))) j) = false) ∨ ((0 ≤ x.2.1 ∧ x.2.1 < nS t) ∧ Qd t x.2.1 = true ∧ ∀ j : Int, 0 ≤ j → j < i → Qd t (bO (SF t (st t (pa t))) j) = true → x.2.1 ≤ bO (SF t (st t (pa t))) j))) (bM (SF t (st t (pa t)))).toNat (fun i hi x hx n => ?_) (fun x hx n => ?_) (i := 0) (b := (0, -1, 0)) ⟨rfl, rfl, Or.inl ⟨rfl, fun j g0 g1 => by omega⟩⟩ (by omega) (by omega)
    · obtain ⟨v4, v5, r⟩ := x
      obtain ⟨hr, e4, e5⟩ := hx
      have hr : r = (i : Int) := hr
      have e4 : v4 = cnN (fun j => Qd t (bO (SF t (st t (pa t))) j)) i := e4
      subst hr
      subst e4
      right
      have hu := B.2.1 i (by omega) (by omega)
      rw [hn] at hu
      have far : f_Paths_farOf h3 51 (bO (SF t (st t (pa t))) i) = some ((0, bF (SB t (st t (po t))) (bO (SF t (st t (pa t))) i)), h3) := PR_far A3 hk2 P3 hu.1.1 hu.1.2
      have hcr := cnN_rng (fun j => Qd t (bO (SF t (st t (pa t))) j)) i
      have hq : Qd t (bO (SF t (st t (pa t))) i) = decide (bF (SB t (st t (po t))) (bO (SF t (st t (pa t))) i) = -1) := by
        unfold Qd; rw [decide_eq_true (show bF (SF t (st t (pa t))) (bO (SF t (st t (pa t))) i) ≠ -1 by omega), Bool.true_and]
      have j96 : ∀ a b, f_Nb_dead_J96 (f_Nb_dead_L43 (fun h5 x6 x7 => (if w = (0 : Int) then some ((0, x6), h5) else some ((0, x7), h5))) 48 51 n) a b i h3 = f_Nb_dead_L43 (fun h5 x6 x7 => (if w = (0 : Int) then some ((0, x6), h5) else some ((0, x7), h5))) 48 51 n h3 a b ((i + 1 : Nat) : Int) := fun a b => by
        unfold f_Nb_dead_J96; rw [wtv, w32_n i (by omega)]
      show ∃ b' : Int × Int × Int, _ ∧ f_Nb_dead_L43 _ 48 51 (n + 1) h3 _ v5 i = _
      rw [f_Nb_dead_L43]
      simp only [C3, D3]
      rw [chk_t trivial, Q3.2.2, if_neg (by omega), chk_t trivial, chk_t trivial, chk_t (by omega), wtv, Q3.2.1 i (by omega) (by omega), chk_t trivial, far, bndT_ok (by decide)]
      by_cases g : bF (SB t (st t (po t))) (bO (SF t (st t (pa t))) i) = -1
      · rw [decide_eq_true g] at hq
        have ec : cnN (fun j => Qd t (bO (SF t (st t (pa t))) j)) (i + 1) = cnN (fun j => Qd t (bO (SF t (st t (pa t))) j)) i + 1 := by
          show _ + _ = _; dsimp only; rw [if_pos hq]
        rw [if_pos g, wtv, w32_id (by omega) (by omega), ← ec]
        unfold f_Nb_dead_J87 f_Nb_dead_J94
        rw [j96, j96]
        have take : (∀ j : Int, 0 ≤ j → j < i → Qd t (bO (SF t (st t (pa t))) j) = true → bO (SF t (st t (pa t))) i ≤ bO (SF t (st t (pa t))) j) → ∃ b' : Int × Int × Int, (b'.2.2 = ((i + 1 : Nat) : Int) ∧ b'.1 = cnN (fun j => Qd t (bO (SF t (st t (pa t))) j)) (i + 1) ∧ ((b'.2.1 = -1 ∧ ∀ j : Int, 0 ≤ j → j < ((i + 1 : Nat) : Int) → Qd t (bO (SF t (st t (pa t))) j) = false) ∨ ((0 ≤ b'.2.1 ∧ b'.2.1 < nS t) ∧ Qd t b'.2.1 = true ∧ ∀ j : Int, 0 ≤ j → j < ((i + 1 : Nat) : Int) → Qd t (bO (SF t (st t (pa t))) j) = true → b'.2.1 ≤ bO (SF t (st t (pa t))) j))) ∧ f_Nb_dead_L43 (fun h5 x6 x7 => (if w = (0 : Int) then some ((0, x6), h5) else some ((0, x7), h5))) 48 51 n h3 (cnN (fun j => Qd t (bO (SF t (st t (pa t))) j)) (i + 1)) (bO (SF t (st t (pa t))) i) ((i + 1 : Nat) : Int) = f_Nb_dead_L43 (fun h5 x6 x7 => (if w = (0 : Int) then some ((0, x6), h5) else some ((0, x7), h5))) 48 51 n h3 b'.1 b'.2.1 b'.2.2 := fun hj =>
          ⟨(_, bO (SF t (st t (pa t))) i, ((i + 1 : Nat) : Int)), ⟨rfl, rfl, Or.inr ⟨hu.1, hq, fun j g0 g1 g2 => by
            by_cases e : j = i
            · rw [e]; exact Int.le_refl _
            · exact hj j g0 (by omega) g2⟩⟩, rfl⟩
        rcases e5 with ⟨e5, e6⟩ | ⟨e5, e6, e7⟩
        · have e5 : v5 = -1 := e5
          rw [if_pos e5]
          exact take (fun j g0 g1 g2 => by rw [e6 j g0 g1] at g2; cases g2)
        · have e5 : 0 ≤ v5 ∧ v5 < nS t := e5
          have e7 : ∀ j : Int, 0 ≤ j → j < i → Qd t (bO (SF t (st t (pa t))) j) = true → v5 ≤ bO (SF t (st t (pa t))) j := e7
          rw [if_neg (by omega)]
          by_cases g2 : v5 ≤ bO (SF t (st t (pa t))) i
          · rw [if_pos g2]
            exact ⟨(_, v5, ((i + 1 : Nat) : Int)), ⟨rfl, rfl, Or.inr ⟨e5, e6, fun j g0 g1 g3 => by
              by_cases e : j = i
              · rw [e]; exact g2
              · exact e7 j g0 (by omega) g3⟩⟩, rfl⟩
          · rw [if_neg g2]
            exact take (fun j g0 g1 g3 => by have := e7 j g0 g1 g3; omega)
      · rw [decide_eq_false g] at hq
        have ec : cnN (fun j => Qd t (bO (SF t (st t (pa t))) j)) (i + 1) = cnN (fun j => Qd t (bO (SF t (st t (pa t))) j)) i := by
          show _ + _ = _; dsimp only; rw [if_neg (by rw [hq]; decide), Int.add_zero]
        rw [if_neg g, j96]
        refine ⟨(_, v5, ((i + 1 : Nat) : Int)), ⟨rfl, ec.symm, ?_⟩, rfl⟩
        rcases e5 with ⟨e5, e6⟩ | ⟨e5, e6, e7⟩
        · exact Or.inl ⟨e5, fun j g0 g1 => by
            by_cases e : j = i
            · rw [e]; exact hq
            · exact e6 j g0 (by omega)⟩
        · exact Or.inr ⟨e5, e6, fun j g0 g1 g3 => by
            by_cases e : j = i
            · rw [e, hq] at g3; cases g3
            · exact e7 j g0 (by omega) g3⟩
    · obtain ⟨v4, v5, r⟩ := x
      obtain ⟨hr, e4, e5⟩ := hx
      have hr : r = ((bM (SF t (st t (pa t)))).toNat : Int) := hr
      have e4' : v4 = cnN (fun j => Qd t (bO (SF t (st t (pa t))) j)) (bM (SF t (st t (pa t)))).toNat := e4
      subst hr
      have hB := B.1.2
      show CR c M3 E t (f_Nb_dead_L43 _ 48 51 (n + 1) h3 v4 v5 _) _
      rw [f_Nb_dead_L43]
      simp only [C3]
      rw [chk_t trivial, Q3.2.2, if_pos (by omega)]
      have ev4 : v4 = cnN (Qd t) (nN t) := by
        rw [e4', SF_Q K.W K.now.1 K.now.2]
        refine cnN_congr (fun s g0 g1 => ?_)
        unfold Qd
        cases decide (bF (SF t (st t (pa t))) s ≠ -1) <;> rfl
      have ev5 : v5 = f1 (Qd t) (nN t) := by
        have all : ∀ s : Int, 0 ≤ s → s < nN t → Qd t s = true → ∃ j, 0 ≤ j ∧ j < bM (SF t (st t (pa t))) ∧ bO (SF t (st t (pa t))) j = s := fun s g0 g1 g2 => by
          rcases B.2.2.2.1 s with g3 | ⟨-, -, j, g5, g6, g7⟩
          · unfold Qd at g2; rw [decide_eq_false (by simp [g3])] at g2; cases g2
          · exact ⟨j, g5, g6, g7⟩
        rcases e5 with ⟨e5, e6⟩ | ⟨e5, e6, e7⟩
        · have e5 : v5 = -1 := e5
          rw [e5]
          refine (f1_none (fun s g0 g1 => ?_)).symm
          rw [Bool.eq_false_iff]
          intro g2
          obtain ⟨j, g5, g6, g7⟩ := all s g0 g1 g2
          have := e6 j g5 (by omega)
          rw [g7, g2] at this; cases this
        · have e5 : 0 ≤ v5 ∧ v5 < nS t := e5
          refine (f1_at e5.1 (by omega) e6 (fun s g0 g1 => ?_)).symm
          rw [Bool.eq_false_iff]
          intro g2
          obtain ⟨j, g5, g6, g7⟩ := all s g0 (by omega) g2
          have e7 : ∀ j : Int, 0 ≤ j → j < ((bM (SF t (st t (pa t)))).toNat : Int) → Qd t (bO (SF t (st t (pa t))) j) = true → v5 ≤ bO (SF t (st t (pa t))) j := e7
          have := e7 j g5 (by omega) (by rw [g7]; exact g2)
          omega
      rw [ev4, ev5]
      rcases hw with rfl | rfl
      · rw [if_pos rfl, if_pos rfl]; exact CR_ok A3 K3
      · rw [if_neg (by decide), if_neg (by decide), if_pos rfl]; exact CR_ok A3 K3
  by_cases w0 : w = 0
  · rw [if_pos w0]; exact j24 (Or.inl w0)
  · rw [if_neg w0]
    by_cases w1 : w = 1
    · rw [if_pos w1]; exact j24 (Or.inr w1)
    · rw [if_neg w1, if_neg w0, if_neg w1]; exact CR_ex A1 K1
theorem s_Graph_oneWaysFrom (A : At h c p L M) {t : tT} (W : WS t) (hS2 : nS t ≤ 20000) (G : GP M M L t) {s : Int} (h0 : 0 ≤ s) (h1 : s < nS t) : f_Graph_oneWaysFrom h 41 s = some ((0, ow t s), h) := by
  have C := A.gr
  have hkk := nK_rng W
  unfold f_Graph_oneWaysFrom
  refine loop_r (F := fun n (b : Int × Int) => f_Graph_oneWaysFrom_L4 41 s n h b.1 b.2) (P := fun o => o = _) (fun i x => x = (cnN (fun v => gs t s v && !gs t (s + sf t v) (vx v)) i, (i : Int))) (nK t) (fun i hi x hx n => ?_) (fun x hx n => ?_) (i := 0) (b := (0, 0)) rfl (by omega) (by omega)
  · subst hx
    right
    refine ⟨_, rfl, ?_⟩
    have hcr := cnN_rng (fun v => gs t s v && !gs t (s + sf t v) (vx v)) i
    show f_Graph_oneWaysFrom_L4 41 s (n + 1) h (cnN (fun v => gs t s v && !gs t (s + sf t v) (vx v)) i) i = f_Graph_oneWaysFrom_L4 41 s n h (cnN (fun v => gs t s v && !gs t (s + sf t v) (vx v)) i + (if (gs t s i && !gs t (s + sf t i) (vx i)) = true then 1 else 0)) ((i + 1 : Nat) : Int)
    rw [f_Graph_oneWaysFrom_L4]
    simp only [C]
    have j42 : ∀ a, f_Graph_oneWaysFrom_J42 (f_Graph_oneWaysFrom_L4 41 s n) a i h = f_Graph_oneWaysFrom_L4 41 s n h a ((i + 1 : Nat) : Int) := fun a => by
      unfold f_Graph_oneWaysFrom_J42; rw [wtv, w32_n i (by omega)]
    rw [chk_t trivial, G.1.1.2.1, if_neg (by omega), chk_t trivial, s_Graph_goesFrom A W G.1 G.2.1, bndT_ok (by decide), decide_eq_true h0, decide_eq_true h1, decide_eq_true (show (0 : Int) ≤ i by omega), decide_eq_true (show (i : Int) < 2 * nb t by omega), gm_gs W (by omega) (by omega), Bool.true_and, Bool.true_and, Bool.true_and]
    cases hg : gs t s i
    · rw [if_pos (by rfl), j42]; simp
    · obtain ⟨a1, a2, a3, a4⟩ := go_rng hg
      have hto := go_to W h0 h1 a1 a2 a3 a4
      have hvx : 0 ≤ vx i ∧ vx i < 2 * nb t := by unfold vx; split <;> omega
      rw [if_neg (by decide)]
      simp only [C]
      rw [chk_t trivial, chk_t trivial, chk_t (by omega), G.1.2.1 i (by omega) (by omega), w32_id (by omega) (by omega), qxor1 (by omega) (by omega), chk_t trivial, s_Graph_goesFrom A W G.1 G.2.1, bndT_ok (by decide), decide_eq_true hto.1, decide_eq_true hto.2.1, decide_eq_true hvx.1, decide_eq_true hvx.2, gm_gs W hvx.1 hvx.2, Bool.true_and, Bool.true_and, Bool.true_and]
      cases hg2 : gs t (s + sf t i) (vx i)
      · rw [if_pos (by rfl), wtv, w32_id (by omega) (by omega), j42]; rfl
      · rw [if_neg (by decide), j42]; simp
  · subst hx
    show f_Graph_oneWaysFrom_L4 41 s (n + 1) h _ _ = _
    rw [f_Graph_oneWaysFrom_L4]
    simp only [C]
    rw [chk_t trivial, G.1.1.2.1, if_pos (by omega)]
    rfl
theorem c_oneWays (A : At h c p L M) {t : tT} (K : KS E M L t) : CR c M E t (f_Nb_oneWays h 1) (if nS t ≤ 20000 then (0, smN (fun i => ow t (bO (SF t (st t (pa t))) i)) (bM (SF t (st t (pa t)))).toNat) else (4, xS)) := by
  have C := A.nb
  have hn := nN_eq K.W
  have hkk := nK_rng K.W
  have B := SF_B K.W K.now.1 K.now.2
  unfold f_Nb_oneWays
  simp only [C]
  rw [chk_t trivial]
  refine CR_graph A K (fun h1 p1 L1 M1 A1 K1 G1 F1 hS2 => ?_)
  have C1 := A1.nb
  simp only [C1]
  rw [chk_t trivial]
  refine CR_now A1 K1 hS2 (fun h2 p2 L2 M2 A2 K2 G2 P2 => ?_)
  have C2 := A2.nb
  have D2 := A2.p48
  have E2 := A2.gr
  have Q2 : PI M2 49 50 (M2 48 4) (nS t) (SF t (st t (pa t))) := P2.2.2
  have hL := P2.1
  have hL2 := P2.2.1
  have hle := B.le
  refine loop_r (F := fun n (b : Int × Int) => f_Nb_oneWays_L13 1 48 n h2 b.1 b.2) (P := fun o => CR c M2 E t o (0, smN (fun i => ow t (bO (SF t (st t (pa t))) i)) (bM (SF t (st t (pa t)))).toNat)) (fun i x => x = (smN (fun i => ow t (bO (SF t (st t (pa t))) i)) i, (i : Int))) (bM (SF t (st t (pa t)))).toNat (fun i hi x hx n => ?_) (fun x hx n => ?_) (i := 0) (b := (0, 0)) rfl (by omega) (by omega)
  · subst hx
    right
    refine ⟨_, rfl, ?_⟩
    have hu := B.2.1 i (by omega) (by omega)
    rw [hn] at hu
    have hsm := smN_rng (f := fun i => ow t (bO (SF t (st t (pa t))) i)) (m := 18) (n := i) (fun j _ _ => by have := ow_rng t (bO (SF t (st t (pa t))) j); omega)
    have how := ow_rng t (bO (SF t (st t (pa t))) i)
    show f_Nb_oneWays_L13 1 48 (n + 1) h2 (smN (fun i => ow t (bO (SF t (st t (pa t))) i)) i) i = f_Nb_oneWays_L13 1 48 n h2 (smN (fun i => ow t (bO (SF t (st t (pa t))) i)) i + ow t (bO (SF t (st t (pa t))) i)) ((i + 1 : Nat) : Int)
    rw [f_Nb_oneWays_L13]
    simp only [C2, D2, E2]
    rw [chk_t trivial, Q2.2.2, if_neg (by omega), chk_t trivial, chk_t trivial, chk_t trivial, chk_t (by omega), chk_t trivial, Q2.2.1 i (by omega) (by omega), s_Graph_oneWaysFrom A2 K.W hS2 G2 hu.1.1 hu.1.2, bndT_ok (by decide), wtv, wtv, w32_n i (by omega), w32_id (by omega) (by omega)]
  · subst hx
    show CR c M2 E t (f_Nb_oneWays_L13 1 48 (n + 1) h2 _ _) _
    have hB := B.1.2
    rw [f_Nb_oneWays_L13]
    simp only [D2]
    rw [chk_t trivial, Q2.2.2, if_pos (by omega)]
    exact CR_ok A2 K2
end
