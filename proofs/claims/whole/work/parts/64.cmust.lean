section
variable {h : mH} {c : Int} {p L : Int → Int} {M : aM} {E : Int → tT}
theorem dueO_rng {t : tT} (W : WS t) (D : RW t (pa t)) : -1 ≤ dueO t ∧ dueO t < nS t := by
  have hn := nN_eq W
  have st0 := st_rng W D
  have := (SF_B W st0.1 st0.2).fle (st t (po t))
  unfold dueO; omega
theorem Qm_ord {t : tT} {d s : Int} (h : Qm t d s = true) : bF (SF t (st t (pa t))) s = d := by
  unfold Qm at h; rw [Bool.and_eq_true, decide_eq_true_eq] at h; exact h.1
theorem cm_ord {t : tT} (W : WS t) (D : RW t (pa t)) {d : Int} (hd : 0 ≤ d) : cnN (fun i => Qm t d (bO (SF t (st t (pa t))) i)) (bM (SF t (st t (pa t)))).toNat = cm t d := by
  have st0 := st_rng W D
  rw [SF_Q W st0.1 st0.2]
  unfold cm
  refine cnN_congr (fun s g0 g1 => ?_)
  cases hq : Qm t d s
  · rw [Bool.and_false]
  · have := Qm_ord hq
    rw [decide_eq_true (by omega)]; rfl
theorem fo_succ {t : tT} {d : Int} (hd : 0 ≤ d) : fo t (d + 1) = fo t d + (if cm t d = 1 then 1 else 0) := by
  unfold fo
  rw [show (d + 1).toNat = d.toNat + 1 by omega]
  show cnN _ _ + _ = _
  dsimp only
  rw [show ((d.toNat : Nat) : Int) = d by omega]
  by_cases e : cm t d = 1
  · rw [if_pos (decide_eq_true e), if_pos e]
  · rw [if_neg (by rw [decide_eq_false e]; decide), if_neg e]
theorem fo_rng (t : tT) (d : Int) : 0 ≤ fo t d ∧ fo t d ≤ d.toNat := cnN_rng _ _
/-- the k-th of them, or how many for -1 -/
def muF (t : tT) (k : Int) : Int := if k = -1 then fo t (dueO t + 1) else muK t k
theorem s_mustStands (A : At h c p L M) {t : tT} (K : KS E M L t) (hS2 : nS t ≤ 20000) (G : GP M M L t) (P : PR M L 48 49 50 t (st t (pa t)) false) (P2 : PR M L 51 52 53 t (st t (po t)) true) {k : Int} (hk : -1 ≤ k) : f_Nb_mustStands h 1 48 51 k = some ((0, muF t k), h) := by
  have C := A.nb
  have D := A.gr
  have C1 := A.p48
  have C2 := A.p51
  have hk1 : PK 48 49 50 := by unfold PK; decide
  have hk2 : PK 51 52 53 := by unfold PK; decide
  have hn := nN_eq K.W
  have B := SF_B K.W K.now.1 K.now.2
  have hdu := dueO_rng K.W K.D
  have hle := B.le
  have hL := P.1
  have hL2 := P.2.1
  have Q : PI M 49 50 (M 48 4) (nS t) (SF t (st t (pa t))) := P.2.2
  have farO : f_Paths_farOf h 48 (st t (po t)) = some ((0, dueO t), h) := PR_far A hk1 P K.opn.1 K.opn.2
  unfold f_Nb_mustStands
  simp only [C, D, C1]
  rw [chk_t trivial, chk_t trivial, chk_t trivial, G.1.1.2.2, farO, bndT_ok (by decide)]
  refine loop_r (F := fun n (b : Int × Int × Int) => f_Nb_mustStands_L22 (fun h3 x4 => (if k = (-1) then some ((0, x4), h3) else some ((0, (-1)), h3))) 48 51 k (dueO t) n h b.1 b.2.1 b.2.2) (P := fun o => o = some ((0, muF t k), h))
    (fun d x => x.2.2 = (d : Int) ∧ x.1 = fo t d ∧ (∀ e : Int, 0 ≤ e → e < d → ¬ (cm t e = 1 ∧ fo t e = k)) ∧ (0 ≤ x.2.1 ∧ x.2.1 ≤ bM (SF t (st t (pa t)))) ∧ (∀ j : Int, 0 ≤ j → j < x.2.1 → bF (SF t (st t (pa t))) (bO (SF t (st t (pa t))) j) < d) ∧ ∀ j : Int, x.2.1 ≤ j → j < bM (SF t (st t (pa t))) → d ≤ bF (SF t (st t (pa t))) (bO (SF t (st t (pa t))) j)) (dueO t + 1).toNat (fun d hd x hx n => ?_) (fun x hx n => ?_) (i := 0) (b := (0, 0, 0)) ⟨rfl, rfl, fun e g0 g1 => by omega, ⟨Int.le_refl 0, by have := B.1.2; show (0 : Int) ≤ bM (SF t (st t (pa t))); omega⟩, fun j g0 g1 => by have g1 : j < 0 := g1; omega, fun j g0 g1 => (B.2.1 j g0 g1).2⟩ (by omega) (by omega)
  · obtain ⟨v5, i0, r⟩ := x
    obtain ⟨hr_, e5_, hno, hi0_, hlo_, hhi_⟩ := hx
    have hr : r = (d : Int) := hr_
    have e5 : v5 = fo t d := e5_
    have hi0 : 0 ≤ i0 ∧ i0 ≤ bM (SF t (st t (pa t))) := hi0_
    have hlo : ∀ j : Int, 0 ≤ j → j < i0 → bF (SF t (st t (pa t))) (bO (SF t (st t (pa t))) j) < d := hlo_
    have hhi : ∀ j : Int, i0 ≤ j → j < bM (SF t (st t (pa t))) → d ≤ bF (SF t (st t (pa t))) (bO (SF t (st t (pa t))) j) := hhi_
    clear hr_ e5_ hi0_ hlo_ hhi_
    subst hr e5
    have hfo := fo_rng t d
    show f_Nb_mustStands_L22 _ 48 51 k (dueO t) (n + 1) h (fo t d) i0 d = _ ∨ ∃ b' : Int × Int × Int, _ ∧ f_Nb_mustStands_L22 _ 48 51 k (dueO t) (n + 1) h (fo t d) i0 d = _
    rw [f_Nb_mustStands_L22, if_neg (by omega)]
    -- the stands at distance d
    have inner : ∃ i1 o, f_Nb_mustStands_L35 (fun h1 x2 x3 x4 => f_Nb_mustStands_J97 (f_Nb_mustStands_L22 (fun h3 x4 => (if k = (-1) then some ((0, x4), h3) else some ((0, (-1)), h3))) 48 51 k (dueO t) n) k (fo t d) x2 d x3 x4 h1) 48 51 (dueO t) d 1000000 h i0 0 (-1) = f_Nb_mustStands_J97 (f_Nb_mustStands_L22 (fun h3 x4 => (if k = (-1) then some ((0, x4), h3) else some ((0, (-1)), h3))) 48 51 k (dueO t) n) k (fo t d) i1 d (cm t d) o h ∧ (i0 ≤ i1 ∧ i1 ≤ bM (SF t (st t (pa t)))) ∧ (∀ j : Int, 0 ≤ j → j < i1 → bF (SF t (st t (pa t))) (bO (SF t (st t (pa t))) j) < d + 1) ∧ (∀ j : Int, i1 ≤ j → j < bM (SF t (st t (pa t))) → d + 1 ≤ bF (SF t (st t (pa t))) (bO (SF t (st t (pa t))) j)) ∧ (cm t d = 1 → o = f1 (Qm t d) (nN t)) := by
      -- what stands when the place i1 is reached, with the counts as they are
      have fin : ∀ (i1 : Int) (o : Int), i0 ≤ i1 → i1 ≤ bM (SF t (st t (pa t))) → (∀ j : Int, i0 ≤ j → j < i1 → bF (SF t (st t (pa t))) (bO (SF t (st t (pa t))) j) = d) → (i1 < bM (SF t (st t (pa t))) → bF (SF t (st t (pa t))) (bO (SF t (st t (pa t))) i1) ≠ d) → (cnN (fun i => Qm t d (bO (SF t (st t (pa t))) i)) i1.toNat = 1 → (0 ≤ o ∧ o < nS t) ∧ Qm t d o = true) → cnN (fun i => Qm t d (bO (SF t (st t (pa t))) i)) i1.toNat = cm t d ∧ (∀ j : Int, 0 ≤ j → j < i1 → bF (SF t (st t (pa t))) (bO (SF t (st t (pa t))) j) < d + 1) ∧ (∀ j : Int, i1 ≤ j → j < bM (SF t (st t (pa t))) → d + 1 ≤ bF (SF t (st t (pa t))) (bO (SF t (st t (pa t))) j)) ∧ (cm t d = 1 → o = f1 (Qm t d) (nN t)) := by
        intro i1 o h1 h2 h3 h4 h5
        have hbe : ∀ j : Int, i1 ≤ j → j < bM (SF t (st t (pa t))) → d + 1 ≤ bF (SF t (st t (pa t))) (bO (SF t (st t (pa t))) j) := fun j g0 g1 => by
          have a := h4 (by omega)
          have b := hhi i1 h1 (by omega)
          have c := B.2.2.2.2.1 i1 j (by omega) g0 g1
          omega
        have hc : cnN (fun i => Qm t d (bO (SF t (st t (pa t))) i)) i1.toNat = cm t d := by
          rw [← cm_ord K.W K.D (show (0 : Int) ≤ d by omega)]
          have H : ∀ m : Nat, i1.toNat ≤ m → (m : Int) ≤ bM (SF t (st t (pa t))) → cnN (fun i => Qm t d (bO (SF t (st t (pa t))) i)) m = cnN (fun i => Qm t d (bO (SF t (st t (pa t))) i)) i1.toNat := by
            intro m
            induction m with
            | zero => intro g0 g1; rw [show i1.toNat = 0 by omega]
            | succ m ih =>
              intro g0 g1
              by_cases e : i1.toNat = m + 1
              · rw [e]
              · show cnN _ m + _ = _
                have hq : Qm t d (bO (SF t (st t (pa t))) m) = false := by
                  rw [Bool.eq_false_iff]; intro q
                  have := Qm_ord q
                  have := hbe m (by omega) (by omega)
                  omega
                rw [ih (by omega) (by omega)]
                dsimp only
                rw [if_neg (by rw [hq]; decide), Int.add_zero]
          exact (H (bM (SF t (st t (pa t)))).toNat (by omega) (by omega)).symm
        refine ⟨hc, fun j g0 g1 => ?_, hbe, fun h6 => ?_⟩
        · by_cases e : j < i0
          · have := hlo j g0 e; omega
          · have := h3 j (by omega) g1; omega
        · obtain ⟨a, b⟩ := h5 (by rw [hc]; exact h6)
          exact (cnN_uniq h6 a.1 (by omega) b).symm
      refine loop_r (F := fun n' (b : Int × Int × Int) => f_Nb_mustStands_L35 _ 48 51 (dueO t) d n' h b.1 b.2.1 b.2.2) (P := fun r => ∃ i1 o, r = f_Nb_mustStands_J97 (f_Nb_mustStands_L22 (fun h3 x4 => (if k = (-1) then some ((0, x4), h3) else some ((0, (-1)), h3))) 48 51 k (dueO t) n) k (fo t d) i1 d (cm t d) o h ∧ (i0 ≤ i1 ∧ i1 ≤ bM (SF t (st t (pa t)))) ∧ (∀ j : Int, 0 ≤ j → j < i1 → bF (SF t (st t (pa t))) (bO (SF t (st t (pa t))) j) < d + 1) ∧ (∀ j : Int, i1 ≤ j → j < bM (SF t (st t (pa t))) → d + 1 ≤ bF (SF t (st t (pa t))) (bO (SF t (st t (pa t))) j)) ∧ (cm t d = 1 → o = f1 (Qm t d) (nN t)))
        (fun i x => x.1 = (i : Int) ∧ i0 ≤ i ∧ (∀ j : Int, i0 ≤ j → j < i → bF (SF t (st t (pa t))) (bO (SF t (st t (pa t))) j) = d) ∧ x.2.1 = cnN (fun i => Qm t d (bO (SF t (st t (pa t))) i)) i ∧ (x.2.1 = 1 → (0 ≤ x.2.2 ∧ x.2.2 < nS t) ∧ Qm t d x.2.2 = true)) (bM (SF t (st t (pa t)))).toNat (fun i hi x hx n' => ?_) (fun x hx n' => ?_) (i := i0.toNat) (b := (i0, 0, -1)) ⟨by show i0 = _; omega, by omega, fun j g0 g1 => by omega, ?_, fun e => by cases e⟩ (by omega) (by omega)
      · obtain ⟨j6, v8, v9⟩ := x
        obtain ⟨hr_, hi2, hd2, e8_, e9_⟩ := hx
        have hr : j6 = (i : Int) := hr_
        have e8 : v8 = cnN (fun i => Qm t d (bO (SF t (st t (pa t))) i)) i := e8_
        have e9 : v8 = 1 → (0 ≤ v9 ∧ v9 < nS t) ∧ Qm t d v9 = true := e9_
        clear hr_ e8_ e9_
        subst hr
        have hu := B.2.1 i (by omega) (by omega)
        rw [hn] at hu
        have fle := B.fle (bO (SF t (st t (pa t))) i)
        have far : f_Paths_farOf h 48 (bO (SF t (st t (pa t))) i) = some ((0, bF (SF t (st t (pa t))) (bO (SF t (st t (pa t))) i)), h) := PR_far A hk1 P hu.1.1 hu.1.2
        have far2 : f_Paths_farOf h 51 (bO (SF t (st t (pa t))) i) = some ((0, bF (SB t (st t (po t))) (bO (SF t (st t (pa t))) i)), h) := PR_far A hk2 P2 hu.1.1 hu.1.2
        have hcr := cnN_rng (fun i => Qm t d (bO (SF t (st t (pa t))) i)) i
        show (∃ i1 o, f_Nb_mustStands_L35 _ 48 51 (dueO t) d (n' + 1) h i v8 v9 = f_Nb_mustStands_J97 _ k (fo t d) i1 d (cm t d) o h ∧ _) ∨ ∃ b' : Int × Int × Int, _ ∧ f_Nb_mustStands_L35 _ 48 51 (dueO t) d (n' + 1) h i v8 v9 = _
        rw [f_Nb_mustStands_L35]
        simp only [C1, C2]
        rw [chk_t trivial, Q.2.2, if_neg (by omega), chk_t trivial, chk_t trivial, chk_t (by omega), chk_t trivial, Q.2.1 i (by omega) (by omega), far, bndT_ok (by decide)]
        by_cases g : bF (SF t (st t (pa t))) (bO (SF t (st t (pa t))) i) = d
        · right
          rw [if_pos g]
          simp only [C1, C2]
          rw [chk_t trivial, chk_t trivial, chk_t (by omega), chk_t trivial, Q.2.1 i (by omega) (by omega), far2, bndT_ok (by decide), w32_id (x := dueO t - d) (by omega) (by omega)]
          have hd3 : ∀ j : Int, i0 ≤ j → j < ((i + 1 : Nat) : Int) → bF (SF t (st t (pa t))) (bO (SF t (st t (pa t))) j) = d := fun j g0 g1 => by
            by_cases e : j = i
            · rw [e]; exact g
            · exact hd2 j g0 (by omega)
          by_cases g2 : bF (SB t (st t (po t))) (bO (SF t (st t (pa t))) i) = dueO t - d
          · have hq : Qm t d (bO (SF t (st t (pa t))) i) = true := by unfold Qm; rw [decide_eq_true g, decide_eq_true g2]; rfl
            rw [if_pos g2, wtv, w32_id (by omega) (by omega)]
            simp only [C1]
            rw [chk_t trivial, chk_t trivial, chk_t (by omega), wtv, Q.2.1 i (by omega) (by omega)]
            unfold f_Nb_mustStands_J91
            rw [wtv, w32_n i (by omega)]
            refine ⟨(((i + 1 : Nat) : Int), v8 + 1, bO (SF t (st t (pa t))) i), ⟨rfl, by omega, hd3, ?_, fun _ => ⟨hu.1, hq⟩⟩, rfl⟩
            show v8 + 1 = cnN _ i + _
            dsimp only
            rw [if_pos hq, e8]
          · have hq : Qm t d (bO (SF t (st t (pa t))) i) = false := by unfold Qm; rw [decide_eq_false g2, Bool.and_false]
            rw [if_neg g2]
            unfold f_Nb_mustStands_J91
            rw [wtv, w32_n i (by omega)]
            refine ⟨(((i + 1 : Nat) : Int), v8, v9), ⟨rfl, by omega, hd3, ?_, e9⟩, rfl⟩
            show v8 = cnN _ i + _
            dsimp only
            rw [if_neg (by rw [hq]; decide), Int.add_zero, e8]
        · left
          rw [if_neg g]
          obtain ⟨a1, a2, a3, a4⟩ := fin i v9 hi2 (by omega) hd2 (fun _ => g) (by rw [Int.toNat_natCast, ← e8]; exact e9)
          rw [Int.toNat_natCast, ← e8] at a1
          exact ⟨i, v9, by rw [a1], ⟨hi2, by omega⟩, a2, a3, a4⟩
      · obtain ⟨j6, v8, v9⟩ := x
        obtain ⟨hr, hi2, hd2, e8, e9⟩ := hx
        have hr : j6 = ((bM (SF t (st t (pa t)))).toNat : Int) := hr
        have e8' : v8 = cnN (fun i => Qm t d (bO (SF t (st t (pa t))) i)) (bM (SF t (st t (pa t)))).toNat := e8
        have e9' : v8 = 1 → (0 ≤ v9 ∧ v9 < nS t) ∧ Qm t d v9 = true := e9
        show ∃ i1 o, f_Nb_mustStands_L35 _ 48 51 (dueO t) d (n' + 1) h j6 v8 v9 = f_Nb_mustStands_J97 _ k (fo t d) i1 d (cm t d) o h ∧ _
        obtain ⟨a1, a2, a3, a4⟩ := fin ((bM (SF t (st t (pa t)))).toNat : Int) v9 hi2 (by omega) hd2 (fun g => by omega) (by rw [Int.toNat_natCast, ← e8']; exact e9')
        rw [Int.toNat_natCast, ← e8'] at a1
        rw [f_Nb_mustStands_L35]
        simp only [C1]
        rw [chk_t trivial, Q.2.2, if_pos (by omega), hr]
        exact ⟨_, v9, by rw [a1], ⟨hi2, by omega⟩, a2, a3, a4⟩
      · show (0 : Int) = _
        refine (cnN_false (fun j g0 g1 => ?_)).symm
        rw [Bool.eq_false_iff]; intro q
        have := Qm_ord q
        have := hlo j g0 (by omega)
        omega
    obtain ⟨i1, o, fI, hi1, a2, a3, a4⟩ := inner
    rw [fI]
    unfold f_Nb_mustStands_J97 f_Nb_mustStands_J115
    have e1 : fo t ((d + 1 : Nat) : Int) = fo t d + (if cm t d = 1 then 1 else 0) := by
      rw [show ((d + 1 : Nat) : Int) = (d : Int) + 1 by omega]; exact fo_succ (by omega)
    have nxt : ¬ (cm t d = 1 ∧ fo t d = k) → ∀ e : Int, 0 ≤ e → e < ((d + 1 : Nat) : Int) → ¬ (cm t e = 1 ∧ fo t e = k) := fun g e g0 g1 => by
      by_cases q : e = d
      · rw [q]; exact g
      · exact hno e g0 (by omega)
    have b2 : ∀ j : Int, 0 ≤ j → j < i1 → bF (SF t (st t (pa t))) (bO (SF t (st t (pa t))) j) < ((d + 1 : Nat) : Int) := fun j g0 g1 => by have := a2 j g0 g1; omega
    have b3 : ∀ j : Int, i1 ≤ j → j < bM (SF t (st t (pa t))) → ((d + 1 : Nat) : Int) ≤ bF (SF t (st t (pa t))) (bO (SF t (st t (pa t))) j) := fun j g0 g1 => by have := a3 j g0 g1; omega
    by_cases g : cm t d = 1
    · rw [if_pos g]
      by_cases g2 : fo t d = k
      · left
        rw [if_pos g2, a4 g]
        have hf := f1_at (P := fun e => decide (cm t e = 1) && decide (fo t e = k)) (n := (dueO t + 1).toNat) (i := d) (by omega) (by omega) (by rw [decide_eq_true g, decide_eq_true g2]; rfl) (fun j g0 g1 => by
          rw [Bool.eq_false_iff]; intro q
          rw [Bool.and_eq_true, decide_eq_true_eq, decide_eq_true_eq] at q
          exact hno j g0 g1 q)
        unfold muF muK
        rw [if_neg (by omega), hf, if_neg (by omega)]
      · right
        rw [if_neg g2, wtv, wtv, w32_n d (by omega), w32_id (by omega) (by omega)]
        exact ⟨(fo t d + 1, i1, ((d + 1 : Nat) : Int)), ⟨rfl, by rw [e1, if_pos g], nxt (fun q => g2 q.2), ⟨by show 0 ≤ i1; omega, hi1.2⟩, b2, b3⟩, rfl⟩
    · right
      rw [if_neg g, wtv, w32_n d (by omega)]
      exact ⟨(fo t d, i1, ((d + 1 : Nat) : Int)), ⟨rfl, by rw [e1, if_neg g, Int.add_zero], nxt (fun q => g q.1), ⟨by show 0 ≤ i1; omega, hi1.2⟩, b2, b3⟩, rfl⟩
  · obtain ⟨v5, i0, r⟩ := x
    obtain ⟨hr, e5, hno, hi0, hlo, hhi⟩ := hx
    have hr : r = ((dueO t + 1).toNat : Int) := hr
    have e5' : v5 = fo t ((dueO t + 1).toNat : Nat) := e5
    show f_Nb_mustStands_L22 _ 48 51 k (dueO t) (n + 1) h v5 i0 r = _
    rw [f_Nb_mustStands_L22, if_pos (by omega)]
    unfold muF
    by_cases g : k = -1
    · rw [if_pos g, if_pos g, e5', show (((dueO t + 1).toNat : Nat) : Int) = dueO t + 1 by omega]
    · rw [if_neg g, if_neg g]
      unfold muK
      rw [f1_none (fun j g0 g1 => by
        rw [Bool.eq_false_iff]; intro q
        rw [Bool.and_eq_true, decide_eq_true_eq, decide_eq_true_eq] at q
        exact hno j g0 g1 q), if_pos rfl]
theorem c_musts (A : At h c p L M) {t : tT} (K : KS E M L t) {w : Int} (hw : -2147483648 ≤ w ∧ w < 2147483648) : CR c M E t (f_Nb_musts h 1 w) (if nS t ≤ 20000 then (if w = 0 ∨ 10 ≤ w then (0, muV t w) else (4, xA)) else (4, xS)) := by
  have C := A.nb
  unfold f_Nb_musts
  simp only [C]
  rw [chk_t trivial]
  refine CR_graph A K (fun h1 p1 L1 M1 A1 K1 G1 F1 hS2 => ?_)
  have C1 := A1.nb
  have j25 : w = 0 ∨ 10 ≤ w → CR c M1 E t (f_Nb_musts_J25 1 w h1) (if w = 0 ∨ 10 ≤ w then (0, muV t w) else (4, xA)) := fun hw2 => by
    unfold f_Nb_musts_J25
    rw [if_pos hw2]
    simp only [C1]
    rw [chk_t trivial]
    refine CR_now A1 K1 hS2 (fun h2 p2 L2 M2 A2 K2 G2 P2 => ?_)
    have C2 := A2.nb
    simp only [C2]
    rw [chk_t trivial]
    refine CR_open A2 K2 hS2 G2 (fun h3 p3 L3 M3 A3 K3 G3 P3 hP => ?_)
    have P2 := hP _ P2
    have C3 := A3.nb
    simp only [C3]
    unfold muV
    by_cases g : w = 0
    · rw [if_pos g, if_pos g, chk_t trivial, s_mustStands A3 K3 hS2 G3 P2 P3 (by omega), bndT_ok (by decide)]
      exact CR_ok A3 K3
    · rw [if_neg g, if_neg g, chk_t trivial, w32_id (by omega) (by omega), s_mustStands A3 K3 hS2 G3 P2 P3 (by omega), bndT_ok (by decide)]
      unfold muF
      rw [if_neg (by omega)]
      exact CR_ok A3 K3
  by_cases w0 : w = 0
  · rw [if_pos w0]; exact j25 (Or.inl w0)
  · rw [if_neg w0]
    by_cases w1 : 10 ≤ w
    · rw [if_pos w1]; exact j25 (Or.inr w1)
    · rw [if_neg w1, if_neg (by omega)]; exact CR_ex A1 K1
end
