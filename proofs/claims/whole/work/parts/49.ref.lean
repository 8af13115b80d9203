/-! THE REFERENCE'S OWN READERS -/
def MH (h : mH) (t : tT) (row : Int → Int) (X : tT) (e : Int) : Prop := hpT h 75 = 12 ∧ hpV h 75 0 = 76 ∧ hpT h 76 = 21 ∧ hpL h 76 = 434 ∧ (∀ i, hpV h 76 i = t i) ∧ hpV h 75 17 = 82 ∧ hpT h 82 = 21 ∧ hpL h 82 = 9 ∧ (∀ i, hpV h 82 i = row i) ∧ hpV h 75 18 = 83 ∧ hpT h 83 = 21 ∧ hpL h 83 = 16 ∧ (∀ i, hpV h 83 i = X i) ∧ hpV h 75 19 = e
theorem MH.T {h : mH} {t : tT} {row : Int → Int} {X : tT} {e : Int} (B : MH h t row X e) : hpT h 75 = 12 := B.1
theorem MH.P0 {h : mH} {t : tT} {row : Int → Int} {X : tT} {e : Int} (B : MH h t row X e) : hpV h 75 0 = 76 := B.2.1
theorem MH.T0 {h : mH} {t : tT} {row : Int → Int} {X : tT} {e : Int} (B : MH h t row X e) : hpT h 76 = 21 := B.2.2.1
theorem MH.L0 {h : mH} {t : tT} {row : Int → Int} {X : tT} {e : Int} (B : MH h t row X e) : hpL h 76 = 434 := B.2.2.2.1
theorem MH.V0 {h : mH} {t : tT} {row : Int → Int} {X : tT} {e : Int} (B : MH h t row X e) : ∀ i, hpV h 76 i = t i := B.2.2.2.2.1
theorem MH.P17 {h : mH} {t : tT} {row : Int → Int} {X : tT} {e : Int} (B : MH h t row X e) : hpV h 75 17 = 82 := B.2.2.2.2.2.1
theorem MH.T17 {h : mH} {t : tT} {row : Int → Int} {X : tT} {e : Int} (B : MH h t row X e) : hpT h 82 = 21 := B.2.2.2.2.2.2.1
theorem MH.L17 {h : mH} {t : tT} {row : Int → Int} {X : tT} {e : Int} (B : MH h t row X e) : hpL h 82 = 9 := B.2.2.2.2.2.2.2.1
theorem MH.V17 {h : mH} {t : tT} {row : Int → Int} {X : tT} {e : Int} (B : MH h t row X e) : ∀ i, hpV h 82 i = row i := B.2.2.2.2.2.2.2.2.1
theorem MH.P18 {h : mH} {t : tT} {row : Int → Int} {X : tT} {e : Int} (B : MH h t row X e) : hpV h 75 18 = 83 := B.2.2.2.2.2.2.2.2.2.1
theorem MH.T18 {h : mH} {t : tT} {row : Int → Int} {X : tT} {e : Int} (B : MH h t row X e) : hpT h 83 = 21 := B.2.2.2.2.2.2.2.2.2.2.1
theorem MH.L18 {h : mH} {t : tT} {row : Int → Int} {X : tT} {e : Int} (B : MH h t row X e) : hpL h 83 = 16 := B.2.2.2.2.2.2.2.2.2.2.2.1
theorem MH.V18 {h : mH} {t : tT} {row : Int → Int} {X : tT} {e : Int} (B : MH h t row X e) : ∀ i, hpV h 83 i = X i := B.2.2.2.2.2.2.2.2.2.2.2.2.1
theorem MH.s19 {h : mH} {t : tT} {row : Int → Int} {X : tT} {e : Int} (B : MH h t row X e) : hpV h 75 19 = e := B.2.2.2.2.2.2.2.2.2.2.2.2.2
theorem MH.of {h : mH} {c : Int} {p L : Int → Int} {M : aM} (A : At h c p L M) : MH h (M 76) (M 82) (M 83) (M 75 19) := by
  have B := A.md
  refine ⟨?_, ?_, ?_, ?_, fun i => ?_, ?_, ?_, ?_, fun i => ?_, ?_, ?_, ?_, fun i => ?_, ?_⟩ <;> simp only [B]
theorem qlcmp_lt {a b : Int} : qlcmp a b < 0 ↔ a < b := by unfold qlcmp; split <;> (try split) <;> omega
theorem qlcmp_gt {a b : Int} : 0 < qlcmp a b ↔ b < a := by unfold qlcmp; split <;> (try split) <;> omega
theorem qlcmp_eq {a b : Int} : qlcmp a b = 0 ↔ a = b := by unfold qlcmp; split <;> (try split) <;> omega
theorem b2i_01 (b : Bool) : b2i b = 0 ∨ b2i b = 1 := by cases b <;> decide
theorem b2i_0 {b : Bool} : b2i b = 0 ↔ b = false := by cases b <;> decide
theorem b2i_1 {b : Bool} : b2i b = 1 ↔ b = true := by cases b <;> decide
theorem s_Md_amid (h : mH) (v lo hi : Int) : f_Md_amid h v lo hi = some ((0, b2i (decide (lo ≤ v) && decide (v ≤ hi))), h) := by
  unfold f_Md_amid f_Md_amid_J17
  by_cases h1 : v < lo
  · rw [if_pos (qlcmp_lt.mpr h1), chk_t (Or.inl rfl), decide_eq_false (show ¬ lo ≤ v by omega)]; rfl
  · rw [if_neg (fun x => h1 (qlcmp_lt.mp x)), decide_eq_true (show lo ≤ v by omega)]
    by_cases h2 : hi < v
    · rw [if_pos (qlcmp_gt.mpr h2), chk_t (Or.inl rfl), decide_eq_false (show ¬ v ≤ hi by omega)]; rfl
    · rw [if_neg (fun x => h2 (qlcmp_gt.mp x)), chk_t (Or.inr rfl), decide_eq_true (show v ≤ hi by omega)]; rfl
section
variable {h : mH} {t : tT} {row : Int → Int} {X : tT} {e : Int}
theorem s_Md_bars (B : MH h t row X e) : f_Md_bars h 75 = some ((0, nb t), h) := by
  unfold f_Md_bars
  rw [chk_t B.T, B.P0, chk_t B.T0, chk_t (by rw [B.L0]; omega), B.V0]; rfl
theorem s_Md_isBar (B : MH h t row X e) (W : WS t) (b : Int) : f_Md_isBar h 75 b = some ((0, b2i (decide (0 ≤ b) && decide (b < nb t))), h) := by
  have hn := W.1
  unfold f_Md_isBar
  rw [chk_t B.T, s_Md_bars B, bndT_ok (by decide), w32_id (by omega) (by omega), s_Md_amid, bndT_ok (by decide), show decide (b ≤ nb t - 1) = decide (b < nb t) from by congr 1; apply propext; omega, chk_t (b2i_01 _)]
theorem s_Md_of (B : MH h t row X e) (W : WS t) {b w : Int} (h0 : 0 ≤ b) (h1 : b < 9) (h2 : 0 ≤ w) (h3 : w ≤ 3) : f_Md_of h 75 b w = some ((0, t (5 + 4 * b + w)), h) := by
  unfold f_Md_of
  have e1 : w32 (w32 (5 + w32 (4 * b)) + w) = 5 + 4 * b + w := by
    rw [w32_id (x := 4 * b) (by omega) (by omega), w32_id (x := 5 + 4 * b) (by omega) (by omega), w32_id (by omega) (by omega)]
  rw [chk_t B.T, B.P0, chk_t B.T0, e1, chk_t (by rw [B.L0]; omega), B.V0]
theorem s_Md_pl (B : MH h t row X e) (W : WS t) {b : Int} (h0 : 0 ≤ b) (h1 : b < nb t) : f_Md_of h 75 b 0 = some ((0, pl t b), h) := by
  have := W.1
  rw [s_Md_of B W h0 (by omega) (by omega) (by omega)]
  unfold pl; rw [Int.add_zero]
theorem s_Md_pa (B : MH h t row X e) (W : WS t) {b : Int} (h0 : 0 ≤ b) (h1 : b < nb t) : f_Md_of h 75 b 1 = some ((0, pa t b), h) := by
  have := W.1
  rw [s_Md_of B W h0 (by omega) (by omega) (by omega)]
  unfold pa; rw [show 5 + 4 * b + 1 = 6 + 4 * b by omega]
theorem s_Md_po (B : MH h t row X e) (W : WS t) {b : Int} (h0 : 0 ≤ b) (h1 : b < nb t) : f_Md_of h 75 b 2 = some ((0, po t b), h) := by
  have := W.1
  rw [s_Md_of B W h0 (by omega) (by omega) (by omega)]
  unfold po; rw [show 5 + 4 * b + 2 = 7 + 4 * b by omega]
theorem s_Md_md (B : MH h t row X e) (W : WS t) {b : Int} (h0 : 0 ≤ b) (h1 : b < nb t) : f_Md_of h 75 b 3 = some ((0, md t b), h) := by
  have := W.1
  rw [s_Md_of B W h0 (by omega) (by omega) (by omega)]
  unfold md; rw [show 5 + 4 * b + 3 = 8 + 4 * b by omega]
theorem s_Md_isWorn (B : MH h t row X e) (W : WS t) {b : Int} (h0 : 0 ≤ b) (h1 : b < nb t) : f_Md_isWorn h 75 b = some ((0, b2i (wS t b)), h) := by
  unfold f_Md_isWorn f_Md_isWorn_J28 wS
  have e4 : t 4 = we t := rfl
  rw [chk_t B.T, B.P0, chk_t B.T0, chk_t (by rw [B.L0]; omega), B.V0, e4]
  by_cases h2 : we t ≤ 0
  · rw [if_pos h2, chk_t (Or.inl rfl), decide_eq_false (show ¬ 0 < we t by omega)]; rfl
  · rw [if_neg h2, chk_t B.T, s_Md_md B W h0 h1, bndT_ok (by decide), chk_t B.T, B.P0, chk_t B.T0, chk_t (by rw [B.L0]; omega), B.V0, e4, decide_eq_true (show 0 < we t by omega)]
    by_cases h3 : md t b < we t
    · rw [if_pos h3, chk_t (Or.inl rfl), decide_eq_false (show ¬ we t ≤ md t b by omega)]; rfl
    · rw [if_neg h3, chk_t (Or.inr rfl), decide_eq_true (show we t ≤ md t b by omega)]; rfl
theorem s_Md_worn (B : MH h t row X e) (W : WS t) : f_Md_worn h 75 = some ((0, mkM (wS t) (nb t).toNat), h) := by
  have hn := W.1
  unfold f_Md_worn
  refine loop_r (F := fun n (x : Int × Int) => f_Md_worn_L4 75 n h x.1 x.2) (P := fun o => o = _) (fun i x => x.2 = (i : Int) ∧ (-2147483648 ≤ x.1 ∧ x.1 < 2147483648) ∧ ∀ j : Nat, j < 32 → bt x.1 j = (decide (j < i) && wS t j)) (nb t).toNat (fun i hi x hx n => ?_) (fun x hx n => ?_) (i := 0) (b := (0, 0)) ⟨rfl, by decide, fun j _ => by show bt 0 j = _; rw [bt_0]; simp⟩ (by omega) (by omega)
  · obtain ⟨x, r⟩ := x
    obtain ⟨h1, h2, h3⟩ := hx
    have h1 : r = (i : Int) := h1
    have h3 : ∀ j : Nat, j < 32 → bt x j = (decide (j < i) && wS t j) := h3
    subst h1
    right
    show ∃ b' : Int × Int, _ ∧ f_Md_worn_L4 75 (n + 1) h x i = _
    rw [f_Md_worn_L4, chk_t B.T, s_Md_bars B, bndT_ok (by decide), if_neg (by omega), chk_t B.T, s_Md_isWorn B W (by omega) (by omega), bndT_ok (by decide)]
    unfold f_Md_worn_J28
    simp only [wtv, w32_n i (by omega)]
    refine ⟨(qor x (if wS t i = true then qshl 1 i else 0), ((i + 1 : Nat) : Int)), ⟨rfl, qor_rng _ _, fun j hj => ?_⟩, ?_⟩
    · show bt (qor x (if wS t i = true then qshl 1 i else 0)) j = _
      rw [bt_qor, h3 j hj]
      have e1 : bt (if wS t i = true then qshl 1 i else 0) j = (decide ((j : Int) = i) && wS t i) := by
        cases wS t i
        · rw [if_neg (by decide), bt_0]; simp
        · rw [if_pos rfl, bt_shl1 (by omega) (by omega) hj, Bool.and_true]
      rw [e1]
      by_cases e : (j : Int) = i
      · rw [e, decide_eq_true rfl, decide_eq_false (show ¬ j < i by omega), decide_eq_true (show j < i + 1 by omega)]; simp
      · rw [decide_eq_false e, show decide (j < i + 1) = decide (j < i) from by congr 1; apply propext; omega]; simp
    · cases wS t i <;> rfl
  · obtain ⟨x, r⟩ := x
    obtain ⟨h1, h2, h3⟩ := hx
    have h1 : r = ((nb t).toNat : Int) := h1
    show f_Md_worn_L4 75 (n + 1) h x r = _
    rw [f_Md_worn_L4, chk_t B.T, s_Md_bars B, bndT_ok (by decide), if_pos (by omega)]
    rw [mkM_ext (f := wS t) (n := (nb t).toNat) (x := x) (by omega) h2]
    intro j hj
    exact h3 j hj
theorem s_Md_stands (B : MH h t row X e) (W : WS t) : f_Md_stands h 75 = some ((0, nS t), h) := by
  have hn := W.1
  unfold f_Md_stands
  refine loop_r (F := fun n (b : Int × Int) => f_Md_stands_L4 75 n h b.1 b.2) (P := fun o => o = some ((0, nS t), h)) (fun i b => b = (pw t i, (i : Int))) (nb t).toNat (fun i hi b hb n => ?_) (fun b hb n => ?_) (i := 0) (b := (1, 0)) rfl (by omega) (by omega)
  · subst hb
    refine Or.inr ⟨_, rfl, ?_⟩
    show f_Md_stands_L4 75 (n + 1) h (pw t i) i = f_Md_stands_L4 75 n h (pw t (i + 1)) ((i + 1 : Nat) : Int)
    rw [f_Md_stands_L4, chk_t B.T, s_Md_bars B, bndT_ok (by decide), if_neg (by omega), chk_t B.T, s_Md_pl B W (by omega) (by omega), bndT_ok (by decide)]
    have e := pw_mono W.pp (show i + 1 ≤ (nb t).toNat by omega)
    have e2 := pw_pos (W.pp.mono (show i + 1 ≤ (nb t).toNat by omega))
    have e3 := nS_rng W
    unfold nS at e3
    rw [wtv, wtv, show w32 (pw t i * pl t i) = pw t (i + 1) from w32_id (by show _ ≤ pw t (i + 1); omega) (by show pw t (i + 1) < _; omega), w32_n i (by omega)]
  · subst hb
    show f_Md_stands_L4 75 (n + 1) h (pw t (nb t).toNat) ((nb t).toNat : Int) = _
    rw [f_Md_stands_L4, chk_t B.T, s_Md_bars B, bndT_ok (by decide), if_pos (by omega)]; rfl
theorem s_Md_isSpent (B : MH h t row X e) (W : WS t) : f_Md_isSpent h 75 = some ((0, b2i (decide (20000 < nS t))), h) := by
  unfold f_Md_isSpent
  rw [chk_t B.T, s_Md_stands B W, bndT_ok (by decide)]
  by_cases g : nS t ≤ 20000
  · rw [if_pos g, chk_t (Or.inl rfl), decide_eq_false (by omega)]; rfl
  · rw [if_neg g, chk_t (Or.inr rfl), decide_eq_true (by omega)]; rfl
theorem s_Md_standNow (B : MH h t row X e) (W : WS t) (R : RW t (pa t)) : f_Md_standNow h 75 = some ((0, st t (pa t)), h) := by
  have hn := W.1
  have hS := nS_rng W
  unfold f_Md_standNow
  rw [chk_t B.T, s_Md_bars B, bndT_ok (by decide), wtv, w32_id (by omega) (by omega)]
  have hst := st_rng W R
  refine loop_r (F := fun n (b : Int × Int) => f_Md_standNow_L9 75 n h b.1 b.2) (P := fun o => o = some ((0, st t (pa t)), h)) (fun i b => b.2 = nb t - 1 - i ∧ 0 ≤ b.1 ∧ b.1 * pw t (nb t - i).toNat + sd t (pa t) (nb t - i).toNat = st t (pa t)) (nb t).toNat (fun i hi b hb n => ?_) (fun b hb n => ?_) (i := 0) (b := (0, nb t - 1)) ?_ (by omega) (by omega)
  · obtain ⟨s, j⟩ := b
    obtain ⟨h1, h2, h3⟩ := hb
    have h1 : j = nb t - 1 - i := h1
    have h2 : 0 ≤ s := h2
    have h3 : s * pw t (nb t - i).toNat + sd t (pa t) (nb t - i).toNat = st t (pa t) := h3
    have hj : (nb t - i).toNat = j.toNat + 1 := by omega
    rw [hj] at h3
    have hp := W.2.2.2.2.2.1 j (by omega) (by omega)
    have hr := R j (by omega) (by omega)
    have hw := pw_pos (W.pp.mono (show j.toNat ≤ (nb t).toNat by omega))
    have hd := sd_rng (W.pp.mono (show j.toNat ≤ (nb t).toNat by omega)) (fun k hk => R.rn k (by omega))
    have ej : ((j.toNat : Nat) : Int) = j := by omega
    have h4 : (s * pl t j + pa t j) * pw t j.toNat + sd t (pa t) j.toNat = st t (pa t) := by
      rw [← h3]
      show _ = s * (pw t j.toNat * pl t (j.toNat : Nat)) + (sd t (pa t) j.toNat + pa t (j.toNat : Nat) * pw t j.toNat)
      rw [ej, Int.add_mul, Int.mul_assoc, Int.mul_comm (pl t j)]
      omega
    have h5 : 0 ≤ s * pl t j := Int.mul_nonneg h2 (by omega)
    have h6 : (s * pl t j + pa t j) * 1 ≤ (s * pl t j + pa t j) * pw t j.toNat := Int.mul_le_mul_of_nonneg_left hw (by omega)
    refine Or.inr ⟨(s * pl t j + pa t j, j - 1), ⟨by show j - 1 = _; omega, by show 0 ≤ s * pl t j + pa t j; omega, ?_⟩, ?_⟩
    · show (s * pl t j + pa t j) * pw t (nb t - (i + 1 : Nat)).toNat + sd t (pa t) (nb t - (i + 1 : Nat)).toNat = st t (pa t)
      rw [show (nb t - (i + 1 : Nat)).toNat = j.toNat by omega]; exact h4
    · show f_Md_standNow_L9 75 (n + 1) h s j = f_Md_standNow_L9 75 n h (s * pl t j + pa t j) (j - 1)
      rw [f_Md_standNow_L9, if_neg (by omega), chk_t B.T, s_Md_pl B W (by omega) (by omega), bndT_ok (by decide), chk_t B.T, s_Md_pa B W (by omega) (by omega), bndT_ok (by decide), wtv, wtv, w32_id (x := s * pl t j) (by omega) (by omega), w32_id (by omega) (by omega), w32_id (by omega) (by omega)]
      rfl
  · obtain ⟨s, j⟩ := b
    obtain ⟨h1, h2, h3⟩ := hb
    have h1 : j = nb t - 1 - (nb t).toNat := h1
    have h3 : s * pw t (nb t - (nb t).toNat).toNat + sd t (pa t) (nb t - (nb t).toNat).toNat = st t (pa t) := h3
    rw [show (nb t - (nb t).toNat).toNat = 0 by omega] at h3
    show f_Md_standNow_L9 75 (n + 1) h s j = _
    rw [f_Md_standNow_L9, if_pos (by omega), ← h3]
    show some ((0, s), h) = some ((0, s * 1 + 0), h)
    rw [Int.mul_one, Int.add_zero]
  · refine ⟨by show nb t - 1 = _; omega, Int.le_refl _, ?_⟩
    show 0 * _ + sd t (pa t) (nb t - (0 : Nat)).toNat = st t (pa t)
    rw [Int.zero_mul, Int.zero_add, show (nb t - (0 : Nat)).toNat = (nb t).toNat by omega]; rfl
theorem s_Md_openStand (B : MH h t row X e) (W : WS t) (R : RW t (po t)) : f_Md_openStand h 75 = some ((0, st t (po t)), h) := by
  have hn := W.1
  have hS := nS_rng W
  unfold f_Md_openStand
  rw [chk_t B.T, s_Md_bars B, bndT_ok (by decide), wtv, w32_id (by omega) (by omega)]
  have hst := st_rng W R
  refine loop_r (F := fun n (b : Int × Int) => f_Md_openStand_L9 75 n h b.1 b.2) (P := fun o => o = some ((0, st t (po t)), h)) (fun i b => b.2 = nb t - 1 - i ∧ 0 ≤ b.1 ∧ b.1 * pw t (nb t - i).toNat + sd t (po t) (nb t - i).toNat = st t (po t)) (nb t).toNat (fun i hi b hb n => ?_) (fun b hb n => ?_) (i := 0) (b := (0, nb t - 1)) ?_ (by omega) (by omega)
  · obtain ⟨s, j⟩ := b
    obtain ⟨h1, h2, h3⟩ := hb
    have h1 : j = nb t - 1 - i := h1
    have h2 : 0 ≤ s := h2
    have h3 : s * pw t (nb t - i).toNat + sd t (po t) (nb t - i).toNat = st t (po t) := h3
    have hj : (nb t - i).toNat = j.toNat + 1 := by omega
    rw [hj] at h3
    have hp := W.2.2.2.2.2.1 j (by omega) (by omega)
    have hr := R j (by omega) (by omega)
    have hw := pw_pos (W.pp.mono (show j.toNat ≤ (nb t).toNat by omega))
    have hd := sd_rng (W.pp.mono (show j.toNat ≤ (nb t).toNat by omega)) (fun k hk => R.rn k (by omega))
    have ej : ((j.toNat : Nat) : Int) = j := by omega
    have h4 : (s * pl t j + po t j) * pw t j.toNat + sd t (po t) j.toNat = st t (po t) := by
      rw [← h3]
      show _ = s * (pw t j.toNat * pl t (j.toNat : Nat)) + (sd t (po t) j.toNat + po t (j.toNat : Nat) * pw t j.toNat)
      rw [ej, Int.add_mul, Int.mul_assoc, Int.mul_comm (pl t j)]
      omega
    have h5 : 0 ≤ s * pl t j := Int.mul_nonneg h2 (by omega)
    have h6 : (s * pl t j + po t j) * 1 ≤ (s * pl t j + po t j) * pw t j.toNat := Int.mul_le_mul_of_nonneg_left hw (by omega)
    refine Or.inr ⟨(s * pl t j + po t j, j - 1), ⟨by show j - 1 = _; omega, by show 0 ≤ s * pl t j + po t j; omega, ?_⟩, ?_⟩
    · show (s * pl t j + po t j) * pw t (nb t - (i + 1 : Nat)).toNat + sd t (po t) (nb t - (i + 1 : Nat)).toNat = st t (po t)
      rw [show (nb t - (i + 1 : Nat)).toNat = j.toNat by omega]; exact h4
    · show f_Md_openStand_L9 75 (n + 1) h s j = f_Md_openStand_L9 75 n h (s * pl t j + po t j) (j - 1)
      rw [f_Md_openStand_L9, if_neg (by omega), chk_t B.T, s_Md_pl B W (by omega) (by omega), bndT_ok (by decide), chk_t B.T, s_Md_po B W (by omega) (by omega), bndT_ok (by decide), wtv, wtv, w32_id (x := s * pl t j) (by omega) (by omega), w32_id (by omega) (by omega), w32_id (by omega) (by omega)]
      rfl
  · obtain ⟨s, j⟩ := b
    obtain ⟨h1, h2, h3⟩ := hb
    have h1 : j = nb t - 1 - (nb t).toNat := h1
    have h3 : s * pw t (nb t - (nb t).toNat).toNat + sd t (po t) (nb t - (nb t).toNat).toNat = st t (po t) := h3
    rw [show (nb t - (nb t).toNat).toNat = 0 by omega] at h3
    show f_Md_openStand_L9 75 (n + 1) h s j = _
    rw [f_Md_openStand_L9, if_pos (by omega), ← h3]
    show some ((0, s), h) = some ((0, s * 1 + 0), h)
    rw [Int.mul_one, Int.add_zero]
  · refine ⟨by show nb t - 1 = _; omega, Int.le_refl _, ?_⟩
    show 0 * _ + sd t (po t) (nb t - (0 : Nat)).toNat = st t (po t)
    rw [Int.zero_mul, Int.zero_add, show (nb t - (0 : Nat)).toNat = (nb t).toNat by omega]; rfl
theorem s_Md_placeOf (B : MH h t row X e) (W : WS t) {s b : Int} (hs0 : 0 ≤ s) (hs1 : s < 2147483648) (h0 : 0 ≤ b) (h1 : b < nb t) : f_Md_placeOf h 75 s b = some ((0, dg t s b), h) := by
  have hn := W.1
  unfold f_Md_placeOf
  refine loop_r (F := fun n (x : Int × Int) => f_Md_placeOf_L5 (fun h1 x2 => chk (hpT h1 75 = 12) (bndT 0 (f_Md_of h1 75 b 0) (fun x4 h3 => chk (x4 ≠ 0) (some ((0, Int.tmod x2 x4), h3))))) 75 b n h x.1 x.2) (P := fun o => o = some ((0, dg t s b), h)) (fun i x => x = (s / pw t i, (i : Int))) b.toNat (fun i hi x hx n => ?_) (fun x hx n => ?_) (i := 0) (b := (s, 0)) (by show _ = (s / 1, _); rw [Int.ediv_one]; rfl) (by omega) (by omega)
  · subst hx
    right
    have hp := W.2.2.2.2.2.1 i (by omega) (by omega)
    have hw := pw_pos (W.pp.mono (show i ≤ (nb t).toNat by omega))
    have hd : 0 ≤ s / pw t i := Int.ediv_nonneg hs0 (by omega)
    have hd2 : s / pw t i ≤ s := Int.ediv_le_self _ hs0
    refine ⟨_, rfl, ?_⟩
    show f_Md_placeOf_L5 _ 75 b (n + 1) h (s / pw t i) i = f_Md_placeOf_L5 _ 75 b n h (s / (pw t i * pl t i)) ((i + 1 : Nat) : Int)
    rw [f_Md_placeOf_L5, if_neg (by omega), chk_t B.T, s_Md_pl B W (by omega) (by omega), bndT_ok (by decide), chk_t (by omega), Int.tdiv_eq_ediv_of_nonneg hd, wtv, wtv]
    have e2 : 0 ≤ s / pw t i / pl t i := Int.ediv_nonneg hd (by omega)
    have e3 : s / pw t i / pl t i ≤ s / pw t i := Int.ediv_le_self _ hd
    rw [w32_id (by omega) (by omega), w32_n i (by omega), Int.ediv_ediv_of_nonneg (by omega)]
  · subst hx
    have hp := W.2.2.2.2.2.1 b (by omega) (by omega)
    have hw := pw_pos (W.pp.mono (show b.toNat ≤ (nb t).toNat by omega))
    have hd : 0 ≤ s / pw t b.toNat := Int.ediv_nonneg hs0 (by omega)
    show f_Md_placeOf_L5 _ 75 b (n + 1) h (s / pw t b.toNat) (b.toNat : Int) = _
    rw [f_Md_placeOf_L5, if_pos (by omega), chk_t B.T, s_Md_pl B W h0 h1, bndT_ok (by decide), chk_t (by omega), Int.tmod_eq_emod_of_nonneg hd]
    rfl
theorem s_Md_weight (B : MH h t row X e) (W : WS t) {b : Int} (h0 : 0 ≤ b) (h1 : b ≤ nb t) : f_Md_weight h 75 b = some ((0, wg t b), h) := by
  have hn := W.1
  unfold f_Md_weight
  refine loop_r (F := fun n (x : Int × Int) => f_Md_weight_L4 75 b n h x.1 x.2) (P := fun o => o = some ((0, wg t b), h)) (fun i x => x = (pw t i, (i : Int))) b.toNat (fun i hi x hx n => ?_) (fun x hx n => ?_) (i := 0) (b := (1, 0)) rfl (by omega) (by omega)
  · subst hx
    refine Or.inr ⟨_, rfl, ?_⟩
    show f_Md_weight_L4 75 b (n + 1) h (pw t i) i = f_Md_weight_L4 75 b n h (pw t (i + 1)) ((i + 1 : Nat) : Int)
    have e := pw_mono W.pp (show i + 1 ≤ (nb t).toNat by omega)
    have e2 := pw_pos (W.pp.mono (show i + 1 ≤ (nb t).toNat by omega))
    have e3 := nS_rng W
    unfold nS at e3
    rw [f_Md_weight_L4, if_neg (by omega), chk_t B.T, s_Md_pl B W (by omega) (by omega), bndT_ok (by decide), wtv, wtv, show w32 (pw t i * pl t i) = pw t (i + 1) from w32_id (by show _ ≤ pw t (i + 1); omega) (by show pw t (i + 1) < _; omega), w32_n i (by omega)]
  · subst hx
    show f_Md_weight_L4 75 b (n + 1) h (pw t b.toNat) (b.toNat : Int) = _
    rw [f_Md_weight_L4, if_pos (by omega)]; rfl
theorem s_Md_steps (B : MH h t row X e) (W : WS t) : f_Md_steps h 75 = some ((0, 2 * nb t), h) := by
  have hn := W.1
  unfold f_Md_steps
  rw [chk_t B.T, s_Md_bars B, bndT_ok (by decide), w32_id (by omega) (by omega)]
theorem s_Md_isTrue {a : Int} {x : tT} {i v : Int} (h1 : hpT h a = 21) (h2 : i + 2 < hpL h a) (h3 : ∀ j, hpV h a j = x j) (h0 : 0 ≤ i) (h4 : i < 1000) : f_Md_isTrue h a i v = some ((0, b2i (decide (v = x (i + 2)) == decide (x (i + 1) = 0))), h) := by
  unfold f_Md_isTrue f_Md_isTrue_J14 f_Md_isTrue_J27
  rw [chk_t h1, w32_id (by omega) (by omega), chk_t (by omega), w32_id (by omega) (by omega), h3, h3]
  by_cases e1 : v = x (i + 2) <;> by_cases e2 : x (i + 1) = 0
  · rw [if_pos e1, decide_eq_true e1, decide_eq_true e2, chk_t h1, chk_t (by omega), if_pos e2, if_pos rfl, chk_t (Or.inr rfl)]; rfl
  · rw [if_pos e1, decide_eq_true e1, decide_eq_false e2, chk_t h1, chk_t (by omega), if_neg e2, if_neg (by decide), chk_t (Or.inl rfl)]; rfl
  · rw [if_neg e1, decide_eq_false e1, decide_eq_true e2, chk_t h1, chk_t (by omega), if_pos e2, if_neg (by decide), chk_t (Or.inl rfl)]; rfl
  · rw [if_neg e1, decide_eq_false e1, decide_eq_false e2, chk_t h1, chk_t (by omega), if_neg e2, if_pos rfl, chk_t (Or.inr rfl)]; rfl
/-- a row's facts, the told ones (16 r behind 41) or the extra one's (0) -/
theorem s_Md_holds (B : MH h t row X e) {a k m : Int} {x : tT} (h1 : hpT h a = 21) (h3 : ∀ j, hpV h a j = x j) (h0 : 0 ≤ k) (h4 : k < 500) (hm : x (k + 3) = m) (hm0 : 0 ≤ m) (hm1 : m ≤ 4) (h2 : k + 4 + 3 * m ≤ hpL h a) (hL : k + 4 ≤ hpL h a)
    (hf : ∀ f, 0 ≤ f → f < m → 0 ≤ x (k + 4 + 3 * f) ∧ x (k + 4 + 3 * f) < 9) :
    f_Md_holds h 75 a k = some ((0, b2i (allN (fun f => decide (row (x (k + 4 + 3 * f)) = x (k + 4 + 3 * f + 2)) == decide (x (k + 4 + 3 * f + 1) = 0)) m.toNat)), h) := by
  unfold f_Md_holds
  refine loop_r (F := fun n (b : Int) => f_Md_holds_L2 75 a k n h b) (P := fun o => o = _) (fun i b => b = (i : Int) ∧ allN (fun f => decide (row (x (k + 4 + 3 * f)) = x (k + 4 + 3 * f + 2)) == decide (x (k + 4 + 3 * f + 1) = 0)) i = true) m.toNat (fun i hi b hb n => ?_) (fun b hb n => ?_) (i := 0) (b := 0) ⟨rfl, rfl⟩ (by omega) (by omega)
  · obtain ⟨rfl, hb⟩ := hb
    have hfi := hf i (by omega) (by omega)
    show f_Md_holds_L2 75 a k (n + 1) h i = _ ∨ ∃ b', _ ∧ f_Md_holds_L2 75 a k (n + 1) h i = _
    have e1 : w32 (w32 (k + 4) + w32 (3 * i)) = k + 4 + 3 * i := by
      rw [w32_id (x := k + 4) (by omega) (by omega), w32_id (x := 3 * (i : Int)) (by omega) (by omega), w32_id (by omega) (by omega)]
    rw [f_Md_holds_L2, chk_t h1, w32_id (x := k + 3) (by omega) (by omega), chk_t (by omega), h3, hm, if_neg (by omega), chk_t B.T, chk_t h1, e1, chk_t (by omega), B.P17, chk_t B.T17, h3, chk_t (by rw [B.L17]; omega), B.V17, s_Md_isTrue h1 (by omega) h3 (by omega) (by omega), bndT_ok (by decide)]
    cases hc : (decide (row (x (k + 4 + 3 * i)) = x (k + 4 + 3 * i + 2)) == decide (x (k + 4 + 3 * i + 1) = 0))
    · left
      rw [if_pos (b2i_0.mpr rfl), chk_t (Or.inl rfl), (b2i_0 (b := allN _ _)).mpr]
      rw [Bool.eq_false_iff]
      intro g
      have := allN_iff.mp g i (by omega) (by omega)
      rw [hc] at this; cases this
    · right
      rw [if_neg (by decide), wtv, w32_n i (by omega)]
      exact ⟨_, ⟨rfl, by rw [allN, hb, hc]; rfl⟩, rfl⟩
  · obtain ⟨rfl, hb⟩ := hb
    show f_Md_holds_L2 75 a k (n + 1) h _ = _
    rw [f_Md_holds_L2, chk_t h1, w32_id (x := k + 3) (by omega) (by omega), chk_t (by omega), h3, hm, if_pos (by omega), chk_t (Or.inr rfl), hb]
    rfl
theorem s_Md_hR (B : MH h t row X e) (W : WS t) {r : Int} (h0 : 0 ≤ r) (h1 : r < nr t) : f_Md_holds h 75 76 (41 + 16 * r) = some ((0, b2i (hR t row r)), h) := by
  have hn := W.2.1
  obtain ⟨w1, w2, w3, w4, w5, w6⟩ := W.2.2.2.2.2.2 r h0 h1
  have hb := W.1
  have e1 : 41 + 16 * r + 3 = 44 + 16 * r := by omega
  rw [s_Md_holds B (m := rn t r) B.T0 B.V0 (by omega) (by omega) (by rw [e1]; rfl) w5.1 w5.2 (by rw [B.L0]; omega) (by rw [B.L0]; omega) (fun f g0 g1 => by
    have := (w6 f g0 g1).1
    unfold fb at this
    rw [show 41 + 16 * r + 4 + 3 * f = 45 + 16 * r + 3 * f by omega]; omega)]
  congr 3
  unfold hR
  congr 1
  refine allN_congr fun f g0 g1 => ?_
  unfold fT fb fp fn
  rw [show 41 + 16 * r + 4 + 3 * f = 45 + 16 * r + 3 * f by omega, show 45 + 16 * r + 3 * f + 2 = 47 + 16 * r + 3 * f by omega, show 45 + 16 * r + 3 * f + 1 = 46 + 16 * r + 3 * f by omega]
theorem s_Md_isFree (B : MH h t row X e) {b : Int} (h0 : 0 ≤ b) (h1 : b < 9) : f_Md_isFree h 75 b = some ((0, b2i (fre row b)), h) := by
  unfold f_Md_isFree
  have HK : ∀ (g : ∀ k : Int, 0 ≤ k → k < b - 1 → row k = 0), (if b = 0 then f_Md_isFree_J42 h else chk (hpT h 75 = 12) (chk (hpT h (hpV h 75 17) = 21) (chk ((0 : Int) ≤ w32 (b - 1) ∧ w32 (b - 1) < hpL h (hpV h 75 17)) ((if hpV h (hpV h 75 17) (w32 (b - 1)) = 1 then f_Md_isFree_J42 h else chk (0 = (0 : Int) ∨ 0 = (1 : Int)) (some ((0, 0), h))))))) = some ((0, b2i (fre row b)), h) := by
    intro g
    unfold f_Md_isFree_J42 fre
    by_cases e1 : b = 0
    · rw [if_pos e1, chk_t (Or.inr rfl), decide_eq_true e1]; rfl
    · rw [if_neg e1, chk_t B.T, B.P17, chk_t B.T17, w32_id (by omega) (by omega), chk_t (by rw [B.L17]; omega), B.V17, decide_eq_false e1]
      have : allN (fun k => decide (row k = 0)) (b - 1).toNat = true := allN_iff.mpr fun k g0 g1 => decide_eq_true (g k g0 (by omega))
      rw [this]
      by_cases e2 : row (b - 1) = 1
      · rw [if_pos e2, chk_t (Or.inr rfl), decide_eq_true e2]; rfl
      · rw [if_neg e2, chk_t (Or.inl rfl), decide_eq_false e2]; rfl
  refine loop_r (F := fun n (x : Int) => f_Md_isFree_L2 _ 75 b n h x) (P := fun o => o = _) (fun i x => x = (i : Int) ∧ ∀ k : Int, 0 ≤ k → k < i → row k = 0) (b - 1).toNat (fun i hi x hx n => ?_) (fun x hx n => ?_) (i := 0) (b := 0) ⟨rfl, fun k g0 g1 => by omega⟩ (by omega) (by omega)
  · obtain ⟨rfl, hx⟩ := hx
    show f_Md_isFree_L2 _ 75 b (n + 1) h i = _ ∨ ∃ b', _ ∧ f_Md_isFree_L2 _ 75 b (n + 1) h i = _
    rw [f_Md_isFree_L2, w32_id (by omega) (by omega), if_neg (by omega), chk_t B.T, B.P17, chk_t B.T17, chk_t (by rw [B.L17]; omega), B.V17]
    by_cases e2 : row i = 0
    · right
      rw [if_pos e2, wtv, w32_n i (by omega)]
      refine ⟨_, ⟨rfl, fun k g0 g1 => ?_⟩, rfl⟩
      by_cases e3 : k = i
      · rw [e3]; exact e2
      · exact hx k g0 (by omega)
    · left
      rw [if_neg e2, chk_t (Or.inl rfl), (b2i_0 (b := fre row b)).mpr]
      unfold fre
      rw [decide_eq_false (show ¬ b = 0 by omega), Bool.false_or]
      have : allN (fun k => decide (row k = 0)) (b - 1).toNat = false := by
        rw [Bool.eq_false_iff]; intro g
        exact e2 (of_decide_eq_true (allN_iff.mp g i (by omega) (by omega)))
      rw [this, Bool.and_false]
  · obtain ⟨rfl, hx⟩ := hx
    show f_Md_isFree_L2 _ 75 b (n + 1) h _ = _
    rw [f_Md_isFree_L2, w32_id (by omega) (by omega), if_pos (by omega)]
    have := HK (fun k g0 g1 => hx k g0 (by omega))
    rw [w32_id (by omega) (by omega)] at this
    exact this
end
