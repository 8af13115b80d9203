def rv (t : tT) (r : Int) : Int := 2 * rb t r + (if rf t r < rt t r then 1 else 0)
theorem rld_rv {t : tT} (W : WS t) {row : Int → Int} {v : Int} (h0 : 0 ≤ v) : rld t (v / 2) (row (v / 2)) (tow row (v / 2) (v % 2)) = anyN (fun r => decide (row (rb t r) = rf t r) && decide (rv t r = v)) (nr t).toNat := by
  unfold rld
  refine anyN_congr fun r g0 g1 => ?_
  obtain ⟨w1, w2, w3, w4, -⟩ := W.2.2.2.2.2.2 r g0 (by omega)
  unfold mc rv tow
  rw [Bool.eq_iff_iff]
  simp only [Bool.and_eq_true, decide_eq_true_eq]
  constructor
  · rintro ⟨⟨e1, e2⟩, e3⟩
    rw [e1]
    refine ⟨e2.symm, ?_⟩
    split at e3 <;> split <;> omega
  · rintro ⟨e1, e2⟩
    have e3 : rb t r = v / 2 := by split at e2 <;> omega
    refine ⟨⟨e3, by rw [← e3]; exact e1.symm⟩, ?_⟩
    rw [← e3, e1]
    split at e2 <;> split <;> omega
theorem hld_rv {t : tT} (W : WS t) {row : Int → Int} {v : Int} (h0 : 0 ≤ v) : hld t row (v / 2) (row (v / 2)) (tow row (v / 2) (v % 2)) = anyN (fun r => (decide (row (rb t r) = rf t r) && decide (rv t r = v)) && hR t row r) (nr t).toNat := by
  unfold hld
  refine anyN_congr fun r g0 g1 => ?_
  congr 1
  obtain ⟨w1, w2, w3, w4, -⟩ := W.2.2.2.2.2.2 r g0 (by omega)
  unfold mc rv tow
  rw [Bool.eq_iff_iff]
  simp only [Bool.and_eq_true, decide_eq_true_eq]
  constructor
  · rintro ⟨⟨e1, e2⟩, e3⟩
    rw [e1]
    refine ⟨e2.symm, ?_⟩
    split at e3 <;> split <;> omega
  · rintro ⟨e1, e2⟩
    have e3 : rb t r = v / 2 := by split at e2 <;> omega
    refine ⟨⟨e3, by rw [← e3]; exact e1.symm⟩, ?_⟩
    rw [← e3, e1]
    split at e2 <;> split <;> omega
section
variable {h : mH} {q : Int} {t : tT}
theorem s_Box_shutIn (B : BH h q t) (W : WS t) {a : Int} {row : Int → Int} (Q : RH h a (nb t) row) : f_Box_shutIn h q a = some ((0, mkM (shu t row) (2 * nb t).toNat), h) := by
  have hn := W.2.1
  have hb := W.1
  unfold f_Box_shutIn
  refine loop_r (F := fun n (x : Int × Int × Int) => f_Box_shutIn_L7 (fun h1 x2 x3 => some ((0, qand x2 (qxor x3 ((-1)))), h1)) q a n h x.1 x.2.1 x.2.2) (P := fun o => o = _)
    (fun i x => x.2.2 = (i : Int) ∧ (∀ j : Nat, j < 32 → bt x.1 j = anyN (fun r => decide (row (rb t r) = rf t r) && decide (rv t r = j)) i) ∧ ∀ j : Nat, j < 32 → bt x.2.1 j = anyN (fun r => (decide (row (rb t r) = rf t r) && decide (rv t r = j)) && hR t row r) i)
    (nr t).toNat (fun i hi x hx n => ?_) (fun x hx n => ?_) (i := 0) (b := (0, 0, 0)) ⟨rfl, fun j _ => bt_0 j, fun j _ => bt_0 j⟩ (by omega) (by omega)
  · obtain ⟨x, y, r⟩ := x
    obtain ⟨h1, h2, h3⟩ := hx
    have h1 : r = (i : Int) := h1
    subst h1
    right
    obtain ⟨w1, w2, w3, w4, w5, -⟩ := W.2.2.2.2.2.2 i (by omega) (by omega)
    show ∃ b' : Int × Int × Int, _ ∧ f_Box_shutIn_L7 _ q a (n + 1) h x y i = _
    rw [f_Box_shutIn_L7, chk_t B.T, B.s3, if_neg (by omega), chk_t B.T, chk_t B.T11, chk_t (by rw [B.L11]; omega), B.V11 i (by omega) (by omega), s_Box_digit Q W w1.1 w1.2, bndT_ok (by decide), chk_t B.T, chk_t B.T12, chk_t (by rw [B.L12]; omega), B.V12 i (by omega) (by omega)]
    by_cases e : row (rb t i) = rf t i
    · have e59 : ∀ s0 : Int, qshl s0 (2 * rb t i) = qshl 1 (rv t i) → f_Box_shutIn_J59 (f_Box_shutIn_L7 (fun h1 x2 x3 => some ((0, qand x2 (qxor x3 ((-1)))), h1)) q a n) q a x y i s0 h = f_Box_shutIn_L7 (fun h1 x2 x3 => some ((0, qand x2 (qxor x3 ((-1)))), h1)) q a n h (qor x (qshl 1 (rv t i))) (qor y (if hR t row i = true then qshl 1 (rv t i) else 0)) ((i + 1 : Nat) : Int) := by
        intro s0 hs0
        unfold f_Box_shutIn_J59 f_Box_shutIn_J93 f_Box_shutIn_J95
        rw [chk_t B.T, chk_t B.T11, chk_t (by rw [B.L11]; omega), B.V11 i (by omega) (by omega)]
        simp only [wtv, w32_n i (by omega)]
        rw [w32_2b w1.1 (by omega), hs0, chk_t B.T, s_Box_holdsIn B W Q (by omega) (by omega), bndT_ok (by decide)]
        cases hR t row i <;> rfl
      have hv : 0 ≤ rv t i ∧ rv t i < 32 := by unfold rv; split <;> omega
      refine ⟨(qor x (qshl 1 (rv t i)), qor y (if hR t row i = true then qshl 1 (rv t i) else 0), ((i + 1 : Nat) : Int)), ⟨rfl, fun j hj => ?_, fun j hj => ?_⟩, ?_⟩
      · show bt (qor x (qshl 1 (rv t i))) j = _
        rw [bt_qor, h2 j hj, bt_shl1 hv.1 hv.2 hj, anyN, decide_eq_true e, Bool.true_and]
        congr 2; apply propext; exact ⟨Eq.symm, Eq.symm⟩
      · show bt (qor y (if hR t row i = true then qshl 1 (rv t i) else 0)) j = _
        rw [bt_qor, h3 j hj, anyN, decide_eq_true e, Bool.true_and]
        congr 1
        cases hR t row i
        · rw [if_neg (by decide), bt_0]; simp
        · rw [if_pos rfl, bt_shl1 hv.1 hv.2 hj, Bool.and_true]
          congr 1; apply propext; exact ⟨Eq.symm, Eq.symm⟩
      · rw [if_pos e, chk_t B.T, chk_t B.T13, chk_t (by rw [B.L13]; omega), B.V13 i (by omega) (by omega), chk_t B.T, chk_t B.T12, chk_t (by rw [B.L12]; omega)]
        by_cases g : rt t i ≤ rf t i
        · rw [if_pos g, e59]
          unfold rv; rw [if_neg (by omega), Int.add_zero]
        · rw [if_neg g, e59]
          unfold rv; rw [if_pos (by omega), qshl_2 (by omega) (by omega)]
    · refine ⟨(x, y, ((i + 1 : Nat) : Int)), ⟨rfl, fun j hj => ?_, fun j hj => ?_⟩, ?_⟩
      · rw [anyN, decide_eq_false e]; simp [h2 j hj]
      · rw [anyN, decide_eq_false e]; simp [h3 j hj]
      · rw [if_neg e]
        unfold f_Box_shutIn_J95
        rw [wtv, w32_n i (by omega)]
  · obtain ⟨x, y, r⟩ := x
    obtain ⟨h1, h2, h3⟩ := hx
    have h1 : r = ((nr t).toNat : Int) := h1
    show f_Box_shutIn_L7 _ q a (n + 1) h x y r = _
    rw [f_Box_shutIn_L7, chk_t B.T, B.s3, if_pos (by omega)]
    show some ((0, qand x (qxor y (-1))), h) = _
    rw [mkM_ext (f := shu t row) (n := (2 * nb t).toNat) (x := qand x (qxor y (-1))) (by omega) (qand_rng _ _)]
    intro i hi
    have h2 : bt x i = _ := h2 i hi
    have h3 : bt y i = _ := h3 i hi
    rw [bt_qand, bt_qxor, bt_m1 hi, Bool.xor_true, h2, h3, ← rld_rv W (by omega), ← hld_rv W (by omega)]
    unfold shu
    by_cases g : i < (2 * nb t).toNat
    · rw [decide_eq_true g, Bool.true_and]
    · rw [decide_eq_false g, Bool.false_and]
      have : rld t ((i : Int) / 2) (row ((i : Int) / 2)) (tow row ((i : Int) / 2) ((i : Int) % 2)) = false := by
        rw [Bool.eq_false_iff]
        intro g2
        unfold rld at g2
        rw [anyN_iff] at g2
        obtain ⟨r, g3, g4, g5⟩ := g2
        unfold mc at g5
        simp only [Bool.and_eq_true, decide_eq_true_eq] at g5
        have := (W.2.2.2.2.2.2 r g3 (by omega)).1
        omega
      rw [this]; rfl
theorem s_Box_whyNot (B : BH h q t) (W : WS t) (R : RW t (pa t)) {b up : Int} (hu : up = 0 ∨ up = 1) {X : tT} : f_Box_whyNot h q b up = some ((0, why t false X (pa t) (wS t) b up), h) := by
  have hn := W.1
  unfold f_Box_whyNot
  by_cases h0 : b < 0
  · rw [if_pos h0]; unfold why; rw [if_pos (Or.inl h0)]
  · rw [if_neg h0, chk_t B.T, B.s2]
    by_cases h1 : nb t ≤ b
    · rw [if_neg (by omega)]; unfold why; rw [if_pos (Or.inr h1)]
    · rw [if_pos (by omega), why_mask (by omega) (by omega) hu, chk_t B.T, chk_t B.T9, chk_t (by rw [B.L9]; omega), B.V9 b (by omega) (by omega)]
      have hr := R b (by omega) (by omega)
      have hp := W.2.2.2.2.2.1 b (by omega) (by omega)
      have Q : RH h (hpV h q 9) (nb t) (pa t) := ⟨B.T9, by rw [B.L9]; exact Int.le_refl _, B.V9⟩
      have e56 : ∀ s0 : Int, qshl s0 (2 * b) = qshl 1 (2 * b + up) → f_Box_whyNot_J56 q b s0 h = some ((0, if abl t (pa t) (2 * b + up) = false then 3 else if (shu t (pa t) (2 * b + up) && !wS t b) = true then 4 else 0), h) := by
        intro s0 hs0
        unfold f_Box_whyNot_J56 f_Box_whyNot_J104
        rw [wtv, w32_2b (by omega) (by omega), hs0, chk_t B.T, chk_t B.T, s_Box_ableIn B W Q R, bndT_ok (by decide)]
        by_cases g : abl t (pa t) (2 * b + up) = false
        · rw [if_pos ((qand_bit (by omega) (by omega) (by omega)).mpr g), if_pos g]
        · rw [if_neg (fun x => g ((qand_bit (by omega) (by omega) (by omega)).mp x)), if_neg g, chk_t B.T, chk_t B.T, s_Box_shutIn B W Q, bndT_ok (by decide)]
          by_cases g2 : shu t (pa t) (2 * b + up) = false
          · rw [if_pos ((qand_bit (by omega) (by omega) (by omega)).mpr g2), g2]; rfl
          · have g3 : shu t (pa t) (2 * b + up) = true := by
              cases hh : shu t (pa t) (2 * b + up)
              · exact absurd hh g2
              · rfl
            rw [if_neg (fun x => g2 ((qand_bit (by omega) (by omega) (by omega)).mp x)), chk_t B.T, s_Box_isWorn B W, bndT_ok (by decide), decide_eq_true (show 0 ≤ b by omega), decide_eq_true (show b < nb t by omega), g3]
            cases wS t b <;> rfl
      have e29 : ∀ s1 : Int, pa t b + s1 = tow (pa t) b up → (s1 = 1 ∨ s1 = -1) → f_Box_whyNot_J29 q b up (pa t b) s1 h = some ((0, if tow (pa t) b up < 0 ∨ pl t b ≤ tow (pa t) b up then 2 else if abl t (pa t) (2 * b + up) = false then 3 else if (shu t (pa t) (2 * b + up) && !wS t b) = true then 4 else 0), h) := by
        intro s1 hs1 hs2
        unfold f_Box_whyNot_J29
        rw [wtv, w32_id (by omega) (by omega), hs1]
        by_cases g : tow (pa t) b up < 0
        · rw [if_pos g, if_pos (Or.inl g)]
        · rw [if_neg g, chk_t B.T, chk_t B.T6, chk_t (by rw [B.L6]; omega), B.V6 b (by omega) (by omega)]
          by_cases g2 : tow (pa t) b up < pl t b
          · rw [if_pos g2, if_neg (show ¬ (tow (pa t) b up < 0 ∨ pl t b ≤ tow (pa t) b up) by omega)]
            rcases hu with rfl | rfl
            · rw [if_pos rfl, e56 1 (by rw [Int.add_zero])]
            · rw [if_neg (by decide), e56 2 (qshl_2 (by omega) (by omega))]
          · rw [if_neg g2, if_pos (Or.inr (by omega))]
      rcases hu with rfl | rfl
      · rw [if_pos rfl, e29 (-1) (by unfold tow; rw [if_pos rfl]; omega) (Or.inr rfl)]
      · rw [if_neg (by decide), e29 1 (by unfold tow; rw [if_neg (by decide)]) (Or.inl rfl)]
theorem s_Box_wornBits (B : BH h q t) (W : WS t) : f_Box_wornBits h q = some ((0, mkM (fun v => wS t (v / 2)) (2 * nb t).toNat), h) := by
  have hn := W.1
  unfold f_Box_wornBits
  refine loop_r (F := fun n (x : Int × Int) => f_Box_wornBits_L4 q n h x.1 x.2) (P := fun o => o = _) (fun i x => x.2 = (i : Int) ∧ (-2147483648 ≤ x.1 ∧ x.1 < 2147483648) ∧ ∀ j : Nat, j < 32 → bt x.1 j = (decide (j < 2 * i) && wS t ((j : Int) / 2))) (nb t).toNat (fun i hi x hx n => ?_) (fun x hx n => ?_) (i := 0) (b := (0, 0)) ⟨rfl, by decide, fun j _ => by show bt 0 j = _; rw [bt_0]; simp⟩ (by omega) (by omega)
  · obtain ⟨x, r⟩ := x
    obtain ⟨h1, h2, h3⟩ := hx
    have h1 : r = (i : Int) := h1
    have h3 : ∀ j : Nat, j < 32 → bt x j = (decide (j < 2 * i) && wS t ((j : Int) / 2)) := h3
    subst h1
    right
    show ∃ b' : Int × Int, _ ∧ f_Box_wornBits_L4 q (n + 1) h x i = _
    rw [f_Box_wornBits_L4, chk_t B.T, B.s2, if_neg (by omega), chk_t B.T, s_Box_isWorn B W, bndT_ok (by decide), decide_eq_true (show (0 : Int) ≤ i by omega), decide_eq_true (show (i : Int) < nb t by omega)]
    unfold f_Box_wornBits_J30
    simp only [wtv, w32_n i (by omega)]
    rw [w32_2b (by omega) (by omega)]
    refine ⟨(qor x (if wS t i = true then qshl 3 (2 * i) else 0), ((i + 1 : Nat) : Int)), ⟨rfl, qor_rng _ _, fun j hj => ?_⟩, ?_⟩
    · show bt (qor x (if wS t i = true then qshl 3 (2 * i) else 0)) j = _
      rw [bt_qor, h3 j hj]
      have e1 : bt (if wS t i = true then qshl 3 (2 * i) else 0) j = (decide ((j : Int) / 2 = i) && wS t i) := by
        cases wS t i
        · rw [if_neg (by decide), bt_0]; simp
        · rw [if_pos rfl, bt_shl3 (by omega) (by omega) hj, Bool.and_true]
      rw [e1]
      by_cases e : (j : Int) / 2 = i
      · rw [e, decide_eq_true rfl, decide_eq_false (show ¬ j < 2 * i by omega), decide_eq_true (show j < 2 * (i + 1) by omega)]; simp
      · rw [decide_eq_false e, show decide (j < 2 * (i + 1)) = decide (j < 2 * i) from by congr 1; apply propext; omega]; simp
    · cases wS t i <;> rfl
  · obtain ⟨x, r⟩ := x
    obtain ⟨h1, h2, h3⟩ := hx
    have h1 : r = ((nb t).toNat : Int) := h1
    show f_Box_wornBits_L4 q (n + 1) h x r = _
    rw [f_Box_wornBits_L4, chk_t B.T, B.s2, if_pos (by omega)]
    rw [mkM_ext (f := fun v => wS t (v / 2)) (n := (2 * nb t).toNat) (x := x) (by omega) h2]
    intro j hj
    rw [h3 j hj, show 2 * (nb t).toNat = (2 * nb t).toNat by omega]
/-- counts along a row -/
def cnN (P : Int → Bool) : Nat → Int
  | 0 => 0
  | n + 1 => cnN P n + (if P n = true then 1 else 0)
theorem cnN_rng (P : Int → Bool) : ∀ n : Nat, 0 ≤ cnN P n ∧ cnN P n ≤ n
  | 0 => ⟨Int.le_refl _, Int.le_refl _⟩
  | n + 1 => by have := cnN_rng P n; show 0 ≤ cnN P n + _ ∧ cnN P n + _ ≤ ((n + 1 : Nat) : Int); split <;> omega
theorem s_Box_rulesOf (B : BH h q t) (W : WS t) (b : Int) : f_Box_rulesOf h q b = some ((0, cnN (fun r => decide (rb t r = b)) (nr t).toNat), h) := by
  have hn := W.2.1
  unfold f_Box_rulesOf
  refine loop_r (F := fun n (x : Int × Int) => f_Box_rulesOf_L4 q b n h x.1 x.2) (P := fun o => o = _) (fun i x => x = (cnN (fun r => decide (rb t r = b)) i, (i : Int))) (nr t).toNat (fun i hi x hx n => ?_) (fun x hx n => ?_) (i := 0) (b := (0, 0)) rfl (by omega) (by omega)
  · subst hx
    right
    refine ⟨_, rfl, ?_⟩
    show f_Box_rulesOf_L4 q b (n + 1) h (cnN (fun r => decide (rb t r = b)) i) i = f_Box_rulesOf_L4 q b n h (cnN (fun r => decide (rb t r = b)) i + (if decide (rb t i = b) = true then 1 else 0)) ((i + 1 : Nat) : Int)
    have := cnN_rng (fun r => decide (rb t r = b)) i
    rw [f_Box_rulesOf_L4, chk_t B.T, B.s3, if_neg (by omega), chk_t B.T, chk_t B.T11, chk_t (by rw [B.L11]; omega), B.V11 i (by omega) (by omega)]
    unfold f_Box_rulesOf_J28
    simp only [wtv, w32_n i (by omega)]
    by_cases e : rb t i = b
    · rw [if_pos e, if_pos (decide_eq_true e), w32_id (by omega) (by omega)]
    · rw [if_neg e, if_neg (by rw [decide_eq_false e]; decide), w32_id (by omega) (by omega)]
  · subst hx
    show f_Box_rulesOf_L4 q b (n + 1) h _ _ = _
    rw [f_Box_rulesOf_L4, chk_t B.T, B.s3, if_pos (by omega)]
theorem s_Box_hasRule (B : BH h q t) (W : WS t) (b f u : Int) : f_Box_hasRule h q b f u = some ((0, b2i (rld t b f u)), h) := by
  have hn := W.2.1
  unfold f_Box_hasRule
  refine loop_r (F := fun n (x : Int) => f_Box_hasRule_L3 q b f u n h x) (P := fun o => o = _) (fun i x => x = (i : Int) ∧ anyN (mc t b f u) i = false) (nr t).toNat (fun i hi x hx n => ?_) (fun x hx n => ?_) (i := 0) (b := 0) ⟨rfl, rfl⟩ (by omega) (by omega)
  · obtain ⟨rfl, hx⟩ := hx
    show f_Box_hasRule_L3 q b f u (n + 1) h i = _ ∨ ∃ b', _ ∧ f_Box_hasRule_L3 q b f u (n + 1) h i = _
    rw [f_Box_hasRule_L3, chk_t B.T, B.s3, if_neg (by omega), chk_t B.T, chk_t B.T11, chk_t (by rw [B.L11]; omega), B.V11 i (by omega) (by omega)]
    unfold f_Box_hasRule_J47
    rw [wtv, w32_n i (by omega)]
    have no : mc t b f u i = false → ((i + 1 : Nat) : Int) = ((i + 1 : Nat) : Int) ∧ anyN (mc t b f u) (i + 1) = false := fun g => ⟨rfl, by rw [anyN, hx, g]; rfl⟩
    by_cases e1 : rb t i = b
    · rw [if_pos e1, chk_t B.T, chk_t B.T12, chk_t (by rw [B.L12]; omega), B.V12 i (by omega) (by omega)]
      by_cases e2 : rf t i = f
      · rw [if_pos e2, chk_t B.T, chk_t B.T13, chk_t (by rw [B.L13]; omega), B.V13 i (by omega) (by omega)]
        by_cases e3 : rt t i = u
        · left
          rw [if_pos e3, chk_t (Or.inr rfl), show rld t b f u = true from anyN_iff.mpr ⟨i, by omega, by omega, by unfold mc; rw [decide_eq_true e1, decide_eq_true e2, decide_eq_true e3]; rfl⟩]; rfl
        · right; rw [if_neg e3]; exact ⟨_, no (by unfold mc; rw [decide_eq_false e3]; simp), rfl⟩
      · right; rw [if_neg e2]; exact ⟨_, no (by unfold mc; rw [decide_eq_false e2]; simp), rfl⟩
    · right; rw [if_neg e1]; exact ⟨_, no (by unfold mc; rw [decide_eq_false e1]; simp), rfl⟩
  · obtain ⟨rfl, hx⟩ := hx
    show f_Box_hasRule_L3 q b f u (n + 1) h _ = _
    rw [f_Box_hasRule_L3, chk_t B.T, B.s3, if_pos (by omega), chk_t (Or.inl rfl), show rld t b f u = false from hx]; rfl
def smN (f : Int → Int) : Nat → Int
  | 0 => 0
  | n + 1 => smN f n + f n
theorem smN_rng {f : Int → Int} {m : Int} : ∀ {n : Nat}, (∀ i : Int, 0 ≤ i → i < n → 0 ≤ f i ∧ f i ≤ m) → 0 ≤ smN f n ∧ smN f n ≤ n * m
  | 0, _ => ⟨Int.le_refl _, by show (0 : Int) ≤ ((0 : Nat) : Int) * m; simp⟩
  | n + 1, h => by
    have h1 := smN_rng (n := n) (fun i g0 g1 => h i g0 (by omega))
    have h2 := h n (by omega) (by omega)
    show 0 ≤ smN f n + f n ∧ smN f n + f n ≤ ((n + 1 : Nat) : Int) * m
    rw [Int.natCast_add, Int.add_mul]
    omega
theorem s_Box_stepsMade (B : BH h q t) (W : WS t) (hd : ∀ b, 0 ≤ b → b < nb t → 0 ≤ md t b ∧ md t b ≤ 100000) : f_Box_stepsMade h q = some ((0, smN (md t) (nb t).toNat), h) := by
  have hn := W.1
  unfold f_Box_stepsMade
  refine loop_r (F := fun n (x : Int × Int) => f_Box_stepsMade_L4 q n h x.1 x.2) (P := fun o => o = _) (fun i x => x = (smN (md t) i, (i : Int))) (nb t).toNat (fun i hi x hx n => ?_) (fun x hx n => ?_) (i := 0) (b := (0, 0)) rfl (by omega) (by omega)
  · subst hx
    right
    refine ⟨_, rfl, ?_⟩
    show f_Box_stepsMade_L4 q (n + 1) h (smN (md t) i) i = f_Box_stepsMade_L4 q n h (smN (md t) i + md t i) ((i + 1 : Nat) : Int)
    have h1 := smN_rng (f := md t) (m := 100000) (n := i) (fun j g0 g1 => hd j g0 (by omega))
    have h2 := hd i (by omega) (by omega)
    rw [f_Box_stepsMade_L4, chk_t B.T, B.s2, if_neg (by omega), chk_t B.T, chk_t B.T10, chk_t (by rw [B.L10]; omega), B.V10 i (by omega) (by omega)]
    rw [wtv, wtv, w32_n i (by omega), w32_id (by omega) (by omega)]
  · subst hx
    show f_Box_stepsMade_L4 q (n + 1) h _ _ = _
    rw [f_Box_stepsMade_L4, chk_t B.T, B.s2, if_pos (by omega)]
end
