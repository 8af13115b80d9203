/-! A LOOP: what holds of its variables from turn to turn; P is what is to hold of what it comes to -/
theorem loop_r {β : Type} {F : Nat → β → Option mR} {P : Option mR → Prop} (R : Nat → β → Prop) (N : Nat)
    (hs : ∀ i, i < N → ∀ b, R i b → ∀ n, P (F (n + 1) b) ∨ ∃ b', R (i + 1) b' ∧ F (n + 1) b = F n b')
    (he : ∀ b, R N b → ∀ n, P (F (n + 1) b)) : ∀ {i f : Nat} {b : β}, R i b → i ≤ N → N - i < f → P (F f b) := by
  have H : ∀ m i f b, R i b → i ≤ N → N - i = m → m < f → P (F f b) := by
    intro m
    induction m with
    | zero =>
      intro i f b hR h1 h2 h3
      obtain ⟨f, rfl⟩ : ∃ g, f = g + 1 := ⟨f - 1, by omega⟩
      rw [show i = N by omega] at hR
      exact he b hR f
    | succ m ih =>
      intro i f b hR h1 h2 h3
      obtain ⟨f, rfl⟩ : ∃ g, f = g + 1 := ⟨f - 1, by omega⟩
      rcases hs i (by omega) b hR f with h | ⟨b', h4, h5⟩
      · exact h
      · rw [h5]; exact ih (i + 1) f b' h4 (by omega) (by omega) (by omega)
  intro i f b hR h1 h2
  exact H (N - i) i f b hR h1 rfl h2
theorem w32_s {i : Int} (h0 : 0 ≤ i) (h1 : i < 2147483647) : w32 (i + 1) = i + 1 := w32_id (by omega) (by omega)
theorem w32_n (i : Nat) (h1 : i < 2147483647) : w32 ((i : Int) + 1) = ((i + 1 : Nat) : Int) := by rw [w32_id] <;> omega
/-- a box in the heap, that holds what t tells -/
def BH (h : mH) (q : Int) (t : tT) : Prop := hpT h q = 1 ∧ hpV h q 1 = t 0 ∧ hpV h q 2 = nb t ∧ hpV h q 3 = nr t ∧ hpV h q 4 = ne t ∧ hpV h q 5 = we t ∧ hpT h (hpV h q 6) = 21 ∧ hpL h (hpV h q 6) = 9 ∧ (∀ b, 0 ≤ b → b < nb t → hpV h (hpV h q 6) b = pl t b) ∧ hpT h (hpV h q 7) = 21 ∧ hpL h (hpV h q 7) = 9 ∧ (∀ b, 0 ≤ b → b < nb t → hpV h (hpV h q 7) b = ps t b) ∧ hpT h (hpV h q 8) = 21 ∧ hpL h (hpV h q 8) = 9 ∧ (∀ b, 0 ≤ b → b < nb t → hpV h (hpV h q 8) b = po t b) ∧ hpT h (hpV h q 9) = 21 ∧ hpL h (hpV h q 9) = 9 ∧ (∀ b, 0 ≤ b → b < nb t → hpV h (hpV h q 9) b = pa t b) ∧ hpT h (hpV h q 10) = 21 ∧ hpL h (hpV h q 10) = 9 ∧ (∀ b, 0 ≤ b → b < nb t → hpV h (hpV h q 10) b = md t b) ∧ hpT h (hpV h q 11) = 21 ∧ hpL h (hpV h q 11) = 24 ∧ (∀ r, 0 ≤ r → r < nr t → hpV h (hpV h q 11) r = rb t r) ∧ hpT h (hpV h q 12) = 21 ∧ hpL h (hpV h q 12) = 24 ∧ (∀ r, 0 ≤ r → r < nr t → hpV h (hpV h q 12) r = rf t r) ∧ hpT h (hpV h q 13) = 21 ∧ hpL h (hpV h q 13) = 24 ∧ (∀ r, 0 ≤ r → r < nr t → hpV h (hpV h q 13) r = rt t r) ∧ hpT h (hpV h q 14) = 21 ∧ hpL h (hpV h q 14) = 24 ∧ (∀ r, 0 ≤ r → r < nr t → hpV h (hpV h q 14) r = rn t r) ∧ hpT h (hpV h q 15) = 21 ∧ hpL h (hpV h q 15) = 96 ∧ (∀ r f, 0 ≤ r → r < nr t → 0 ≤ f → f < rn t r → hpV h (hpV h q 15) (4 * r + f) = fb t r f) ∧ hpT h (hpV h q 16) = 21 ∧ hpL h (hpV h q 16) = 96 ∧ (∀ r f, 0 ≤ r → r < nr t → 0 ≤ f → f < rn t r → hpV h (hpV h q 16) (4 * r + f) = fp t r f) ∧ hpT h (hpV h q 17) = 21 ∧ hpL h (hpV h q 17) = 96 ∧ (∀ r f, 0 ≤ r → r < nr t → 0 ≤ f → f < rn t r → hpV h (hpV h q 17) (4 * r + f) = fn t r f)
theorem BH.T {h : mH} {q : Int} {t : tT} (B : BH h q t) : hpT h q = 1 := B.1
theorem BH.s1 {h : mH} {q : Int} {t : tT} (B : BH h q t) : hpV h q 1 = t 0 := B.2.1
theorem BH.s2 {h : mH} {q : Int} {t : tT} (B : BH h q t) : hpV h q 2 = nb t := B.2.2.1
theorem BH.s3 {h : mH} {q : Int} {t : tT} (B : BH h q t) : hpV h q 3 = nr t := B.2.2.2.1
theorem BH.s4 {h : mH} {q : Int} {t : tT} (B : BH h q t) : hpV h q 4 = ne t := B.2.2.2.2.1
theorem BH.s5 {h : mH} {q : Int} {t : tT} (B : BH h q t) : hpV h q 5 = we t := B.2.2.2.2.2.1
theorem BH.T6 {h : mH} {q : Int} {t : tT} (B : BH h q t) : hpT h (hpV h q 6) = 21 := B.2.2.2.2.2.2.1
theorem BH.L6 {h : mH} {q : Int} {t : tT} (B : BH h q t) : hpL h (hpV h q 6) = 9 := B.2.2.2.2.2.2.2.1
theorem BH.V6 {h : mH} {q : Int} {t : tT} (B : BH h q t) : ∀ b, 0 ≤ b → b < nb t → hpV h (hpV h q 6) b = pl t b := B.2.2.2.2.2.2.2.2.1
theorem BH.T7 {h : mH} {q : Int} {t : tT} (B : BH h q t) : hpT h (hpV h q 7) = 21 := B.2.2.2.2.2.2.2.2.2.1
theorem BH.L7 {h : mH} {q : Int} {t : tT} (B : BH h q t) : hpL h (hpV h q 7) = 9 := B.2.2.2.2.2.2.2.2.2.2.1
theorem BH.V7 {h : mH} {q : Int} {t : tT} (B : BH h q t) : ∀ b, 0 ≤ b → b < nb t → hpV h (hpV h q 7) b = ps t b := B.2.2.2.2.2.2.2.2.2.2.2.1
theorem BH.T8 {h : mH} {q : Int} {t : tT} (B : BH h q t) : hpT h (hpV h q 8) = 21 := B.2.2.2.2.2.2.2.2.2.2.2.2.1
theorem BH.L8 {h : mH} {q : Int} {t : tT} (B : BH h q t) : hpL h (hpV h q 8) = 9 := B.2.2.2.2.2.2.2.2.2.2.2.2.2.1
theorem BH.V8 {h : mH} {q : Int} {t : tT} (B : BH h q t) : ∀ b, 0 ≤ b → b < nb t → hpV h (hpV h q 8) b = po t b := B.2.2.2.2.2.2.2.2.2.2.2.2.2.2.1
theorem BH.T9 {h : mH} {q : Int} {t : tT} (B : BH h q t) : hpT h (hpV h q 9) = 21 := B.2.2.2.2.2.2.2.2.2.2.2.2.2.2.2.1
theorem BH.L9 {h : mH} {q : Int} {t : tT} (B : BH h q t) : hpL h (hpV h q 9) = 9 := B.2.2.2.2.2.2.2.2.2.2.2.2.2.2.2.2.1
theorem BH.V9 {h : mH} {q : Int} {t : tT} (B : BH h q t) : ∀ b, 0 ≤ b → b < nb t → hpV h (hpV h q 9) b = pa t b := B.2.2.2.2.2.2.2.2.2.2.2.2.2.2.2.2.2.1
theorem BH.T10 {h : mH} {q : Int} {t : tT} (B : BH h q t) : hpT h (hpV h q 10) = 21 := B.2.2.2.2.2.2.2.2.2.2.2.2.2.2.2.2.2.2.1
theorem BH.L10 {h : mH} {q : Int} {t : tT} (B : BH h q t) : hpL h (hpV h q 10) = 9 := B.2.2.2.2.2.2.2.2.2.2.2.2.2.2.2.2.2.2.2.1
theorem BH.V10 {h : mH} {q : Int} {t : tT} (B : BH h q t) : ∀ b, 0 ≤ b → b < nb t → hpV h (hpV h q 10) b = md t b := B.2.2.2.2.2.2.2.2.2.2.2.2.2.2.2.2.2.2.2.2.1
theorem BH.T11 {h : mH} {q : Int} {t : tT} (B : BH h q t) : hpT h (hpV h q 11) = 21 := B.2.2.2.2.2.2.2.2.2.2.2.2.2.2.2.2.2.2.2.2.2.1
theorem BH.L11 {h : mH} {q : Int} {t : tT} (B : BH h q t) : hpL h (hpV h q 11) = 24 := B.2.2.2.2.2.2.2.2.2.2.2.2.2.2.2.2.2.2.2.2.2.2.1
theorem BH.V11 {h : mH} {q : Int} {t : tT} (B : BH h q t) : ∀ r, 0 ≤ r → r < nr t → hpV h (hpV h q 11) r = rb t r := B.2.2.2.2.2.2.2.2.2.2.2.2.2.2.2.2.2.2.2.2.2.2.2.1
theorem BH.T12 {h : mH} {q : Int} {t : tT} (B : BH h q t) : hpT h (hpV h q 12) = 21 := B.2.2.2.2.2.2.2.2.2.2.2.2.2.2.2.2.2.2.2.2.2.2.2.2.1
theorem BH.L12 {h : mH} {q : Int} {t : tT} (B : BH h q t) : hpL h (hpV h q 12) = 24 := B.2.2.2.2.2.2.2.2.2.2.2.2.2.2.2.2.2.2.2.2.2.2.2.2.2.1
theorem BH.V12 {h : mH} {q : Int} {t : tT} (B : BH h q t) : ∀ r, 0 ≤ r → r < nr t → hpV h (hpV h q 12) r = rf t r := B.2.2.2.2.2.2.2.2.2.2.2.2.2.2.2.2.2.2.2.2.2.2.2.2.2.2.1
theorem BH.T13 {h : mH} {q : Int} {t : tT} (B : BH h q t) : hpT h (hpV h q 13) = 21 := B.2.2.2.2.2.2.2.2.2.2.2.2.2.2.2.2.2.2.2.2.2.2.2.2.2.2.2.1
theorem BH.L13 {h : mH} {q : Int} {t : tT} (B : BH h q t) : hpL h (hpV h q 13) = 24 := B.2.2.2.2.2.2.2.2.2.2.2.2.2.2.2.2.2.2.2.2.2.2.2.2.2.2.2.2.1
theorem BH.V13 {h : mH} {q : Int} {t : tT} (B : BH h q t) : ∀ r, 0 ≤ r → r < nr t → hpV h (hpV h q 13) r = rt t r := B.2.2.2.2.2.2.2.2.2.2.2.2.2.2.2.2.2.2.2.2.2.2.2.2.2.2.2.2.2.1
theorem BH.T14 {h : mH} {q : Int} {t : tT} (B : BH h q t) : hpT h (hpV h q 14) = 21 := B.2.2.2.2.2.2.2.2.2.2.2.2.2.2.2.2.2.2.2.2.2.2.2.2.2.2.2.2.2.2.1
theorem BH.L14 {h : mH} {q : Int} {t : tT} (B : BH h q t) : hpL h (hpV h q 14) = 24 := B.2.2.2.2.2.2.2.2.2.2.2.2.2.2.2.2.2.2.2.2.2.2.2.2.2.2.2.2.2.2.2.1
theorem BH.V14 {h : mH} {q : Int} {t : tT} (B : BH h q t) : ∀ r, 0 ≤ r → r < nr t → hpV h (hpV h q 14) r = rn t r := B.2.2.2.2.2.2.2.2.2.2.2.2.2.2.2.2.2.2.2.2.2.2.2.2.2.2.2.2.2.2.2.2.1
theorem BH.T15 {h : mH} {q : Int} {t : tT} (B : BH h q t) : hpT h (hpV h q 15) = 21 := B.2.2.2.2.2.2.2.2.2.2.2.2.2.2.2.2.2.2.2.2.2.2.2.2.2.2.2.2.2.2.2.2.2.1
theorem BH.L15 {h : mH} {q : Int} {t : tT} (B : BH h q t) : hpL h (hpV h q 15) = 96 := B.2.2.2.2.2.2.2.2.2.2.2.2.2.2.2.2.2.2.2.2.2.2.2.2.2.2.2.2.2.2.2.2.2.2.1
theorem BH.V15 {h : mH} {q : Int} {t : tT} (B : BH h q t) : ∀ r f, 0 ≤ r → r < nr t → 0 ≤ f → f < rn t r → hpV h (hpV h q 15) (4 * r + f) = fb t r f := B.2.2.2.2.2.2.2.2.2.2.2.2.2.2.2.2.2.2.2.2.2.2.2.2.2.2.2.2.2.2.2.2.2.2.2.1
theorem BH.T16 {h : mH} {q : Int} {t : tT} (B : BH h q t) : hpT h (hpV h q 16) = 21 := B.2.2.2.2.2.2.2.2.2.2.2.2.2.2.2.2.2.2.2.2.2.2.2.2.2.2.2.2.2.2.2.2.2.2.2.2.1
theorem BH.L16 {h : mH} {q : Int} {t : tT} (B : BH h q t) : hpL h (hpV h q 16) = 96 := B.2.2.2.2.2.2.2.2.2.2.2.2.2.2.2.2.2.2.2.2.2.2.2.2.2.2.2.2.2.2.2.2.2.2.2.2.2.1
theorem BH.V16 {h : mH} {q : Int} {t : tT} (B : BH h q t) : ∀ r f, 0 ≤ r → r < nr t → 0 ≤ f → f < rn t r → hpV h (hpV h q 16) (4 * r + f) = fp t r f := B.2.2.2.2.2.2.2.2.2.2.2.2.2.2.2.2.2.2.2.2.2.2.2.2.2.2.2.2.2.2.2.2.2.2.2.2.2.2.1
theorem BH.T17 {h : mH} {q : Int} {t : tT} (B : BH h q t) : hpT h (hpV h q 17) = 21 := B.2.2.2.2.2.2.2.2.2.2.2.2.2.2.2.2.2.2.2.2.2.2.2.2.2.2.2.2.2.2.2.2.2.2.2.2.2.2.2.1
theorem BH.L17 {h : mH} {q : Int} {t : tT} (B : BH h q t) : hpL h (hpV h q 17) = 96 := B.2.2.2.2.2.2.2.2.2.2.2.2.2.2.2.2.2.2.2.2.2.2.2.2.2.2.2.2.2.2.2.2.2.2.2.2.2.2.2.2.1
theorem BH.V17 {h : mH} {q : Int} {t : tT} (B : BH h q t) : ∀ r f, 0 ≤ r → r < nr t → 0 ≤ f → f < rn t r → hpV h (hpV h q 17) (4 * r + f) = fn t r f := B.2.2.2.2.2.2.2.2.2.2.2.2.2.2.2.2.2.2.2.2.2.2.2.2.2.2.2.2.2.2.2.2.2.2.2.2.2.2.2.2.2
section
variable {h : mH} {q : Int} {t : tT}
theorem s_Box_placesOf (B : BH h q t) (W : WS t) (b : Int) : f_Box_placesOf h q b = some ((0, if 0 ≤ b ∧ b < nb t then pl t b else 0), h) := by
  have := W.1
  unfold f_Box_placesOf f_Box_placesOf_J21
  by_cases h0 : b < 0
  · rw [if_pos h0, if_neg (by omega)]
  · rw [if_neg h0, chk_t B.T, B.s2]
    by_cases h1 : nb t ≤ b
    · rw [if_pos h1, if_neg (by omega)]
    · rw [if_neg h1, chk_t B.T, chk_t B.T6, chk_t (by rw [B.L6]; omega), B.V6 b (by omega) (by omega), if_pos (by omega)]
theorem s_Box_standCount (B : BH h q t) (W : WS t) : f_Box_standCount h q = some ((0, nS t), h) := by
  have hn := W.1
  unfold f_Box_standCount
  refine loop_r (F := fun n (b : Int × Int) => f_Box_standCount_L4 q n h b.1 b.2) (P := fun o => o = some ((0, nS t), h)) (fun i b => b = (pw t i, (i : Int))) (nb t).toNat (fun i hi b hb n => ?_) (fun b hb n => ?_) (i := 0) (b := (1, 0)) rfl (by omega) (by omega)
  · subst hb
    refine Or.inr ⟨_, rfl, ?_⟩
    show f_Box_standCount_L4 q (n + 1) h (pw t i) i = f_Box_standCount_L4 q n h (pw t (i + 1)) ((i + 1 : Nat) : Int)
    rw [f_Box_standCount_L4, chk_t B.T, B.s2, if_neg (by omega), chk_t B.T, chk_t B.T6, chk_t (by rw [B.L6]; omega), B.V6 i (by omega) (by omega)]
    have e := pw_mono W.pp (show i + 1 ≤ (nb t).toNat by omega)
    have e2 := pw_pos (W.pp.mono (show i + 1 ≤ (nb t).toNat by omega))
    have e3 := nS_rng W
    unfold nS at e3
    rw [wtv, wtv, show w32 (pw t i * pl t i) = pw t (i + 1) from w32_id (by show _ ≤ pw t (i + 1); omega) (by show pw t (i + 1) < _; omega), w32_n i (by omega)]
  · subst hb
    show f_Box_standCount_L4 q (n + 1) h (pw t (nb t).toNat) ((nb t).toNat : Int) = _
    rw [f_Box_standCount_L4, chk_t B.T, B.s2, if_pos (by omega)]; rfl
/-- a row of places in the heap -/
def RH (h : mH) (a : Int) (n : Int) (row : Int → Int) : Prop := hpT h a = 21 ∧ 9 ≤ hpL h a ∧ ∀ b, 0 ≤ b → b < n → hpV h a b = row b
theorem s_Box_standOf (B : BH h q t) (W : WS t) {a : Int} {row : Int → Int} (Q : RH h a (nb t) row) (R : RW t row) : f_Box_standOf h q a = some ((0, st t row), h) := by
  have hn := W.1
  have hS := nS_rng W
  unfold f_Box_standOf
  rw [chk_t B.T, B.s2, wtv, w32_id (by omega) (by omega)]
  have hst := st_rng W R
  refine loop_r (F := fun n (b : Int × Int) => f_Box_standOf_L9 q a n h b.1 b.2) (P := fun o => o = some ((0, st t row), h)) (fun i b => b.2 = nb t - 1 - i ∧ 0 ≤ b.1 ∧ b.1 * pw t (nb t - i).toNat + sd t row (nb t - i).toNat = st t row) (nb t).toNat (fun i hi b hb n => ?_) (fun b hb n => ?_) (i := 0) (b := (0, nb t - 1)) ?_ (by omega) (by omega)
  · obtain ⟨s, j⟩ := b
    obtain ⟨h1, h2, h3⟩ := hb
    have h1 : j = nb t - 1 - i := h1
    have h2 : 0 ≤ s := h2
    have h3 : s * pw t (nb t - i).toNat + sd t row (nb t - i).toNat = st t row := h3
    have hj : (nb t - i).toNat = j.toNat + 1 := by omega
    rw [hj] at h3
    have hp := W.2.2.2.2.2.1 j (by omega) (by omega)
    have hr := R j (by omega) (by omega)
    have hw := pw_pos (W.pp.mono (show j.toNat ≤ (nb t).toNat by omega))
    have hd := sd_rng (W.pp.mono (show j.toNat ≤ (nb t).toNat by omega)) (fun k hk => R.rn k (by omega))
    have ej : ((j.toNat : Nat) : Int) = j := by omega
    have h4 : (s * pl t j + row j) * pw t j.toNat + sd t row j.toNat = st t row := by
      rw [← h3]
      show _ = s * (pw t j.toNat * pl t (j.toNat : Nat)) + (sd t row j.toNat + row (j.toNat : Nat) * pw t j.toNat)
      rw [ej, Int.add_mul, Int.mul_assoc, Int.mul_comm (pl t j)]
      omega
    have h5 : 0 ≤ s * pl t j := Int.mul_nonneg h2 (by omega)
    have h6 : (s * pl t j + row j) * 1 ≤ (s * pl t j + row j) * pw t j.toNat := Int.mul_le_mul_of_nonneg_left hw (by omega)
    refine Or.inr ⟨(s * pl t j + row j, j - 1), ⟨by show j - 1 = _; omega, by show 0 ≤ s * pl t j + row j; omega, ?_⟩, ?_⟩
    · show (s * pl t j + row j) * pw t (nb t - (i + 1 : Nat)).toNat + sd t row (nb t - (i + 1 : Nat)).toNat = st t row
      rw [show (nb t - (i + 1 : Nat)).toNat = j.toNat by omega]; exact h4
    · show f_Box_standOf_L9 q a (n + 1) h s j = f_Box_standOf_L9 q a n h (s * pl t j + row j) (j - 1)
      have := Q.2.1
      rw [f_Box_standOf_L9, if_neg (by omega), chk_t B.T, chk_t B.T6, chk_t (by rw [B.L6]; omega), chk_t Q.1, chk_t (by omega), B.V6 j (by omega) (by omega), Q.2.2 j (by omega) (by omega), wtv, wtv, w32_id (x := s * pl t j) (by omega) (by omega), w32_id (by omega) (by omega), w32_id (by omega) (by omega)]
      rfl
  · obtain ⟨s, j⟩ := b
    obtain ⟨h1, h2, h3⟩ := hb
    have h1 : j = nb t - 1 - (nb t).toNat := h1
    have h3 : s * pw t (nb t - (nb t).toNat).toNat + sd t row (nb t - (nb t).toNat).toNat = st t row := h3
    rw [show (nb t - (nb t).toNat).toNat = 0 by omega] at h3
    show f_Box_standOf_L9 q a (n + 1) h s j = _
    rw [f_Box_standOf_L9, if_pos (by omega), ← h3]
    show some ((0, s), h) = some ((0, s * 1 + 0), h)
    rw [Int.mul_one, Int.add_zero]
  · refine ⟨by show nb t - 1 = _; omega, Int.le_refl _, ?_⟩
    show 0 * _ + sd t row (nb t - (0 : Nat)).toNat = st t row
    rw [Int.zero_mul, Int.zero_add, show (nb t - (0 : Nat)).toNat = (nb t).toNat by omega]; rfl
theorem s_Box_placeOf (B : BH h q t) (W : WS t) {s b : Int} (hs0 : 0 ≤ s) (hs1 : s < 2147483648) (h0 : 0 ≤ b) (h1 : b < nb t) : f_Box_placeOf h q s b = some ((0, dg t s b), h) := by
  have hn := W.1
  unfold f_Box_placeOf
  refine loop_r (F := fun n (x : Int × Int) => f_Box_placeOf_L5 q b n h x.1 x.2) (P := fun o => o = some ((0, dg t s b), h)) (fun i x => x = (s / pw t i, (i : Int)) ∧ (i : Int) ≤ b) (b.toNat + 1) (fun i hi x hx n => ?_) (fun x hx n => ?_) (i := 0) (b := (s, 0)) ⟨by show _ = (s / 1, _); rw [Int.ediv_one]; rfl, by omega⟩ (by omega) (by omega)
  · obtain ⟨rfl, hx⟩ := hx
    have hp := W.2.2.2.2.2.1 i (by omega) (by omega)
    have hw := pw_pos (W.pp.mono (show i ≤ (nb t).toNat by omega))
    have hd : 0 ≤ s / pw t i := Int.ediv_nonneg hs0 (by omega)
    have hd2 : s / pw t i ≤ s := Int.ediv_le_self _ hs0
    show f_Box_placeOf_L5 q b (n + 1) h (s / pw t i) i = _ ∨ ∃ b', _ ∧ f_Box_placeOf_L5 q b (n + 1) h (s / pw t i) i = _
    rw [f_Box_placeOf_L5, chk_t B.T, B.s2, if_neg (by omega), chk_t B.T, chk_t B.T6, chk_t (by rw [B.L6]; omega), B.V6 i (by omega) (by omega), wtv, if_pos (by omega)]
    by_cases e : (i : Int) = b
    · left
      rw [if_pos e, chk_t (by omega), Int.tmod_eq_emod_of_nonneg hd]
      unfold dg wg
      rw [← e, Int.toNat_natCast]
    · right
      rw [if_neg e, chk_t (by omega), Int.tdiv_eq_ediv_of_nonneg hd, wtv, wtv]
      have e2 : 0 ≤ s / pw t i / pl t i := Int.ediv_nonneg hd (by omega)
      have e3 : s / pw t i / pl t i ≤ s / pw t i := Int.ediv_le_self _ hd
      refine ⟨_, ⟨rfl, by omega⟩, ?_⟩
      rw [w32_id (by omega) (by omega), w32_n i (by omega), Int.ediv_ediv_of_nonneg (by omega)]
      rfl
  · obtain ⟨rfl, hx⟩ := hx
    omega
theorem s_Box_isOpened (B : BH h q t) (W : WS t) : f_Box_isOpened h q = some ((0, if allN (fun b => decide (pa t b = po t b)) (nb t).toNat then 1 else 0), h) := by
  have hn := W.1
  unfold f_Box_isOpened
  refine loop_r (F := fun n (b : Int) => f_Box_isOpened_L2 q n h b) (P := fun o => o = _) (fun i b => b = (i : Int) ∧ allN (fun b => decide (pa t b = po t b)) i = true) (nb t).toNat (fun i hi b hb n => ?_) (fun b hb n => ?_) (i := 0) (b := 0) ⟨rfl, rfl⟩ (by omega) (by omega)
  · obtain ⟨rfl, hb⟩ := hb
    show f_Box_isOpened_L2 q (n + 1) h i = _ ∨ ∃ b', _ ∧ f_Box_isOpened_L2 q (n + 1) h i = _
    rw [f_Box_isOpened_L2, chk_t B.T, B.s2, if_neg (by omega), chk_t B.T, chk_t B.T9, chk_t (by rw [B.L9]; omega), chk_t B.T, chk_t B.T8, chk_t (by rw [B.L8]; omega), B.V9 i (by omega) (by omega), B.V8 i (by omega) (by omega)]
    by_cases e : pa t i = po t i
    · right
      rw [if_pos e, wtv, w32_n i (by omega)]
      exact ⟨_, ⟨rfl, by rw [allN, hb, decide_eq_true e]; rfl⟩, rfl⟩
    · left
      rw [if_neg e, chk_t (Or.inl rfl), if_neg]
      rw [allN_iff]
      intro g
      exact e (of_decide_eq_true (g i (by omega) (by omega)))
  · obtain ⟨rfl, hb⟩ := hb
    show f_Box_isOpened_L2 q (n + 1) h _ = _
    rw [f_Box_isOpened_L2, chk_t B.T, B.s2, if_pos (by omega), chk_t (Or.inr rfl), if_pos hb]
def wS (t : tT) (b : Int) : Bool := decide (0 < we t) && decide (we t ≤ md t b)
def b2i (b : Bool) : Int := if b = true then 1 else 0
theorem s_Box_isWorn (B : BH h q t) (W : WS t) (b : Int) : f_Box_isWorn h q b = some ((0, b2i (decide (0 ≤ b) && decide (b < nb t) && wS t b)), h) := by
  have hn := W.1
  unfold f_Box_isWorn f_Box_isWorn_J36 wS b2i
  by_cases h0 : b < 0
  · rw [if_pos h0, chk_t (Or.inl rfl), decide_eq_false (show ¬ 0 ≤ b by omega)]; rfl
  · rw [if_neg h0, chk_t B.T, B.s2, decide_eq_true (show 0 ≤ b by omega)]
    by_cases h1 : nb t ≤ b
    · rw [if_pos h1, chk_t (Or.inl rfl), decide_eq_false (show ¬ b < nb t by omega)]; rfl
    · rw [if_neg h1, chk_t B.T, B.s5, decide_eq_true (show b < nb t by omega)]
      by_cases h2 : we t ≤ 0
      · rw [if_pos h2, chk_t (Or.inl rfl), decide_eq_false (show ¬ 0 < we t by omega)]; rfl
      · rw [if_neg h2, chk_t B.T, chk_t B.T10, chk_t (by rw [B.L10]; omega), chk_t B.T, B.V10 b (by omega) (by omega), decide_eq_true (show 0 < we t by omega)]
        by_cases h3 : md t b < we t
        · rw [if_pos h3, chk_t (Or.inl rfl), decide_eq_false (show ¬ we t ≤ md t b by omega)]; rfl
        · rw [if_neg h3, chk_t (Or.inr rfl), decide_eq_true (show we t ≤ md t b by omega)]; rfl
theorem s_Box_digit {a : Int} {row : Int → Int} (Q : RH h a (nb t) row) (W : WS t) {b : Int} (h0 : 0 ≤ b) (h1 : b < nb t) : f_Box_digit h a b = some ((0, row b), h) := by
  have hn := W.1
  have := Q.2.1
  unfold f_Box_digit
  rw [if_neg (by omega), chk_t (by rw [Q.1]; exact Nat.le_refl _), if_neg (by omega), chk_t Q.1, chk_t (by omega), Q.2.2 b h0 h1]
theorem s_Box_holdsIn (B : BH h q t) (W : WS t) {a : Int} {row : Int → Int} (Q : RH h a (nb t) row) {r : Int} (h0 : 0 ≤ r) (h1 : r < nr t) : f_Box_holdsIn h q r a = some ((0, b2i (hR t row r)), h) := by
  have hn := W.2.1
  obtain ⟨w1, w2, w3, w4, w5, w6⟩ := W.2.2.2.2.2.2 r h0 h1
  unfold f_Box_holdsIn
  rw [wtv, w32_id (by omega) (by omega)]
  refine loop_r (F := fun n (b : Int) => f_Box_holdsIn_L7 q r a (r * 4) n h b) (P := fun o => o = _) (fun i b => b = 4 * r + i ∧ allN (fT t row r) i = true) (rn t r).toNat (fun i hi b hb n => ?_) (fun b hb n => ?_) (i := 0) (b := r * 4) ⟨by omega, rfl⟩ (by omega) (by omega)
  · obtain ⟨rfl, hb⟩ := hb
    have wf := w6 i (by omega) (by omega)
    show f_Box_holdsIn_L7 q r a (r * 4) (n + 1) h (4 * r + i) = _ ∨ ∃ b', _ ∧ f_Box_holdsIn_L7 q r a (r * 4) (n + 1) h (4 * r + i) = _
    rw [f_Box_holdsIn_L7, chk_t B.T, chk_t B.T14, chk_t (by rw [B.L14]; omega), B.V14 r h0 h1, w32_id (by omega) (by omega), if_neg (by omega), chk_t B.T, chk_t B.T15, chk_t (by rw [B.L15]; omega), B.V15 r i h0 h1 (by omega) (by omega), s_Box_digit Q W wf.1.1 wf.1.2, bndT_ok (by decide), chk_t B.T, chk_t B.T16, chk_t (by rw [B.L16]; omega), B.V16 r i h0 h1 (by omega) (by omega)]
    have e0 : ∀ s0 : Int, f_Box_holdsIn_J46 (f_Box_holdsIn_L7 q r a (r * 4) n) q (4 * r + i) s0 h = if s0 = (if fn t r i = 1 then 1 else 0) then some ((0, 0), h) else f_Box_holdsIn_L7 q r a (r * 4) n h (4 * r + (i + 1 : Nat)) := fun s0 => by
      unfold f_Box_holdsIn_J46 f_Box_holdsIn_J66
      rw [chk_t B.T, chk_t B.T17, chk_t (by rw [B.L17]; omega), B.V17 r i h0 h1 (by omega) (by omega), wtv, w32_id (by omega) (by omega), show 4 * r + (i : Int) + 1 = 4 * r + (i + 1 : Nat) by omega, chk_t (Or.inl rfl)]
      by_cases e : fn t r i = 1
      · rw [if_pos e, if_pos e]
      · rw [if_neg e, if_neg e]
    rw [e0, e0]
    by_cases hf : fT t row r i = true
    · right
      refine ⟨_, ⟨rfl, by rw [allN, hb, hf]; rfl⟩, ?_⟩
      unfold fT at hf
      by_cases e1 : row (fb t r i) = fp t r i
      · rw [if_pos e1, if_neg]
        rw [decide_eq_true e1] at hf
        rw [if_neg]
        · decide
        · intro e2; rw [e2] at hf; exact absurd hf (by decide)
      · rw [if_neg e1, if_neg]
        rw [decide_eq_false e1] at hf
        rw [if_pos]
        · decide
        · rcases wf.2.1 with e2 | e2
          · rw [e2] at hf; exact absurd hf (by decide)
          · exact e2
    · left
      rw [show hR t row r = false from Bool.eq_false_iff.mpr (fun g => hf (allN_iff.mp g i (by omega) (by omega)))]
      unfold fT at hf
      by_cases e1 : row (fb t r i) = fp t r i
      · rw [if_pos e1, if_pos]
        · rfl
        · rw [if_pos]
          rcases wf.2.1 with e2 | e2
          · rw [decide_eq_true e1, e2] at hf; exact absurd rfl hf
          · exact e2
      · rw [if_neg e1, if_pos]
        · rfl
        · rw [if_neg]
          intro e2
          rw [decide_eq_false e1, e2] at hf
          exact hf rfl
  · obtain ⟨rfl, hb⟩ := hb
    show f_Box_holdsIn_L7 q r a (r * 4) (n + 1) h _ = _
    rw [f_Box_holdsIn_L7, chk_t B.T, chk_t B.T14, chk_t (by rw [B.L14]; omega), B.V14 r h0 h1, w32_id (by omega) (by omega), if_pos (by omega), chk_t (Or.inr rfl), show hR t row r = true from hb]
    rfl
end
