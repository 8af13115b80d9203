/-! THE REFERENCE'S keys -/
theorem en_even {t : tT} {P : Int → Bool} {s : Int} : en t P (2 * s) = if anyN (fun v => gs t s v) (nK t) = false then P (2 * s + 1) else anyN (fun v => gs t s v && P (2 * (s + sf t v) + 1)) (nK t) := by
  unfold en en2 stp0 tg vx
  rw [show 2 * s / 2 = s by omega, if_pos (show 2 * s % 2 = 0 by omega), if_pos (show 2 * s % 2 = 0 by omega), show 2 * s % 2 = 0 by omega]
  rfl
theorem en_odd {t : tT} {P : Int → Bool} {s : Int} : en t P (2 * s + 1) = if anyN (fun v => gs t s v) (nK t) = false then P (2 * s) else allN (fun v => !gs t s v || P (2 * (s + sf t v))) (nK t) := by
  unfold en en2 stp0 tg vx
  rw [show (2 * s + 1) / 2 = s by omega, if_neg (show ¬ (2 * s + 1) % 2 = 0 by omega), if_neg (show ¬ (2 * s + 1) % 2 = 0 by omega), show (2 * s + 1) % 2 = 1 by omega, Int.add_sub_cancel]
  have e : (fun v => !gs t s v || P (2 * (s + sf t v) + (1 - 1))) = fun v => !gs t s v || P (2 * (s + sf t v)) := by
    funext v; rw [show 2 * (s + sf t v) + (1 - 1) = 2 * (s + sf t v) by omega]
  rw [e]
section
variable {h : mH} {c : Int} {p L : Int → Int} {M : aM} {t : tT}
theorem s_someLeads (A : At h c p L M) (I : RI M t) (hS2 : nS t ≤ 20000) (Q : LQ M t) {r s : Int} (h0 : 0 ≤ s) (h1 : s < nS t) {P : Int → Bool} (H : ∀ x, 0 ≤ x → x < nS t → ((M 95 x ≠ -1 ∧ M 95 x ≤ r) ↔ P (2 * x + 1) = true)) : f_Md_someLeads h 75 s 95 r = some ((0, b2i (en t P (2 * s))), h) := by
  have W := I.2.1
  have B := I.mh A
  have C := A.md
  have hk := nK_rng W
  have hk2 : ((nK t : Nat) : Int) = 2 * nb t := by unfold nK; have := W.1; omega
  rw [en_even]
  unfold f_Md_someLeads
  refine loop_r (F := fun n (b : Int × Int) => f_Md_someLeads_L6 (fun h1 x2 => (if x2 = 0 then chk (hpT h1 95 = 21) (chk (0 ≤ s ∧ s < hpL h1 95) ((if hpV h1 95 s = (-1) then f_Md_someLeads_J88 h1 else chk (hpT h1 95 = 21) (chk (0 ≤ s ∧ s < hpL h1 95) ((if r < hpV h1 95 s then f_Md_someLeads_J88 h1 else chk (1 = 0 ∨ 1 = (1 : Int)) (some ((0, 1), h1)))))))) else f_Md_someLeads_J88 h1)) 75 s 95 r n h b.1 b.2) (P := fun o => o = some ((0, b2i (if anyN (fun v => gs t s v) (nK t) = false then P (2 * s + 1) else anyN (fun v => gs t s v && P (2 * (s + sf t v) + 1)) (nK t))), h)) (fun v b => b.2 = (v : Int) ∧ b.1 = b2i (anyN (fun v => gs t s v) v) ∧ anyN (fun v => gs t s v && P (2 * (s + sf t v) + 1)) v = false) (nK t) (fun v hv b hb n => ?_) (fun b hb n => ?_) (i := 0) (b := (0, 0)) ⟨rfl, rfl, rfl⟩ (by omega) (by omega)
  · obtain ⟨e, r1⟩ := b
    obtain ⟨hr_, he_, ha⟩ := hb
    have hr1 : r1 = (v : Int) := hr_
    have he : e = b2i (anyN (fun v => gs t s v) v) := he_
    clear hr_ he_
    subst hr1
    have hx : w32 (w32 (18 * s) + (v : Int)) = 18 * s + v := by rw [w32_id (x := 18 * s) (by omega) (by omega), w32_id (by omega) (by omega)]
    have j59 : ∀ a, a = b2i (anyN (fun v => gs t s v) (v + 1)) → anyN (fun v => gs t s v && P (2 * (s + sf t v) + 1)) (v + 1) = false → ∃ b' : Int × Int, (b'.2 = ((v + 1 : Nat) : Int) ∧ b'.1 = b2i (anyN (fun v => gs t s v) (v + 1)) ∧ anyN (fun v => gs t s v && P (2 * (s + sf t v) + 1)) (v + 1) = false) ∧ f_Md_someLeads_J59 (f_Md_someLeads_L6 (fun h1 x2 => (if x2 = 0 then chk (hpT h1 95 = 21) (chk (0 ≤ s ∧ s < hpL h1 95) ((if hpV h1 95 s = (-1) then f_Md_someLeads_J88 h1 else chk (hpT h1 95 = 21) (chk (0 ≤ s ∧ s < hpL h1 95) ((if r < hpV h1 95 s then f_Md_someLeads_J88 h1 else chk (1 = 0 ∨ 1 = (1 : Int)) (some ((0, 1), h1)))))))) else f_Md_someLeads_J88 h1)) 75 s 95 r n) a v h = f_Md_someLeads_L6 (fun h1 x2 => (if x2 = 0 then chk (hpT h1 95 = 21) (chk (0 ≤ s ∧ s < hpL h1 95) ((if hpV h1 95 s = (-1) then f_Md_someLeads_J88 h1 else chk (hpT h1 95 = 21) (chk (0 ≤ s ∧ s < hpL h1 95) ((if r < hpV h1 95 s then f_Md_someLeads_J88 h1 else chk (1 = 0 ∨ 1 = (1 : Int)) (some ((0, 1), h1)))))))) else f_Md_someLeads_J88 h1)) 75 s 95 r n h b'.1 b'.2 := fun a ha1 ha2 => by
      refine ⟨(a, ((v + 1 : Nat) : Int)), ⟨rfl, ha1, ha2⟩, ?_⟩
      unfold f_Md_someLeads_J59; rw [wtv, w32_n v (by omega)]
    show f_Md_someLeads_L6 _ 75 s 95 r (n + 1) h e v = _ ∨ ∃ b' : Int × Int, _ ∧ f_Md_someLeads_L6 _ 75 s 95 r (n + 1) h e v = _
    rw [f_Md_someLeads_L6, chk_t B.T, s_Md_steps B W, bndT_ok (by decide), if_neg (by omega), hx]
    simp only [C]
    rw [chk_t trivial, chk_t trivial, chk_t (by omega), Q s v h0 h1 (by omega) (by omega), wtv]
    rcases nF_gs W (v := (v : Int)) h0 h1 with ⟨ex, eg⟩ | ⟨eg, ex, e0, e1_⟩
    · right
      rw [if_pos ex]
      exact j59 e (by rw [he, anyN, eg, Bool.or_false]) (by rw [anyN, ha, eg]; rfl)
    · have e1 := e1_
      rw [ex] at e0 e1
      have hH := H (s + sf t v) e0 e1
      have any1 : anyN (fun v => gs t s v) (v + 1) = true := by rw [anyN, eg, Bool.or_true]
      rw [if_neg (by omega), ex, chk_t trivial, chk_t (by omega)]
      have no : P (2 * (s + sf t v) + 1) = false → ∃ b' : Int × Int, (b'.2 = ((v + 1 : Nat) : Int) ∧ b'.1 = b2i (anyN (fun v => gs t s v) (v + 1)) ∧ anyN (fun v => gs t s v && P (2 * (s + sf t v) + 1)) (v + 1) = false) ∧ _ := fun q => j59 1 (by rw [any1]; rfl) (by rw [anyN, ha, eg, q]; rfl)
      by_cases g1 : M 95 (s + sf t v) = -1
      · right
        rw [if_pos g1]
        exact no (Bool.eq_false_iff.mpr (fun q => (hH.mpr q).1 g1))
      · rw [if_neg g1, chk_t trivial, chk_t (by omega)]
        by_cases g2 : r < M 95 (s + sf t v)
        · right
          rw [if_pos g2]
          exact no (Bool.eq_false_iff.mpr (fun q => by have := (hH.mpr q).2; omega))
        · left
          rw [if_neg g2, chk_t (by decide), if_neg (by rw [anyN_iff.mpr ⟨v, by omega, by omega, eg⟩]; decide), anyN_iff.mpr ⟨v, by omega, by omega, by show (gs t s v && P (2 * (s + sf t v) + 1)) = true; rw [eg, hH.mp ⟨g1, by omega⟩]; rfl⟩]
          rfl
  · obtain ⟨e, r1⟩ := b
    obtain ⟨hr_, he_, ha⟩ := hb
    have hr1 : r1 = ((nK t : Nat) : Int) := hr_
    have he : e = b2i (anyN (fun v => gs t s v) (nK t)) := he_
    clear hr_ he_
    subst hr1
    have hH := H s h0 h1
    show f_Md_someLeads_L6 _ 75 s 95 r (n + 1) h e _ = _
    rw [f_Md_someLeads_L6, chk_t B.T, s_Md_steps B W, bndT_ok (by decide), if_pos (show 2 * nb t ≤ ((nK t : Nat) : Int) by omega), he]
    unfold f_Md_someLeads_J88
    by_cases g : anyN (fun v => gs t s v) (nK t) = false
    · rw [if_pos g, g, if_pos (show b2i false = 0 from rfl)]
      simp only [C]
      rw [chk_t trivial, chk_t (by omega)]
      by_cases g1 : M 95 s = -1
      · rw [if_pos g1, chk_t (by decide), Bool.eq_false_iff.mpr (fun q => (hH.mpr q).1 g1)]; rfl
      · rw [if_neg g1, chk_t trivial, chk_t (by omega)]
        by_cases g2 : r < M 95 s
        · rw [if_pos g2, chk_t (by decide), show P (2 * s + 1) = false from Bool.eq_false_iff.mpr (fun q => by have := (hH.mpr q).2; omega)]; rfl
        · rw [if_neg g2, chk_t (by decide), hH.mp ⟨g1, by omega⟩]; rfl
    · rw [if_neg g, ha, (eq_true_of_ne_false g : anyN (fun v => gs t s v) (nK t) = true), if_neg (by decide), chk_t (by decide)]; rfl
theorem s_allLead (A : At h c p L M) (I : RI M t) (hS2 : nS t ≤ 20000) (Q : LQ M t) {r s : Int} (h0 : 0 ≤ s) (h1 : s < nS t) {P : Int → Bool} (H : ∀ x, 0 ≤ x → x < nS t → ((M 94 x ≠ -1 ∧ M 94 x ≤ r) ↔ P (2 * x) = true)) : f_Md_allLead h 75 s 94 r = some ((0, b2i (en t P (2 * s + 1))), h) := by
  have W := I.2.1
  have B := I.mh A
  have C := A.md
  have hk := nK_rng W
  have hk2 : ((nK t : Nat) : Int) = 2 * nb t := by unfold nK; have := W.1; omega
  rw [en_odd]
  unfold f_Md_allLead
  refine loop_r (F := fun n (b : Int × Int) => f_Md_allLead_L6 (fun h1 x2 => (if x2 = 0 then chk (hpT h1 94 = 21) (chk (0 ≤ s ∧ s < hpL h1 94) ((if hpV h1 94 s = (-1) then f_Md_allLead_J88 h1 else chk (hpT h1 94 = 21) (chk (0 ≤ s ∧ s < hpL h1 94) ((if r < hpV h1 94 s then f_Md_allLead_J88 h1 else f_Md_allLead_J84 h1)))))) else f_Md_allLead_J84 h1)) 75 s 94 r n h b.1 b.2) (P := fun o => o = some ((0, b2i (if anyN (fun v => gs t s v) (nK t) = false then P (2 * s) else allN (fun v => !gs t s v || P (2 * (s + sf t v))) (nK t))), h)) (fun v b => b.2 = (v : Int) ∧ b.1 = b2i (anyN (fun v => gs t s v) v) ∧ allN (fun v => !gs t s v || P (2 * (s + sf t v))) v = true) (nK t) (fun v hv b hb n => ?_) (fun b hb n => ?_) (i := 0) (b := (0, 0)) ⟨rfl, rfl, rfl⟩ (by omega) (by omega)
  · obtain ⟨e, r1⟩ := b
    obtain ⟨hr_, he_, ha⟩ := hb
    have hr1 : r1 = (v : Int) := hr_
    have he : e = b2i (anyN (fun v => gs t s v) v) := he_
    clear hr_ he_
    subst hr1
    have hx : w32 (w32 (18 * s) + (v : Int)) = 18 * s + v := by rw [w32_id (x := 18 * s) (by omega) (by omega), w32_id (by omega) (by omega)]
    have j59 : ∀ a, a = b2i (anyN (fun v => gs t s v) (v + 1)) → allN (fun v => !gs t s v || P (2 * (s + sf t v))) (v + 1) = true → ∃ b' : Int × Int, (b'.2 = ((v + 1 : Nat) : Int) ∧ b'.1 = b2i (anyN (fun v => gs t s v) (v + 1)) ∧ allN (fun v => !gs t s v || P (2 * (s + sf t v))) (v + 1) = true) ∧ f_Md_allLead_J59 (f_Md_allLead_L6 (fun h1 x2 => (if x2 = 0 then chk (hpT h1 94 = 21) (chk (0 ≤ s ∧ s < hpL h1 94) ((if hpV h1 94 s = (-1) then f_Md_allLead_J88 h1 else chk (hpT h1 94 = 21) (chk (0 ≤ s ∧ s < hpL h1 94) ((if r < hpV h1 94 s then f_Md_allLead_J88 h1 else f_Md_allLead_J84 h1)))))) else f_Md_allLead_J84 h1)) 75 s 94 r n) a v h = f_Md_allLead_L6 (fun h1 x2 => (if x2 = 0 then chk (hpT h1 94 = 21) (chk (0 ≤ s ∧ s < hpL h1 94) ((if hpV h1 94 s = (-1) then f_Md_allLead_J88 h1 else chk (hpT h1 94 = 21) (chk (0 ≤ s ∧ s < hpL h1 94) ((if r < hpV h1 94 s then f_Md_allLead_J88 h1 else f_Md_allLead_J84 h1)))))) else f_Md_allLead_J84 h1)) 75 s 94 r n h b'.1 b'.2 := fun a ha1 ha2 => by
      refine ⟨(a, ((v + 1 : Nat) : Int)), ⟨rfl, ha1, ha2⟩, ?_⟩
      unfold f_Md_allLead_J59; rw [wtv, w32_n v (by omega)]
    show f_Md_allLead_L6 _ 75 s 94 r (n + 1) h e v = _ ∨ ∃ b' : Int × Int, _ ∧ f_Md_allLead_L6 _ 75 s 94 r (n + 1) h e v = _
    rw [f_Md_allLead_L6, chk_t B.T, s_Md_steps B W, bndT_ok (by decide), if_neg (by omega), hx]
    simp only [C]
    rw [chk_t trivial, chk_t trivial, chk_t (by omega), Q s v h0 h1 (by omega) (by omega), wtv]
    rcases nF_gs W (v := (v : Int)) h0 h1 with ⟨ex, eg⟩ | ⟨eg, ex, e0, e1_⟩
    · right
      rw [if_pos ex]
      exact j59 e (by rw [he, anyN, eg, Bool.or_false]) (by rw [allN, ha, eg]; rfl)
    · have e1 := e1_
      rw [ex] at e0 e1
      have hH := H (s + sf t v) e0 e1
      have any1 : anyN (fun v => gs t s v) (v + 1) = true := by rw [anyN, eg, Bool.or_true]
      rw [if_neg (by omega), ex, chk_t trivial, chk_t (by omega)]
      have no : P (2 * (s + sf t v)) = false → (0 : Int) = b2i (if anyN (fun v => gs t s v) (nK t) = false then P (2 * s) else allN (fun v => !gs t s v || P (2 * (s + sf t v))) (nK t)) := fun q => by
        rw [if_neg (by rw [anyN_iff.mpr ⟨v, by omega, by omega, eg⟩]; decide)]
        have : allN (fun v => !gs t s v || P (2 * (s + sf t v))) (nK t) = false := Bool.eq_false_iff.mpr (fun k => by
          have k := allN_iff.mp k v (by omega) (by omega)
          have k : (!gs t s v || P (2 * (s + sf t v))) = true := k
          rw [eg, q] at k; exact absurd k (by decide))
        rw [this]; rfl
      by_cases g1 : M 94 (s + sf t v) = -1
      · left
        rw [if_pos g1, chk_t (by decide), ← no (Bool.eq_false_iff.mpr (fun q => (hH.mpr q).1 g1))]
      · rw [if_neg g1, chk_t trivial, chk_t (by omega)]
        by_cases g2 : M 94 (s + sf t v) ≤ r
        · right
          rw [if_pos g2]
          exact j59 1 (by rw [any1]; rfl) (by rw [allN, ha, eg, hH.mp ⟨g1, g2⟩]; rfl)
        · left
          rw [if_neg g2, chk_t (by decide), ← no (Bool.eq_false_iff.mpr (fun q => g2 (hH.mpr q).2))]
  · obtain ⟨e, r1⟩ := b
    obtain ⟨hr_, he_, ha⟩ := hb
    have hr1 : r1 = ((nK t : Nat) : Int) := hr_
    have he : e = b2i (anyN (fun v => gs t s v) (nK t)) := he_
    clear hr_ he_
    subst hr1
    have hH := H s h0 h1
    show f_Md_allLead_L6 _ 75 s 94 r (n + 1) h e _ = _
    rw [f_Md_allLead_L6, chk_t B.T, s_Md_steps B W, bndT_ok (by decide), if_pos (show 2 * nb t ≤ ((nK t : Nat) : Int) by omega), he]
    unfold f_Md_allLead_J88 f_Md_allLead_J84
    by_cases g : anyN (fun v => gs t s v) (nK t) = false
    · rw [if_pos g, g, if_pos (show b2i false = 0 from rfl)]
      simp only [C]
      rw [chk_t trivial, chk_t (by omega)]
      by_cases g1 : M 94 s = -1
      · rw [if_pos g1, chk_t (by decide), Bool.eq_false_iff.mpr (fun q => (hH.mpr q).1 g1)]; rfl
      · rw [if_neg g1, chk_t trivial, chk_t (by omega)]
        by_cases g2 : r < M 94 s
        · rw [if_pos g2, chk_t (by decide), show P (2 * s) = false from Bool.eq_false_iff.mpr (fun q => by have := (hH.mpr q).2; omega)]; rfl
        · rw [if_neg g2, chk_t (by decide), hH.mp ⟨g1, by omega⟩]; rfl
    · rw [if_neg g, ha, (eq_true_of_ne_false g : anyN (fun v => gs t s v) (nK t) = true), if_neg (by decide), chk_t (by decide)]; rfl
end
