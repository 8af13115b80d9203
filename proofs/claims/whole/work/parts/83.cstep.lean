/-! STEPS THAT ARE MADE -/
def mk1 (t : tT) (b up : Int) : tT := fun j => if j = 6 + 4 * b then tow (pa t) b up else if j = 8 + 4 * b then md t b + 1 else t j
def wy0 (t : tT) (b up : Int) : Int := why t false X0 (pa t) (wS t) b up
def stp (t : tT) (b up : Int) : tT := if wy0 t b up = 0 then mk1 t b up else t
def MDB (t : tT) (m : Int) : Prop := ∀ b, 0 ≤ b → b < nb t → 0 ≤ md t b ∧ md t b ≤ m
theorem wy0_rng {t : tT} {b up : Int} (h : wy0 t b up = 0) : (0 ≤ b ∧ b < nb t) ∧ 0 ≤ tow (pa t) b up ∧ tow (pa t) b up < pl t b := by
  unfold wy0 why at h
  by_cases hb : b < 0 ∨ nb t ≤ b
  · rw [if_pos hb] at h; exact absurd h (by decide)
  · rw [if_neg hb] at h
    by_cases hc : tow (pa t) b up < 0 ∨ pl t b ≤ tow (pa t) b up
    · rw [if_pos hc] at h; exact absurd h (by decide)
    · omega
section
variable {t : tT}
theorem mk1_pa (b up d : Int) : pa (mk1 t b up) d = if d = b then tow (pa t) b up else pa t d := by
  unfold pa mk1
  by_cases e : d = b
  · rw [if_pos e, if_pos (by omega)]; rfl
  · rw [if_neg e, if_neg (by omega), if_neg (by omega)]
theorem mk1_md (b up d : Int) : md (mk1 t b up) d = if d = b then md t b + 1 else md t d := by
  unfold md mk1
  by_cases e : d = b
  · rw [if_pos e, if_neg (by omega), if_pos (by omega)]; rfl
  · rw [if_neg e, if_neg (by omega), if_neg (by omega)]
theorem mk1_o {b up j : Int} (h : j ≠ 6 + 4 * b) (h2 : j ≠ 8 + 4 * b) : mk1 t b up j = t j := by unfold mk1; rw [if_neg h, if_neg h2]
theorem mk1_Sq {b up : Int} (h0 : 0 ≤ b) (h1 : b < 9) : Sq (mk1 t b up) t := by
  refine ⟨mk1_o (by omega) (by omega), mk1_o (by omega) (by omega), mk1_o (by omega) (by omega), mk1_o (by omega) (by omega), ?_, ?_, fun d g => mk1_o (by omega) (by omega), fun d g => mk1_o (by omega) (by omega), fun d g => mk1_o (by omega) (by omega), fun d g => mk1_o (by omega) (by omega), fun d g => mk1_o (by omega) (by omega), fun d f g g2 => mk1_o (by omega) (by omega), fun d f g g2 => mk1_o (by omega) (by omega), fun d f g g2 => mk1_o (by omega) (by omega), mk1_o (by omega) (by omega)⟩
  · funext d; exact mk1_o (by omega) (by omega)
  · funext d; exact mk1_o (by omega) (by omega)
theorem stp_Sq (W : WS t) (b up : Int) : Sq (stp t b up) t := by
  unfold stp
  by_cases e : wy0 t b up = 0
  · have := (wy0_rng e).1
    have hn := W.1
    rw [if_pos e]; exact mk1_Sq (by omega) (by omega)
  · rw [if_neg e]; exact Sq.refl t
theorem stp_W (W : WS t) (b up : Int) : WS (stp t b up) := Sq_WS (stp_Sq W b up).symm W
theorem stp_D (W : WS t) (D : RW t (pa t)) (b up : Int) : RW (stp t b up) (pa (stp t b up)) := by
  unfold stp
  by_cases e : wy0 t b up = 0
  · have h := wy0_rng e
    have hn := W.1
    have q : Sq (mk1 t b up) t := mk1_Sq (by omega) (by omega)
    rw [if_pos e]
    intro d g0 g1
    rw [q.e1] at g1
    rw [q.e5, mk1_pa]
    by_cases e2 : d = b
    · rw [if_pos e2, e2]; exact h.2
    · rw [if_neg e2]; exact D d g0 g1
  · rw [if_neg e]; exact D
theorem stp_md {m : Int} (W : WS t) (B : MDB t m) (b up : Int) : MDB (stp t b up) (m + 1) := by
  unfold stp
  by_cases e : wy0 t b up = 0
  · have h := wy0_rng e
    have hn := W.1
    have q : Sq (mk1 t b up) t := mk1_Sq (by omega) (by omega)
    rw [if_pos e]
    intro d g0 g1
    rw [q.e1] at g1
    have := B d g0 g1
    rw [mk1_md]
    by_cases e2 : d = b
    · rw [if_pos e2, ← e2]; omega
    · rw [if_neg e2]; omega
  · rw [if_neg e]
    intro d g0 g1
    have := B d g0 g1; omega
theorem MDB.le {m n : Int} (B : MDB t m) (h : m ≤ n) : MDB t n := fun d g0 g1 => by have := B d g0 g1; omega
end
section
variable {h : mH} {c : Int} {p L : Int → Int} {M : aM} {E : Int → tT} {t : tT}
theorem BR5.pa {M' : aM} {u : tT} (R : BR5 M t) (F : ∀ v, 5 ≤ v → v ≤ 17 → v ≠ 9 → v ≠ 10 → M' v = M v) (q : Sq u t) (hb : ∀ b, 0 ≤ b → b < nb t → M' 9 b = pa u b ∧ M' 10 b = md u b) : BR5 M' u := by
  obtain ⟨r1, r2, r3⟩ := R
  unfold BR5
  rw [F 5 (by decide) (by decide) (by decide) (by decide), F 6 (by decide) (by decide) (by decide) (by decide), F 7 (by decide) (by decide) (by decide) (by decide), F 8 (by decide) (by decide) (by decide) (by decide), F 11 (by decide) (by decide) (by decide) (by decide), F 12 (by decide) (by decide) (by decide) (by decide), F 13 (by decide) (by decide) (by decide) (by decide), F 14 (by decide) (by decide) (by decide) (by decide), F 15 (by decide) (by decide) (by decide) (by decide), F 16 (by decide) (by decide) (by decide) (by decide), F 17 (by decide) (by decide) (by decide) (by decide)]
  rw [q.e1, q.e2, q.e3, q.e4, q.e15, q.e5, q.e6]
  refine ⟨r1, fun b g0 g1 => ?_, fun r g0 g1 => ?_⟩
  · have := r2 b g0 g1
    have h2 := hb b g0 g1
    rw [q.e7 b g0]
    exact ⟨this.1, this.2.1, this.2.2.1, h2.1, h2.2⟩
  · have := r3 r g0 g1
    rw [q.e8 r g0, q.e9 r g0, q.e10 r g0, q.e11 r g0]
    refine ⟨this.1, this.2.1, this.2.2.1, this.2.2.2.1, fun f q0 q1 => ?_⟩
    rw [q.e12 r f g0 q0, q.e13 r f g0 q0, q.e14 r f g0 q0]
    exact this.2.2.2.2 f q0 q1
theorem s_makeStep5 (A : At h c p L M) (R : BR5 M t) (W : WS t) (D : RW t (pa t)) {m : Int} (B : MDB t m) (hm : m ≤ 100000) {b up : Int} (hu : up = 0 ∨ up = 1) :
    ∃ h' M', f_Box_makeStep h 5 b up = some ((0, wy0 t b up), h') ∧ At h' c p L M' ∧ Fr [9, 10] M M' ∧ BR5 M' (stp t b up) := by
  have Bh := BH.of5 A R
  have C := A.b5
  have hn := W.1
  unfold f_Box_makeStep
  rw [chk_t Bh.T, s_Box_whyNot Bh W D hu (X := X0), bndT_ok (by decide)]
  show ∃ h' M', (if wy0 t b up = 0 then _ else some ((0, wy0 t b up), h)) = _ ∧ _
  by_cases e : wy0 t b up = 0
  · have g := wy0_rng e
    have hp := W.2.2.2.2.2.1 b g.1.1 g.1.2
    have hd := D b g.1.1 g.1.2
    have hmd := B b g.1.1 g.1.2
    have r := R.2.1 b g.1.1 g.1.2
    have A1 := A.aput (v := 9) b (tow (pa t) b up) (by decide) (by decide) (by decide) (by decide +kernel) (by decide) (by decide)
    have C1 := A1.b5
    have A2 := A1.aput (v := 10) b (md t b + 1) (by decide) (by decide) (by decide) (by decide +kernel) (by decide) (by decide)
    have es : stp t b up = mk1 t b up := by unfold stp; rw [if_pos e]
    have q : Sq (mk1 t b up) t := mk1_Sq (by omega) (by omega)
    refine ⟨_, _, ?_, A2, ((Fr.rf _ _).pu (by decide)).pu (by decide), ?_⟩
    · have j39 : ∀ x : Int, w32 (M 9 b + x) = tow (pa t) b up → f_Box_makeStep_J39 5 b (wy0 t b up) 9 b (M 9 b) x h = some ((0, wy0 t b up), hput (hput h 9 b (tow (pa t) b up)) 10 b (md t b + 1)) := fun x hx => by
        unfold f_Box_makeStep_J39
        simp only [C]
        rw [chk_t trivial, chk_t (by omega), hx, wth]
        simp only [C1]
        rw [chk_t trivial, chk_t trivial, chk_t (by omega), chk_t trivial, chk_t (by omega), mup_fn (by decide), r.2.2.2.2, w32_id (by omega) (by omega), wth]
      rw [if_pos e, if_neg (by omega)]
      simp only [C]
      rw [chk_t trivial, R.1.2.1, if_neg (by omega), chk_t trivial, chk_t trivial, chk_t (by omega)]
      rcases hu with hu | hu
      · rw [if_pos hu]
        exact j39 (-1) (by rw [r.2.2.2.1, w32_id (by omega) (by omega)]; unfold tow; rw [if_pos hu]; omega)
      · rw [if_neg (by omega)]
        exact j39 1 (by rw [r.2.2.2.1, w32_id (by omega) (by omega)]; unfold tow; rw [if_neg (by omega)])
    · rw [es]
      refine R.pa (fun v g0 g1 g2 g3 => by rw [mup_fn g3, mup_fn g2]) q (fun d g0 g1 => ?_)
      have rd := R.2.1 d g0 g1
      rw [mk1_pa, mk1_md]
      by_cases e2 : d = b
      · rw [if_pos e2, if_pos e2, e2, mup_eq, mup_fn (by decide), mup_eq]; exact ⟨rfl, rfl⟩
      · rw [if_neg e2, if_neg e2]
        refine ⟨?_, ?_⟩
        · rw [mup_fn (by decide), mup_ne (Or.inr e2)]; exact rd.2.2.2.1
        · rw [mup_ne (Or.inr e2), mup_fn (by decide)]; exact rd.2.2.2.2
  · have es : stp t b up = t := by unfold stp; rw [if_neg e]
    rw [if_neg e, es]
    exact ⟨h, M, rfl, A, Fr.rf _ _, R⟩
theorem BR18.pa {M' : aM} {u : tT} (R : BR18 M t) (F : ∀ v, 18 ≤ v → v ≤ 30 → v ≠ 22 → v ≠ 23 → M' v = M v) (q : Sq u t) (hb : ∀ b, 0 ≤ b → b < nb t → M' 22 b = pa u b ∧ M' 23 b = md u b) : BR18 M' u := by
  obtain ⟨r1, r2, r3⟩ := R
  unfold BR18
  rw [F 18 (by decide) (by decide) (by decide) (by decide), F 19 (by decide) (by decide) (by decide) (by decide), F 20 (by decide) (by decide) (by decide) (by decide), F 21 (by decide) (by decide) (by decide) (by decide), F 24 (by decide) (by decide) (by decide) (by decide), F 25 (by decide) (by decide) (by decide) (by decide), F 26 (by decide) (by decide) (by decide) (by decide), F 27 (by decide) (by decide) (by decide) (by decide), F 28 (by decide) (by decide) (by decide) (by decide), F 29 (by decide) (by decide) (by decide) (by decide), F 30 (by decide) (by decide) (by decide) (by decide)]
  rw [q.e1, q.e2, q.e3, q.e4, q.e15, q.e5, q.e6]
  refine ⟨r1, fun b g0 g1 => ?_, fun r g0 g1 => ?_⟩
  · have := r2 b g0 g1
    have h2 := hb b g0 g1
    rw [q.e7 b g0]
    exact ⟨this.1, this.2.1, this.2.2.1, h2.1, h2.2⟩
  · have := r3 r g0 g1
    rw [q.e8 r g0, q.e9 r g0, q.e10 r g0, q.e11 r g0]
    refine ⟨this.1, this.2.1, this.2.2.1, this.2.2.2.1, fun f q0 q1 => ?_⟩
    rw [q.e12 r f g0 q0, q.e13 r f g0 q0, q.e14 r f g0 q0]
    exact this.2.2.2.2 f q0 q1
theorem s_makeStep18 (A : At h c p L M) (R : BR18 M t) (W : WS t) (D : RW t (pa t)) {m : Int} (B : MDB t m) (hm : m ≤ 100000) {b up : Int} (hu : up = 0 ∨ up = 1) :
    ∃ h' M', f_Box_makeStep h 18 b up = some ((0, wy0 t b up), h') ∧ At h' c p L M' ∧ Fr [22, 23] M M' ∧ BR18 M' (stp t b up) := by
  have Bh := BH.of18 A R
  have C := A.b18
  have hn := W.1
  unfold f_Box_makeStep
  rw [chk_t Bh.T, s_Box_whyNot Bh W D hu (X := X0), bndT_ok (by decide)]
  show ∃ h' M', (if wy0 t b up = 0 then _ else some ((0, wy0 t b up), h)) = _ ∧ _
  by_cases e : wy0 t b up = 0
  · have g := wy0_rng e
    have hp := W.2.2.2.2.2.1 b g.1.1 g.1.2
    have hd := D b g.1.1 g.1.2
    have hmd := B b g.1.1 g.1.2
    have r := R.2.1 b g.1.1 g.1.2
    have A1 := A.aput (v := 22) b (tow (pa t) b up) (by decide) (by decide) (by decide) (by decide +kernel) (by decide) (by decide)
    have C1 := A1.b18
    have A2 := A1.aput (v := 23) b (md t b + 1) (by decide) (by decide) (by decide) (by decide +kernel) (by decide) (by decide)
    have es : stp t b up = mk1 t b up := by unfold stp; rw [if_pos e]
    have q : Sq (mk1 t b up) t := mk1_Sq (by omega) (by omega)
    refine ⟨_, _, ?_, A2, ((Fr.rf _ _).pu (by decide)).pu (by decide), ?_⟩
    · have j39 : ∀ x : Int, w32 (M 22 b + x) = tow (pa t) b up → f_Box_makeStep_J39 18 b (wy0 t b up) 22 b (M 22 b) x h = some ((0, wy0 t b up), hput (hput h 22 b (tow (pa t) b up)) 23 b (md t b + 1)) := fun x hx => by
        unfold f_Box_makeStep_J39
        simp only [C]
        rw [chk_t trivial, chk_t (by omega), hx, wth]
        simp only [C1]
        rw [chk_t trivial, chk_t trivial, chk_t (by omega), chk_t trivial, chk_t (by omega), mup_fn (by decide), r.2.2.2.2, w32_id (by omega) (by omega), wth]
      rw [if_pos e, if_neg (by omega)]
      simp only [C]
      rw [chk_t trivial, R.1.2.1, if_neg (by omega), chk_t trivial, chk_t trivial, chk_t (by omega)]
      rcases hu with hu | hu
      · rw [if_pos hu]
        exact j39 (-1) (by rw [r.2.2.2.1, w32_id (by omega) (by omega)]; unfold tow; rw [if_pos hu]; omega)
      · rw [if_neg (by omega)]
        exact j39 1 (by rw [r.2.2.2.1, w32_id (by omega) (by omega)]; unfold tow; rw [if_neg (by omega)])
    · rw [es]
      refine R.pa (fun v g0 g1 g2 g3 => by rw [mup_fn g3, mup_fn g2]) q (fun d g0 g1 => ?_)
      have rd := R.2.1 d g0 g1
      rw [mk1_pa, mk1_md]
      by_cases e2 : d = b
      · rw [if_pos e2, if_pos e2, e2, mup_eq, mup_fn (by decide), mup_eq]; exact ⟨rfl, rfl⟩
      · rw [if_neg e2, if_neg e2]
        refine ⟨?_, ?_⟩
        · rw [mup_fn (by decide), mup_ne (Or.inr e2)]; exact rd.2.2.2.1
        · rw [mup_ne (Or.inr e2), mup_fn (by decide)]; exact rd.2.2.2.2
  · have es : stp t b up = t := by unfold stp; rw [if_neg e]
    rw [if_neg e, es]
    exact ⟨h, M, rfl, A, Fr.rf _ _, R⟩
def whN (t : tT) (v : Int) : Int := if 0 ≤ v ∧ v < 2 * nb t then wy0 t (v / 2) (v % 2) else 1
def stN (t : tT) (v : Int) : tT := if 0 ≤ v ∧ v < 2 * nb t then stp t (v / 2) (v % 2) else t
theorem s_makeNumber5 (A : At h c p L M) (R : BR5 M t) (W : WS t) (D : RW t (pa t)) {m : Int} (B : MDB t m) (hm : m ≤ 100000) {v : Int} (hv : -9223372036854775808 ≤ v ∧ v < 9223372036854775808) :
    ∃ h' M', f_Box_makeNumber h 5 v = some ((0, whN t v), h') ∧ At h' c p L M' ∧ Fr [9, 10] M M' ∧ BR5 M' (stN t v) := by
  have Bh := BH.of5 A R
  have hn := W.1
  unfold f_Box_makeNumber whN stN f_Box_makeNumber_J20
  by_cases g : v < 0
  · rw [if_pos (qlcmp_lt.mpr g), if_neg (by omega), if_neg (by omega)]
    exact ⟨h, M, rfl, A, Fr.rf _ _, R⟩
  · rw [if_neg (fun q => g (qlcmp_lt.mp q)), chk_t Bh.T, Bh.s2, w64_id (by omega) (by omega)]
    by_cases g2 : v < 2 * nb t
    · rw [if_pos (qlcmp_lt.mpr g2), if_pos (show 0 ≤ v ∧ v < 2 * nb t by omega), if_pos (show 0 ≤ v ∧ v < 2 * nb t by omega), qland1, qlshr1 hv.1 hv.2, w32_id (by omega) (by omega)]
      have hu : v % 2 = 0 ∨ v % 2 = 1 := by omega
      obtain ⟨h1, M1, f1, A1, F1, R1⟩ := s_makeStep5 A R W D B hm (b := v / 2) hu
      refine ⟨h1, M1, ?_, A1, F1, R1⟩
      unfold f_Box_makeNumber_J42
      rcases hu with e | e
      · rw [if_neg (fun q => by rw [qlcmp_eq] at q; omega), chk_t Bh.T, ← e, f1, bndT_ok (by decide)]
      · rw [if_pos (qlcmp_eq.mpr e), chk_t Bh.T]
        rw [e] at f1 ⊢
        rw [f1, bndT_ok (by decide)]
    · rw [if_neg (fun q => g2 (qlcmp_lt.mp q)), if_neg (by omega), if_neg (by omega)]
      exact ⟨h, M, rfl, A, Fr.rf _ _, R⟩
theorem s_makeNumber18 (A : At h c p L M) (R : BR18 M t) (W : WS t) (D : RW t (pa t)) {m : Int} (B : MDB t m) (hm : m ≤ 100000) {v : Int} (hv : -9223372036854775808 ≤ v ∧ v < 9223372036854775808) :
    ∃ h' M', f_Box_makeNumber h 18 v = some ((0, whN t v), h') ∧ At h' c p L M' ∧ Fr [22, 23] M M' ∧ BR18 M' (stN t v) := by
  have Bh := BH.of18 A R
  have hn := W.1
  unfold f_Box_makeNumber whN stN f_Box_makeNumber_J20
  by_cases g : v < 0
  · rw [if_pos (qlcmp_lt.mpr g), if_neg (by omega), if_neg (by omega)]
    exact ⟨h, M, rfl, A, Fr.rf _ _, R⟩
  · rw [if_neg (fun q => g (qlcmp_lt.mp q)), chk_t Bh.T, Bh.s2, w64_id (by omega) (by omega)]
    by_cases g2 : v < 2 * nb t
    · rw [if_pos (qlcmp_lt.mpr g2), if_pos (show 0 ≤ v ∧ v < 2 * nb t by omega), if_pos (show 0 ≤ v ∧ v < 2 * nb t by omega), qland1, qlshr1 hv.1 hv.2, w32_id (by omega) (by omega)]
      have hu : v % 2 = 0 ∨ v % 2 = 1 := by omega
      obtain ⟨h1, M1, f1, A1, F1, R1⟩ := s_makeStep18 A R W D B hm (b := v / 2) hu
      refine ⟨h1, M1, ?_, A1, F1, R1⟩
      unfold f_Box_makeNumber_J42
      rcases hu with e | e
      · rw [if_neg (fun q => by rw [qlcmp_eq] at q; omega), chk_t Bh.T, ← e, f1, bndT_ok (by decide)]
      · rw [if_pos (qlcmp_eq.mpr e), chk_t Bh.T]
        rw [e] at f1 ⊢
        rw [f1, bndT_ok (by decide)]
    · rw [if_neg (fun q => g2 (qlcmp_lt.mp q)), if_neg (by omega), if_neg (by omega)]
      exact ⟨h, M, rfl, A, Fr.rf _ _, R⟩
theorem stN_Sq (W : WS t) (v : Int) : Sq (stN t v) t := by
  unfold stN; split
  · exact stp_Sq W _ _
  · exact Sq.refl t
theorem stN_D (W : WS t) (D : RW t (pa t)) (v : Int) : RW (stN t v) (pa (stN t v)) := by
  unfold stN; split
  · exact stp_D W D _ _
  · exact D
theorem stN_md {m : Int} (W : WS t) (B : MDB t m) (v : Int) : MDB (stN t v) (m + 1) := by
  unfold stN; split
  · exact stp_md W B _ _
  · exact B.le (by omega)
theorem stN_no {v : Int} (h : whN t v ≠ 0) : stN t v = t := by
  unfold whN at h; unfold stN
  split
  · rename_i g
    rw [if_pos g] at h
    unfold stp; rw [if_neg h]
  · rfl
/-- the box told changed by steps: all that is kept stays -/
theorem KS.st {M' : aM} {u : tT} (K : KS E M L t) (F : Fr [9, 10] M M') (R : BR5 M' u) (q : Sq u t) (D : RW u (pa u)) : KS E M' L u := by
  have hh : ∀ v, v ≠ 9 → v ≠ 10 → M' v = M v := fun v h1 h2 => F v (by simp; omega)
  refine ⟨R, Sq_WS q.symm K.W, D, by rw [hh 5 (by decide) (by decide)]; exact q.trans K.S, by rw [hh 5 (by decide) (by decide), hh 1 (by decide) (by decide)]; exact K.e, K.G.keep (fun v hv => hh v ?_ ?_) (fun _ _ => rfl),
    K.p1.keep (hh _ (by decide) (by decide)) (hh _ (by decide) (by decide)) (hh _ (by decide) (by decide)) (hh _ (by decide) (by decide)) rfl rfl, K.p2.keep (hh _ (by decide) (by decide)) (hh _ (by decide) (by decide)) (hh _ (by decide) (by decide)) (hh _ (by decide) (by decide)) rfl rfl, K.p3.keep (hh _ (by decide) (by decide)) (hh _ (by decide) (by decide)) (hh _ (by decide) (by decide)) (hh _ (by decide) (by decide)) rfl rfl, K.N.keep (hh _ (by decide) (by decide)) (hh _ (by decide) (by decide)) (hh _ (by decide) (by decide))⟩
  · simp only [List.mem_cons, List.not_mem_nil, or_false] at hv; omega
  · simp only [List.mem_cons, List.not_mem_nil, or_false] at hv; omega
/-- calls by which bars move: what they answer, what is told then -/
def cM : List Int := 9 :: 10 :: cA
def CS (c : Int) (M : aM) (E : Int → tT) (u : tT) (f : Option mR) (v : mV) : Prop := ∃ h' c' p' L' M', f = some (v, h') ∧ At h' c' p' L' M' ∧ c' ≤ c + 6 ∧ Fr cM M M' ∧ KS E M' L' u
theorem CS_mv {M1 : aM} {u : tT} {f : Option mR} {v : mV} (F : Fr cM M M1) (r : CS c M1 E u f v) : CS c M E u f v := by
  obtain ⟨h', c', p', L', M', a, b, d, e, k⟩ := r
  exact ⟨h', c', p', L', M', a, b, d, F.tr e, k⟩
theorem CS_ok (A : At h c p L M) (K : KS E M L t) {v : mV} : CS c M E t (some (v, h)) v := ⟨h, c, p, L, M, rfl, A, by omega, Fr.rf _ _, K⟩
theorem CS_ex (A : At h c p L M) (K : KS E M L t) {e : Int} : CS c M E t (some ((4, e), halc h 0 0 6)) (4, e) := ⟨_, c + 6, p, L, M, rfl, A.exc, Int.le_refl _, Fr.rf _ _, K⟩
theorem s_told (A : At h c p L M) (K : KS E M L t) {m : Int} (B : MDB t m) (hm : m ≤ 100000) {b up : Int} (hu : up = 0 ∨ up = 1) : ∃ h' M', f_Box_makeStep h 5 b up = some ((0, wy0 t b up), h') ∧ At h' c p L M' ∧ Fr cM M M' ∧ KS E M' L (stp t b up) := by
  obtain ⟨h1, M1, f1, A1, F1, R1⟩ := s_makeStep5 A K.R K.W K.D B hm (b := b) hu
  exact ⟨h1, M1, f1, A1, F1.mono (by decide), K.st F1 R1 (stp_Sq K.W b up) (stp_D K.W K.D b up)⟩
theorem s_toldN (A : At h c p L M) (K : KS E M L t) {m : Int} (B : MDB t m) (hm : m ≤ 100000) {v : Int} (hv : -9223372036854775808 ≤ v ∧ v < 9223372036854775808) : ∃ h' M', f_Box_makeNumber h 5 v = some ((0, whN t v), h') ∧ At h' c p L M' ∧ Fr cM M M' ∧ KS E M' L (stN t v) := by
  obtain ⟨h1, M1, f1, A1, F1, R1⟩ := s_makeNumber5 A K.R K.W K.D B hm hv
  exact ⟨h1, M1, f1, A1, F1.mono (by decide), K.st F1 R1 (stN_Sq K.W v) (stN_D K.W K.D v)⟩
theorem wy0_le (t : tT) (b up : Int) : 0 ≤ wy0 t b up ∧ wy0 t b up ≤ 4 := by
  unfold wy0 why
  split
  · omega
  · split
    · omega
    · split
      · omega
      · split
        · omega
        · split
          · omega
          · split <;> omega
/-- step() -/
def spV (t : tT) (b up : Int) : Int := if wy0 t b up = 0 then tow (pa t) b up else - wy0 t b up
theorem c_step (A : At h c p L M) (K : KS E M L t) {m : Int} (B : MDB t m) (hm : m ≤ 100000) (b : Int) {up : Int} (hu : up = 0 ∨ up = 1) : CS c M E (stp t b up) (f_Nb_step h 1 b up) (0, spV t b up) := by
  have C := A.nb
  have D := A.b5
  obtain ⟨h1, M1, f1, A1, F1, K1⟩ := s_told A K B hm (b := b) hu
  have C1 := A1.nb
  have D1 := A1.b5
  have hw := wy0_le t b up
  refine CS_mv F1 ?_
  unfold f_Nb_step f_Nb_step_J41 spV
  simp only [C, D]
  rw [chk_t trivial, chk_t trivial, f1, bndT_ok (by decide)]
  by_cases e : wy0 t b up = 0
  · have g := wy0_rng e
    have hn := K.W.1
    have q := stp_Sq K.W b up
    have r := K1.R.2.1 b g.1.1 (by rw [q.e1]; exact g.1.2)
    rw [if_pos e, if_pos e, if_neg (by omega)]
    simp only [C1, D1]
    rw [chk_t trivial, chk_t trivial, K1.R.1.2.1, q.e1, if_neg (by omega), chk_t trivial, chk_t trivial, chk_t trivial, chk_t (by omega), r.2.2.2.1, show pa (stp t b up) b = tow (pa t) b up from by unfold stp; rw [if_pos e, mk1_pa, if_pos rfl]]
    exact CS_ok A1 K1
  · rw [if_neg e, if_neg e, w32_id (by omega) (by omega)]
    exact CS_ok A1 K1
/-! verses in trays -/
def vP (t : tT) (N : Int → Int) : Nat → tT × Int
  | 0 => (t, 0)
  | n + 1 => if (vP t N n).2 = n ∧ whN (vP t N n).1 (N n) = 0 then (stN (vP t N n).1 (N n), (n : Int) + 1) else vP t N n
theorem vP_rng (t : tT) (N : Int → Int) : ∀ n : Nat, 0 ≤ (vP t N n).2 ∧ (vP t N n).2 ≤ n
  | 0 => ⟨Int.le_refl _, Int.le_refl _⟩
  | n + 1 => by
    have := vP_rng t N n
    rw [vP]; split
    · show 0 ≤ (n : Int) + 1 ∧ (n : Int) + 1 ≤ ((n + 1 : Nat) : Int); omega
    · push_cast; omega
theorem vP_end {t : tT} {N : Int → Int} {n : Nat} (h : (vP t N n).2 < n) : ∀ {m : Nat}, n ≤ m → vP t N m = vP t N n
  | 0, g => by rw [show n = 0 by omega]
  | m + 1, g => by
    by_cases e : n = m + 1
    · rw [e]
    · rw [vP, vP_end h (show n ≤ m by omega), if_neg (by omega)]
theorem vP_ok {t : tT} {N : Int → Int} (W : WS t) (D : RW t (pa t)) {m : Int} (B : MDB t m) : ∀ n : Nat, Sq (vP t N n).1 t ∧ RW (vP t N n).1 (pa (vP t N n).1) ∧ MDB (vP t N n).1 (m + n)
  | 0 => ⟨Sq.refl t, D, B.le (by omega)⟩
  | n + 1 => by
    obtain ⟨a, b, d⟩ := vP_ok W D B n
    have W' := Sq_WS a.symm W
    rw [vP]; split
    · exact ⟨(stN_Sq W' _).trans a, stN_D W' b _, (stN_md W' d _).le (by push_cast; omega)⟩
    · exact ⟨a, b, d.le (by push_cast; omega)⟩
/-- numbers of a tray -/
def TL (N : Int → Int) (m : Int) : Prop := ∀ i, 0 ≤ i → i < m → -9223372036854775808 ≤ N i ∧ N i < 9223372036854775808
theorem c_perform (A : At h c p L M) (K : KS E M L t) {m : Int} (B : MDB t m) (hm : m ≤ 50000) {τ : Int} (ht : 0 ≤ τ → τ < 4 → (-1 ≤ M (33 + 2 * τ) 2 ∧ M (33 + 2 * τ) 2 ≤ 40) ∧ TL (M (34 + 2 * τ)) (M (33 + 2 * τ) 2)) :
    CS c M E (if (0 ≤ τ ∧ τ < 4) ∧ M (33 + 2 * τ) 2 ≠ -1 then (vP t (M (34 + 2 * τ)) (M (33 + 2 * τ) 2).toNat).1 else t) (f_Nb_perform h 1 τ) (if 0 ≤ τ ∧ τ < 4 then (if M (33 + 2 * τ) 2 = -1 then (4, xS) else (0, (vP t (M (34 + 2 * τ)) (M (33 + 2 * τ) 2).toNat).2)) else (4, xN)) := by
  have C := A.nb
  unfold f_Nb_perform
  simp only [C]
  rw [chk_t trivial]
  rcases s_Nb_needTray A τ with ⟨g1, e⟩ | ⟨g1, e⟩
  · rw [e, bndT_ex, if_neg (fun q => g1 q.1), if_neg g1]; exact CS_ex A K
  · obtain ⟨hm2, hT⟩ := ht g1.1 g1.2
    have hk := TK.of g1.1 g1.2
    have hkr := hk.rg
    rw [e, if_pos g1]
    by_cases g2 : M (33 + 2 * τ) 2 = -1
    · rw [if_pos g2, bndT_ex, if_neg (fun q => q.2 g2), if_pos g2]; exact CS_ex A K
    · rw [if_neg g2, bndT_ok (by decide), if_pos (show (0 ≤ τ ∧ τ < 4) ∧ M (33 + 2 * τ) 2 ≠ -1 from ⟨g1, g2⟩), if_neg g2]
      generalize 33 + 2 * τ = k at *
      generalize 34 + 2 * τ = a at *
      obtain ⟨n0, hn0⟩ : ∃ n0 : Nat, M k 2 = n0 := ⟨(M k 2).toNat, by omega⟩
      rw [hn0, Int.toNat_natCast]
      rw [hn0] at hT hm2
      have hF : ∀ {M' : aM}, Fr cM M M' → M' k = M k ∧ M' a = M a := fun F => by
        rcases hk with ⟨-, rfl, rfl⟩ | ⟨-, rfl, rfl⟩ | ⟨-, rfl, rfl⟩ | ⟨-, rfl, rfl⟩ <;> exact ⟨F _ (by decide), F _ (by decide)⟩
      refine loop_r (F := fun n (x : mH × Int) => f_Nb_perform_L8 1 k n x.1 x.2) (P := fun r => CS c M E (vP t (M a) n0).1 r (0, (vP t (M a) n0).2)) (fun i x => x.2 = (i : Int) ∧ (vP t (M a) i).2 = i ∧ ∃ M', At x.1 c p L M' ∧ Fr cM M M' ∧ KS E M' L (vP t (M a) i).1) n0 (fun i hi x hx n => ?_) (fun x hx n => ?_) (i := 0) (b := (h, 0)) ⟨rfl, rfl, M, A, Fr.rf _ _, K⟩ (by omega) (by omega)
      · obtain ⟨h2, r⟩ := x
        obtain ⟨hr_, hv, M2, A2_, F2, K2⟩ := hx
        have hr : r = (i : Int) := hr_
        have A2 : At h2 c p L M2 := A2_
        clear hr_ A2_
        subst hr
        have C2 := A2.nb
        have T2 := A2.tk hk
        obtain ⟨a1, a2, a3⟩ := vP_ok (N := M a) K.W K.D B i
        obtain ⟨h3, M3, f3, A3, F3, K3⟩ := s_toldN A2 K2 a3 (by omega) (v := M a i) (hT i (by omega) (by omega))
        have D2 := A2.b5
        show CS c M E _ (f_Nb_perform_L8 1 k (n + 1) h2 i) _ ∨ ∃ b', _ ∧ f_Nb_perform_L8 1 k (n + 1) h2 i = _
        rw [f_Nb_perform_L8]
        simp only [T2, C2, D2]
        rw [chk_t trivial, (hF F2).1, hn0, if_neg (by omega), chk_t trivial, chk_t trivial, chk_t trivial, chk_t (by omega), chk_t trivial, (hF F2).2, f3, bndT_ok (by decide)]
        by_cases g : whN (vP t (M a) i).1 (M a i) = 0
        · right
          have e : vP t (M a) (i + 1) = (stN (vP t (M a) i).1 (M a i), (i : Int) + 1) := by rw [vP, if_pos ⟨hv, g⟩]
          rw [if_pos g, wtv, w32_n i (by omega)]
          exact ⟨(h3, ((i + 1 : Nat) : Int)), ⟨rfl, by rw [e]; rfl, M3, A3, F2.tr F3, by rw [e]; exact K3⟩, rfl⟩
        · left
          have e : vP t (M a) (i + 1) = vP t (M a) i := by rw [vP, if_neg (fun q => g q.2)]
          have e2 : vP t (M a) n0 = vP t (M a) i := by rw [← e]; exact vP_end (by rw [e, hv]; omega) (by omega)
          rw [if_neg g, e2, hv]
          rw [stN_no g] at K3
          exact CS_mv (F2.tr F3) (CS_ok A3 K3)
      · obtain ⟨h2, r⟩ := x
        obtain ⟨hr_, hv, M2, A2_, F2, K2⟩ := hx
        have hr : r = (n0 : Int) := hr_
        have A2 : At h2 c p L M2 := A2_
        clear hr_ A2_
        subst hr
        have T2 := A2.tk hk
        show CS c M E _ (f_Nb_perform_L8 1 k (n + 1) h2 _) _
        rw [f_Nb_perform_L8]
        simp only [T2]
        rw [chk_t trivial, (hF F2).1, hn0, if_pos (Int.le_refl _), chk_t trivial, hv]
        exact CS_mv F2 (CS_ok A2 K2)
/-! the thief -/
def ndw (x : Int) : Int := w32 (w32 (1103515245 * x) + 12345)
def tf (t : tT) (x : Int) : Nat → Int × Int × tT
  | 0 => (x, 0, t)
  | n + 1 => if isO (tf t x n).2.2 = true then tf t x n else
      (ndw (ndw (tf t x n).1), (if wy0 (tf t x n).2.2 (qushr (ndw (tf t x n).1) 16 % nb t) (qushr (ndw (ndw (tf t x n).1)) 16 % 2) = 0 then (tf t x n).2.1 + 1 else (tf t x n).2.1), stp (tf t x n).2.2 (qushr (ndw (tf t x n).1) 16 % nb t) (qushr (ndw (ndw (tf t x n).1)) 16 % 2))
theorem tf_end {t : tT} {x : Int} {n : Nat} (h : isO (tf t x n).2.2 = true) : ∀ {m : Nat}, n ≤ m → tf t x m = tf t x n
  | 0, g => by rw [show n = 0 by omega]
  | m + 1, g => by
    by_cases e : n = m + 1
    · rw [e]
    · rw [tf, tf_end h (show n ≤ m by omega), if_pos h]
theorem tf_ok {t : tT} {x : Int} (W : WS t) (D : RW t (pa t)) {m : Int} (B : MDB t m) : ∀ n : Nat, Sq (tf t x n).2.2 t ∧ RW (tf t x n).2.2 (pa (tf t x n).2.2) ∧ MDB (tf t x n).2.2 (m + n) ∧ 0 ≤ (tf t x n).2.1 ∧ (tf t x n).2.1 ≤ n
  | 0 => ⟨Sq.refl t, D, B.le (by omega), Int.le_refl _, Int.le_refl _⟩
  | n + 1 => by
    obtain ⟨a, b, d, e1, e2⟩ := tf_ok (x := x) W D B n
    have W' := Sq_WS a.symm W
    rw [tf]; split
    · exact ⟨a, b, d.le (by push_cast; omega), e1, by push_cast; omega⟩
    · have hif : ∀ (Q : Prop) [Decidable Q] (z : Int), z ≤ (if Q then z + 1 else z) ∧ (if Q then z + 1 else z) ≤ z + 1 := fun Q _ z => by split <;> omega
      exact ⟨(stp_Sq W' _ _).trans a, stp_D W' b _ _, (stp_md W' d _ _).le (by push_cast; omega), Int.le_trans e1 (hif _ _).1, Int.le_trans (hif _ _).2 (by push_cast; omega)⟩
theorem c_thief (A : At h c p L M) (K : KS E M L t) {m : Int} (B : MDB t m) (hm : m ≤ 50000) (x n : Int) :
    CS c M E (if (1 ≤ n ∧ n ≤ 60) ∧ 0 < nb t then (tf t x n.toNat).2.2 else t) (f_Nb_thief h 1 x n) (if 1 ≤ n ∧ n ≤ 60 then (if 0 < nb t then (0, (tf t x n.toNat).2.1) else (4, xS)) else (4, xA)) := by
  have C := A.nb
  have Bh := BH.of5 A K.R
  have hnb := K.W.1
  unfold f_Nb_thief
  by_cases g1 : n < 1
  · rw [if_pos g1, if_neg (by omega), if_neg (by omega)]; exact CS_ex A K
  rw [if_neg g1]
  by_cases g2 : n ≤ 60
  · rw [if_pos g2, if_pos (show 1 ≤ n ∧ n ≤ 60 by omega)]
    simp only [C]
    rw [chk_t trivial, chk_t Bh.T, Bh.s2, wtv]
    by_cases g3 : 0 < nb t
    · rw [if_pos g3, if_pos g3, if_pos (show (1 ≤ n ∧ n ≤ 60) ∧ 0 < nb t by omega)]
      refine loop_r (F := fun k (y : mH × Int × Int × Int) => f_Nb_thief_L52 1 n (nb t) k y.1 y.2.1 y.2.2.1 y.2.2.2) (P := fun r => CS c M E (tf t x n.toNat).2.2 r (0, (tf t x n.toNat).2.1)) (fun i y => y.2 = ((tf t x i).1, (tf t x i).2.1, (i : Int)) ∧ ∃ M', At y.1 c p L M' ∧ Fr cM M M' ∧ KS E M' L (tf t x i).2.2) n.toNat (fun i hi y hy k => ?_) (fun y hy k => ?_) (i := 0) (b := (h, x, 0, 0)) ⟨rfl, M, A, Fr.rf _ _, K⟩ (by omega) (by omega)
      · obtain ⟨h2, r⟩ := y
        obtain ⟨hr_, M2, A2_, F2, K2⟩ := hy
        have hr : r = ((tf t x i).1, (tf t x i).2.1, (i : Int)) := hr_
        have A2 : At h2 c p L M2 := A2_
        clear hr_ A2_
        subst hr
        have C2 := A2.nb
        have B2 := BH.of5 A2 K2.R
        obtain ⟨a1, a2, a3, a4, a5⟩ := tf_ok (x := x) K.W K.D B i
        show CS c M E _ (f_Nb_thief_L52 1 n (nb t) (k + 1) h2 (tf t x i).1 (tf t x i).2.1 i) _ ∨ ∃ b' : mH × Int × Int × Int, _ ∧ f_Nb_thief_L52 1 n (nb t) (k + 1) h2 (tf t x i).1 (tf t x i).2.1 i = f_Nb_thief_L52 1 n (nb t) k b'.1 b'.2.1 b'.2.2.1 b'.2.2.2
        rw [f_Nb_thief_L52, if_neg (by omega)]
        simp only [C2]
        rw [chk_t trivial, chk_t B2.T, s_Box_isOpened B2 K2.W, bndT_ok (by decide)]
        by_cases go : isO (tf t x i).2.2 = true
        · left
          have e2 : tf t x n.toNat = tf t x i := tf_end go (by omega)
          have go' : allN (fun b => decide (pa (tf t x i).2.2 b = po (tf t x i).2.2 b)) (nb (tf t x i).2.2).toNat = true := go
          rw [if_pos go', if_neg (by decide), e2]
          exact CS_mv F2 (CS_ok A2 K2)
        · right
          have hd : ∀ (h' : mH) (z : Int), f_Nb_nextDraw h' z = some ((0, ndw z), h') := fun h' z => rfl
          have q1 := qushr16 (ndw (tf t x i).1)
          have q2 := qushr16 (ndw (ndw (tf t x i).1))
          have hu : qushr (ndw (ndw (tf t x i).1)) 16 % 2 = 0 ∨ qushr (ndw (ndw (tf t x i).1)) 16 % 2 = 1 := by omega
          obtain ⟨h3, M3, f3, A3, F3, K3⟩ := s_told A2 K2 a3 (by omega) (b := qushr (ndw (tf t x i).1) 16 % nb t) hu
          have e : tf t x (i + 1) = (ndw (ndw (tf t x i).1), (if wy0 (tf t x i).2.2 (qushr (ndw (tf t x i).1) 16 % nb t) (qushr (ndw (ndw (tf t x i).1)) 16 % 2) = 0 then (tf t x i).2.1 + 1 else (tf t x i).2.1), stp (tf t x i).2.2 (qushr (ndw (tf t x i).1) 16 % nb t) (qushr (ndw (ndw (tf t x i).1)) 16 % 2)) := by rw [tf, if_neg go]
          have go' : ¬ allN (fun b => decide (pa (tf t x i).2.2 b = po (tf t x i).2.2 b)) (nb (tf t x i).2.2).toNat = true := go
          rw [if_neg go', if_pos rfl, hd, bndT_ok (by decide), chk_t (by omega), wtv, hd, bndT_ok (by decide), Int.tmod_eq_emod_of_nonneg q1.1, qand1]
          simp only [C2]
          rw [chk_t trivial]
          have j113 : ∀ u : Int, u = qushr (ndw (ndw (tf t x i).1)) 16 % 2 → ∃ b' : mH × Int × Int × Int, (b'.2 = ((tf t x (i + 1)).1, (tf t x (i + 1)).2.1, ((i + 1 : Nat) : Int)) ∧ ∃ M', At b'.1 c p L M' ∧ Fr cM M M' ∧ KS E M' L (tf t x (i + 1)).2.2) ∧ f_Nb_thief_J113 (f_Nb_thief_L52 1 n (nb t) k) (ndw (ndw (tf t x i).1)) (tf t x i).2.1 i 5 (qushr (ndw (tf t x i).1) 16 % nb t) u h2 = f_Nb_thief_L52 1 n (nb t) k b'.1 b'.2.1 b'.2.2.1 b'.2.2.2 := by
            intro u hu2
            refine ⟨(h3, (tf t x (i + 1)).1, (tf t x (i + 1)).2.1, ((i + 1 : Nat) : Int)), ⟨rfl, M3, A3, F2.tr F3, by rw [e]; exact K3⟩, ?_⟩
            unfold f_Nb_thief_J113 f_Nb_thief_J122
            rw [chk_t B2.T, hu2, f3, bndT_ok (by decide), e]
            by_cases gw : wy0 (tf t x i).2.2 (qushr (ndw (tf t x i).1) 16 % nb t) (qushr (ndw (ndw (tf t x i).1)) 16 % 2) = 0
            · rw [if_pos gw, if_pos gw, wtv, wtv, w32_id (by omega) (by omega), w32_n i (by omega)]
            · rw [if_neg gw, if_neg gw, wtv, w32_n i (by omega)]
          by_cases g5 : qushr (ndw (ndw (tf t x i).1)) 16 % 2 = 1
          · rw [if_pos g5]; exact j113 1 g5.symm
          · rw [if_neg g5]; exact j113 0 (by omega)
      · obtain ⟨h2, r⟩ := y
        obtain ⟨hr_, M2, A2_, F2, K2⟩ := hy
        have hr : r = ((tf t x n.toNat).1, (tf t x n.toNat).2.1, (n.toNat : Int)) := hr_
        have A2 : At h2 c p L M2 := A2_
        clear hr_ A2_
        subst hr
        show CS c M E _ (f_Nb_thief_L52 1 n (nb t) (k + 1) h2 (tf t x n.toNat).1 (tf t x n.toNat).2.1 n.toNat) _
        rw [f_Nb_thief_L52, if_pos (by omega)]
        exact CS_mv F2 (CS_ok A2 K2)
    · rw [if_neg g3, if_neg g3, if_neg (by omega)]; exact CS_ex A K
  · rw [if_neg g2, if_neg (by omega), if_neg (by omega)]; exact CS_ex A K
end
