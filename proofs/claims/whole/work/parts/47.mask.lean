/-! MASKS OF STEPS -/
def mkM (f : Int → Bool) : Nat → Int
  | 0 => 0
  | n + 1 => if f n = true then qor (mkM f n) (qshl 1 n) else mkM f n
theorem mkM_rng (f : Int → Bool) : ∀ n : Nat, -2147483648 ≤ mkM f n ∧ mkM f n < 2147483648
  | 0 => ⟨by show (-2147483648 : Int) ≤ 0; decide, by show (0 : Int) < 2147483648; decide⟩
  | n + 1 => by
    rw [mkM]; split
    · exact qor_rng _ _
    · exact mkM_rng f n
theorem bt_1 (i : Nat) : bt 1 i = decide (i = 0) := by
  by_cases h : i < 32
  · rw [show (1 : Int) = ((1 : Nat) : Int) from rfl, bt_nat 1 i h]
    have H : ∀ j : Fin 32, (1 : Nat).testBit j.val = decide (j.val = 0) := by decide +kernel
    exact H ⟨i, h⟩
  · rw [bt_ge (by omega), decide_eq_false (by omega)]
theorem bt_shl1 {v : Int} (h0 : 0 ≤ v) (h1 : v < 32) {i : Nat} (hi : i < 32) : bt (qshl 1 v) i = decide ((i : Int) = v) := by
  rw [bt_qshl h0 h1, bt_1]
  by_cases e : (i : Int) = v
  · rw [decide_eq_true e, decide_eq_true hi, decide_eq_true (show v.toNat ≤ i by omega), decide_eq_true (show i - v.toNat = 0 by omega)]; rfl
  · rw [decide_eq_false e]
    by_cases g : v.toNat ≤ i
    · rw [decide_eq_false (show ¬ i - v.toNat = 0 by omega)]; simp
    · rw [decide_eq_false g]; simp
theorem bt_mkM (f : Int → Bool) : ∀ {n : Nat}, n ≤ 32 → ∀ {i : Nat}, i < 32 → bt (mkM f n) i = (decide (i < n) && f i)
  | 0, _, i, _ => by show bt 0 i = _; rw [bt_0]; simp
  | n + 1, hn, i, hi => by
    rw [mkM]
    by_cases e : f n = true
    · rw [if_pos e, bt_qor, bt_mkM f (by omega) hi, bt_shl1 (by omega) (by omega) hi]
      by_cases g : i = n
      · subst g; simp [e]
      · rw [decide_eq_false (show ¬ (i : Int) = n by omega), Bool.or_false, show decide (i < n + 1) = decide (i < n) from by congr 1; apply propext; omega]
    · rw [if_neg e, bt_mkM f (by omega) hi]
      by_cases g : i = n
      · subst g; simp [e]
      · rw [show decide (i < n + 1) = decide (i < n) from by congr 1; apply propext; omega]
theorem mkM_ext {f : Int → Bool} {n : Nat} (hn : n ≤ 32) {x : Int} (hx : -2147483648 ≤ x ∧ x < 2147483648) (h : ∀ i : Nat, i < 32 → bt x i = (decide (i < n) && f i)) : x = mkM f n :=
  bt_ext hx (mkM_rng f n) (fun i hi => by rw [h i hi, bt_mkM f hn hi])
theorem mkM_pos {f : Int → Bool} {n : Nat} (hn : n < 31) : 0 ≤ mkM f n ∧ mkM f n < 2 ^ n := mask_rng hn (mkM_rng f n) (fun i h1 h2 => by rw [bt_mkM f (by omega) h2, decide_eq_false (by omega)]; rfl)
theorem mkM_congr {f g : Int → Bool} {n : Nat} (h : ∀ i : Int, 0 ≤ i → i < n → f i = g i) : mkM f n = mkM g n := by
  induction n with
  | zero => rfl
  | succ n ih => rw [mkM, mkM, ih (fun i h0 h1 => h i h0 (by omega)), h n (by omega) (by omega)]
theorem qshl_2 {v : Int} (h0 : 0 ≤ v) (h1 : v < 31) : qshl 2 v = qshl 1 (v + 1) := by
  refine bt_ext (qshl_rng _ _) (qshl_rng _ _) (fun i hi => ?_)
  rw [bt_shl1 (by omega) (by omega) hi, bt_qshl h0 (by omega)]
  have h2 : ∀ j : Nat, bt 2 j = decide (j = 1) := fun j => by
    by_cases hj : j < 32
    · rw [show (2 : Int) = ((2 : Nat) : Int) from rfl, bt_nat 2 j hj, show 2 = 2 ^ 1 from rfl, Nat.testBit_two_pow]
      congr 1; apply propext; omega
    · rw [bt_ge (by omega), decide_eq_false (by omega)]
  rw [h2, decide_eq_true hi]
  by_cases e : (i : Int) = v + 1
  · rw [decide_eq_true e, decide_eq_true (show v.toNat ≤ i by omega), decide_eq_true (show i - v.toNat = 1 by omega)]; rfl
  · rw [decide_eq_false e]
    by_cases g : v.toNat ≤ i
    · rw [decide_eq_false (show ¬ i - v.toNat = 1 by omega)]; simp
    · rw [decide_eq_false g]; simp
theorem bt_shl3 {b : Int} (h0 : 0 ≤ b) (h1 : b < 15) {i : Nat} (hi : i < 32) : bt (qshl 3 (2 * b)) i = decide ((i : Int) / 2 = b) := by
  rw [bt_qshl (by omega) (by omega)]
  have h2 : ∀ j : Nat, bt 3 j = decide (j < 2) := fun j => by
    by_cases hj : j < 32
    · rw [show (3 : Int) = ((3 : Nat) : Int) from rfl, bt_nat 3 j hj]
      have H : ∀ j : Fin 32, (3 : Nat).testBit j.val = decide (j.val < 2) := by decide +kernel
      exact H ⟨j, hj⟩
    · rw [bt_ge (by omega), decide_eq_false (by omega)]
  rw [h2, decide_eq_true hi]
  by_cases e : (i : Int) / 2 = b
  · rw [decide_eq_true e, decide_eq_true (show (2 * b).toNat ≤ i by omega), decide_eq_true (show i - (2 * b).toNat < 2 by omega)]; rfl
  · rw [decide_eq_false e]
    by_cases g : (2 * b).toNat ≤ i
    · rw [decide_eq_false (show ¬ i - (2 * b).toNat < 2 by omega)]; simp
    · rw [decide_eq_false g]; simp
theorem w32_2b {b : Int} (h0 : 0 ≤ b) (h1 : b < 1000) : w32 (2 * b) = 2 * b := w32_id (by omega) (by omega)
/-- the step's bit of a mask is in it or not, as whyNot asks it -/
theorem qand_bit {f : Int → Bool} {n : Nat} (hn : n ≤ 31) {v : Int} (h0 : 0 ≤ v) (h1 : v < n) : qand (mkM f n) (qshl 1 v) = 0 ↔ f v = false := by
  constructor
  · intro h
    have := congrArg (fun x => bt x v.toNat) h
    simp only [bt_qand, bt_0] at this
    rw [bt_mkM f (by omega) (by omega), bt_shl1 h0 (by omega) (by omega), show ((v.toNat : Nat) : Int) = v by omega, decide_eq_true (show v.toNat < n by omega), decide_eq_true rfl] at this
    simpa using this
  · intro h
    refine bt_ext (qand_rng _ _) (by decide) (fun i hi => ?_)
    rw [bt_qand, bt_0, bt_mkM f (by omega) hi, bt_shl1 h0 (by omega) hi]
    by_cases e : (i : Int) = v
    · rw [e, h]; simp
    · rw [decide_eq_false e]; simp
section
variable {h : mH} {q : Int} {t : tT}
theorem fre_low {t : tT} {row : Int → Int} {lo b : Int} (hl0 : 0 ≤ lo) (hz : ∀ k, 0 ≤ k → k < lo → row k = 0) (hn : lo < nb t → row lo ≠ 0) (hlb : lo ≤ nb t) (h0 : 0 ≤ b) (h1 : b < nb t) :
    fre row b = (decide (b = 0) || decide (b = (if lo < nb t ∧ row lo = 1 then lo + 1 else -1))) := by
  unfold fre
  by_cases e : b = 0
  · rw [decide_eq_true e]; rfl
  · rw [decide_eq_false e, Bool.false_or, Bool.false_or, Bool.eq_iff_iff, Bool.and_eq_true, decide_eq_true_eq, decide_eq_true_eq, allN_iff]
    constructor
    · rintro ⟨g1, g2⟩
      have e1 : lo = b - 1 := by
        by_cases e2 : lo < b - 1
        · exact absurd (of_decide_eq_true (g2 lo hl0 (by omega))) (hn (by omega))
        · by_cases e3 : b - 1 < lo
          · have := hz (b - 1) (by omega) e3; omega
          · omega
      rw [if_pos ⟨by omega, by rw [e1]; exact g1⟩]; omega
    · intro g
      by_cases g1 : lo < nb t ∧ row lo = 1
      · rw [if_pos g1] at g
        refine ⟨by rw [show b - 1 = lo by omega]; exact g1.2, fun k g2 g3 => decide_eq_true (hz k g2 (by omega))⟩
      · rw [if_neg g1] at g; omega
theorem s_Box_ableIn (B : BH h q t) (W : WS t) {a : Int} {row : Int → Int} (Q : RH h a (nb t) row) (R : RW t row) : f_Box_ableIn h q a = some ((0, mkM (abl t row) (2 * nb t).toNat), h) := by
  have hn := W.1
  have hQ := Q.2.1
  unfold f_Box_ableIn
  have H2 : ∀ (lo : Int), 0 ≤ lo → lo ≤ nb t → (∀ k, 0 ≤ k → k < lo → row k = 0) → (lo < nb t → row lo ≠ 0) → f_Box_ableIn_J22 q a lo h = some ((0, mkM (abl t row) (2 * nb t).toNat), h) := by
    intro lo hl0 hl1 hz hnz
    have e22 : f_Box_ableIn_J22 q a lo h = f_Box_ableIn_J44 q a (if lo < nb t ∧ row lo = 1 then lo + 1 else -1) h := by
      unfold f_Box_ableIn_J22 f_Box_ableIn_J43
      rw [chk_t B.T, B.s2]
      by_cases g : nb t ≤ lo
      · rw [if_pos g, if_neg (by omega)]
      · rw [if_neg g, chk_t Q.1, chk_t (by omega), Q.2.2 lo hl0 (by omega)]
        by_cases g2 : row lo = 1
        · rw [if_pos g2, if_pos ⟨by omega, g2⟩, w32_s hl0 (by omega)]
        · rw [if_neg g2, if_neg (fun x => g2 x.2)]
    rw [e22]
    generalize hfr : (if lo < nb t ∧ row lo = 1 then lo + 1 else -1) = fr
    have hfre : ∀ b, 0 ≤ b → b < nb t → fre row b = (decide (b = 0) || decide (b = fr)) := fun b h0 h1 => by rw [← hfr]; exact fre_low hl0 hz hnz hl1 h0 h1
    unfold f_Box_ableIn_J44
    refine loop_r (F := fun n (x : Int × Int) => f_Box_ableIn_L51 q a fr n h x.1 x.2) (P := fun o => o = _) (fun i x => x = (mkM (abl t row) (2 * i), (i : Int))) (nb t).toNat (fun i hi x hx n => ?_) (fun x hx n => ?_) (i := 0) (b := (0, 0)) rfl (by omega) (by omega)
    · subst hx
      right
      refine ⟨_, rfl, ?_⟩
      show f_Box_ableIn_L51 q a fr (n + 1) h (mkM (abl t row) (2 * i)) i = f_Box_ableIn_L51 q a fr n h (mkM (abl t row) (2 * (i + 1))) ((i + 1 : Nat) : Int)
      have hr := R i (by omega) (by omega)
      have hp := W.2.2.2.2.2.1 i (by omega) (by omega)
      have e85 : ∀ s0 : Int, (s0 = 0 ↔ ¬ ((i : Int) < ne t ∧ fre row i = false)) → f_Box_ableIn_J85 (f_Box_ableIn_L51 q a fr n) q a (mkM (abl t row) (2 * i)) i s0 h = f_Box_ableIn_L51 q a fr n h (mkM (abl t row) (2 * (i + 1))) ((i + 1 : Nat) : Int) := by
        intro s0 hs0
        have a0 : abl t row ((2 * i : Nat) : Int) = (decide (0 < row i) && !(decide ((i : Int) < ne t) && decide (row i = 1) && !fre row i)) := by
          unfold abl tow
          rw [show ((2 * i : Nat) : Int) / 2 = i by omega, show ((2 * i : Nat) : Int) % 2 = 0 by omega, if_pos rfl, decide_eq_true (show row i - 1 < pl t i by omega), Bool.and_true]
          congr 1
          · congr 1; apply propext; omega
          · congr 3; congr 1; apply propext; omega
        have a1 : abl t row ((2 * i + 1 : Nat) : Int) = (decide (row i < pl t i - 1) && !(decide ((i : Int) < ne t) && decide (row i = 0) && !fre row i)) := by
          unfold abl tow
          rw [show ((2 * i + 1 : Nat) : Int) / 2 = i by omega, show ((2 * i + 1 : Nat) : Int) % 2 = 1 by omega, if_neg (by decide), decide_eq_true (show 0 ≤ row i + 1 by omega), Bool.true_and]
          congr 1
          · congr 1; apply propext; omega
          · congr 3; congr 1; apply propext; omega
        have m2 : mkM (abl t row) (2 * (i + 1)) = if abl t row ((2 * i + 1 : Nat) : Int) = true then qor (mkM (abl t row) (2 * i + 1)) (qshl 2 (2 * i)) else mkM (abl t row) (2 * i + 1) := by
          show mkM (abl t row) (2 * i + 1 + 1) = _
          rw [mkM, qshl_2 (by omega) (by omega)]
          rfl
        have m1 : mkM (abl t row) (2 * i + 1) = if abl t row ((2 * i : Nat) : Int) = true then qor (mkM (abl t row) (2 * i)) (qshl 1 (2 * i)) else mkM (abl t row) (2 * i) := by
          rw [mkM]; rfl
        have e118 : ∀ x : Int, f_Box_ableIn_J118 (f_Box_ableIn_L51 q a fr n) q a x i s0 h = f_Box_ableIn_L51 q a fr n h (if abl t row ((2 * i + 1 : Nat) : Int) = true then qor x (qshl 2 (2 * i)) else x) ((i + 1 : Nat) : Int) := by
          intro x
          unfold f_Box_ableIn_J118 f_Box_ableIn_J157 f_Box_ableIn_J146 f_Box_ableIn_J157
          rw [chk_t Q.1, chk_t (by omega), chk_t B.T, chk_t B.T6, chk_t (by rw [B.L6]; omega), B.V6 i (by omega) (by omega), Q.2.2 i (by omega) (by omega), w32_id (x := pl t i - 1) (by omega) (by omega), a1]
          simp only [wtv, w32_n i (by omega)]
          rw [w32_2b (by omega) (by omega)]
          by_cases g : pl t i - 1 ≤ row i
          · rw [if_pos g, decide_eq_false (by omega)]; simp
          · rw [if_neg g, decide_eq_true (by omega), Bool.true_and]
            by_cases g2 : s0 = 0
            · rw [if_pos g2, if_pos]
              have := hs0.mp g2
              by_cases g3 : (i : Int) < ne t
              · rw [show fre row i = true by
                  cases hfr2 : fre row i
                  · exact absurd ⟨g3, hfr2⟩ this
                  · rfl]
                simp
              · rw [decide_eq_false g3]; simp
            · rw [if_neg g2, chk_t Q.1, chk_t (by omega)]
              have g3 : (i : Int) < ne t ∧ fre row i = false := Decidable.of_not_not (fun x => g2 (hs0.mpr x))
              rw [decide_eq_true g3.1, g3.2]
              by_cases g4 : row i = 0
              · rw [if_pos g4, decide_eq_true g4]; simp
              · rw [if_neg g4, decide_eq_false g4]; simp
        unfold f_Box_ableIn_J85 f_Box_ableIn_J107
        rw [chk_t Q.1, chk_t (by omega), Q.2.2 i (by omega) (by omega), m2, m1, a0]
        simp only [wtv, e118]
        rw [w32_2b (by omega) (by omega)]
        by_cases g : row i ≤ 0
        · have e5 : (decide (0 < row i) && !(decide ((i : Int) < ne t) && decide (row i = 1) && !fre row i)) = false := by
            rw [decide_eq_false (show ¬ 0 < row i by omega)]; rfl
          rw [if_pos g, e5, if_neg (show ¬ (false = true) by decide)]
        · have e6 : (decide (0 < row i)) = true := decide_eq_true (by omega)
          rw [if_neg g]
          by_cases g2 : s0 = 0
          · have := hs0.mp g2
            have e5 : (decide (0 < row i) && !(decide ((i : Int) < ne t) && decide (row i = 1) && !fre row i)) = true := by
              rw [e6]
              by_cases g3 : (i : Int) < ne t
              · rw [show fre row i = true by
                  cases hfr2 : fre row i
                  · exact absurd ⟨g3, hfr2⟩ this
                  · rfl]
                simp
              · rw [decide_eq_false g3]; rfl
            rw [if_pos g2, e5, if_pos (show (true = true) from rfl)]
          · have g3 : (i : Int) < ne t ∧ fre row i = false := Decidable.of_not_not (fun x => g2 (hs0.mpr x))
            rw [if_neg g2, chk_t Q.1, chk_t (by omega), e6, decide_eq_true g3.1, g3.2]
            by_cases g4 : row i = 1
            · rw [if_pos g4, decide_eq_true g4]; rfl
            · rw [if_neg g4, decide_eq_false g4]; rfl
      rw [f_Box_ableIn_L51, chk_t B.T, B.s2, if_neg (by omega), chk_t B.T, B.s4]
      unfold f_Box_ableIn_J84
      have hf := hfre i (by omega) (by omega)
      by_cases g1 : ne t ≤ i
      · rw [if_pos g1]; exact e85 0 ⟨fun _ => by omega, fun _ => rfl⟩
      · rw [if_neg g1]
        by_cases g2 : (i : Int) = 0
        · rw [if_pos g2]; refine e85 0 ⟨fun _ x => ?_, fun _ => rfl⟩
          rw [hf, decide_eq_true g2] at x; exact absurd x.2 (by simp)
        · rw [if_neg g2]
          by_cases g3 : (i : Int) = fr
          · rw [if_pos g3]; refine e85 0 ⟨fun _ x => ?_, fun _ => rfl⟩
            rw [hf, decide_eq_true g3] at x; exact absurd x.2 (by simp)
          · rw [if_neg g3]; refine e85 1 ⟨fun x => absurd x (by decide), fun x => absurd ⟨by omega, ?_⟩ x⟩
            rw [hf, decide_eq_false g2, decide_eq_false g3]; rfl
    · subst hx
      show f_Box_ableIn_L51 q a fr (n + 1) h _ _ = _
      rw [f_Box_ableIn_L51, chk_t B.T, B.s2, if_pos (by omega), show 2 * (nb t).toNat = (2 * nb t).toNat by omega]
  refine loop_r (F := fun n (x : Int) => f_Box_ableIn_L2 (fun h1 x2 => f_Box_ableIn_J22 q a x2 h1) q a n h x) (P := fun o => o = _) (fun i x => x = (i : Int) ∧ ∀ k : Int, 0 ≤ k → k < i → row k = 0) (nb t).toNat (fun i hi x hx n => ?_) (fun x hx n => ?_) (i := 0) (b := 0) ⟨rfl, fun k h1 h2 => by omega⟩ (by omega) (by omega)
  · obtain ⟨rfl, hx⟩ := hx
    show f_Box_ableIn_L2 _ q a (n + 1) h i = _ ∨ ∃ b', _ ∧ f_Box_ableIn_L2 _ q a (n + 1) h i = _
    rw [f_Box_ableIn_L2, chk_t B.T, B.s2, if_neg (by omega), chk_t Q.1, chk_t (by omega), Q.2.2 i (by omega) (by omega)]
    by_cases e : row i = 0
    · right
      rw [if_pos e, wtv, w32_n i (by omega)]
      refine ⟨_, ⟨rfl, fun k h1 h2 => ?_⟩, rfl⟩
      by_cases e2 : k = i
      · rw [e2]; exact e
      · exact hx k h1 (by omega)
    · left
      rw [if_neg e]
      exact H2 i (by omega) (by omega) hx (fun _ => e)
  · obtain ⟨rfl, hx⟩ := hx
    show f_Box_ableIn_L2 _ q a (n + 1) h _ = _
    rw [f_Box_ableIn_L2, chk_t B.T, B.s2, if_pos (by omega)]
    exact H2 _ (by omega) (by omega) hx (fun g => by omega)
end
