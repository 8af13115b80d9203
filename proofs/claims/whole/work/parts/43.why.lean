/-! WHY A STEP DOESN'T GO: by rules (the reference's way), by masks (the class's way) -/
def allN (P : Int → Bool) : Nat → Bool
  | 0 => true
  | n + 1 => allN P n && P n
def anyN (P : Int → Bool) : Nat → Bool
  | 0 => false
  | n + 1 => anyN P n || P n
theorem allN_iff {P : Int → Bool} : ∀ {n : Nat}, allN P n = true ↔ ∀ i : Int, 0 ≤ i → i < n → P i = true
  | 0 => ⟨fun _ i h1 h2 => absurd h2 (by omega), fun _ => rfl⟩
  | n + 1 => by
    rw [allN, Bool.and_eq_true, allN_iff]
    refine ⟨fun h i h1 h2 => ?_, fun h => ⟨fun i h1 h2 => h i h1 (by omega), h n (by omega) (by omega)⟩⟩
    by_cases e : i = n
    · rw [e]; exact h.2
    · exact h.1 i h1 (by omega)
theorem anyN_iff {P : Int → Bool} : ∀ {n : Nat}, anyN P n = true ↔ ∃ i : Int, 0 ≤ i ∧ i < n ∧ P i = true
  | 0 => ⟨fun h => absurd h Bool.false_ne_true, fun ⟨i, h1, h2, _⟩ => absurd h2 (by omega)⟩
  | n + 1 => by
    rw [anyN, Bool.or_eq_true, anyN_iff]
    constructor
    · rintro (⟨i, h1, h2, h3⟩ | h)
      · exact ⟨i, h1, by omega, h3⟩
      · exact ⟨n, by omega, by omega, h⟩
    · rintro ⟨i, h1, h2, h3⟩
      by_cases e : i = n
      · right; rw [← e]; exact h3
      · left; exact ⟨i, h1, by omega, h3⟩
theorem allN_congr {P Q : Int → Bool} {n : Nat} (h : ∀ i : Int, 0 ≤ i → i < n → P i = Q i) : allN P n = allN Q n := by
  rw [Bool.eq_iff_iff, allN_iff, allN_iff]
  exact ⟨fun g i h1 h2 => by rw [← h i h1 h2]; exact g i h1 h2, fun g i h1 h2 => by rw [h i h1 h2]; exact g i h1 h2⟩
theorem anyN_congr {P Q : Int → Bool} {n : Nat} (h : ∀ i : Int, 0 ≤ i → i < n → P i = Q i) : anyN P n = anyN Q n := by
  rw [Bool.eq_iff_iff, anyN_iff, anyN_iff]
  exact ⟨fun ⟨i, h1, h2, g⟩ => ⟨i, h1, h2, by rw [← h i h1 h2]; exact g⟩, fun ⟨i, h1, h2, g⟩ => ⟨i, h1, h2, by rw [h i h1 h2]; exact g⟩⟩
def fT (t : tT) (row : Int → Int) (r f : Int) : Bool := (decide (row (fb t r f) = fp t r f) == decide (fn t r f = 0))
def hR (t : tT) (row : Int → Int) (r : Int) : Bool := allN (fT t row r) (rn t r).toNat
def mc (t : tT) (b f u r : Int) : Bool := decide (rb t r = b) && decide (rf t r = f) && decide (rt t r = u)
def rld (t : tT) (b f u : Int) : Bool := anyN (mc t b f u) (nr t).toNat
def hld (t : tT) (row : Int → Int) (b f u : Int) : Bool := anyN (fun r => mc t b f u r && hR t row r) (nr t).toNat
def xm (X : tT) (b f u : Int) : Bool := decide (X 0 = b) && decide (X 1 = f) && decide (X 2 = u)
def xh (X : tT) (row : Int → Int) : Bool := (decide (row (X 4) = X 6) == decide (X 5 = 0))
def fre (row : Int → Int) (b : Int) : Bool := decide (b = 0) || (decide (row (b - 1) = 1) && allN (fun k => decide (row k = 0)) (b - 1).toNat)
def tow (row : Int → Int) (b up : Int) : Int := if up = 0 then row b - 1 else row b + 1
def why (t : tT) (x : Bool) (X : tT) (row : Int → Int) (wn : Int → Bool) (b up : Int) : Int :=
  if b < 0 ∨ nb t ≤ b then 1 else
  if tow row b up < 0 ∨ pl t b ≤ tow row b up then 2 else
  if b < ne t ∧ row b + tow row b up = 1 ∧ fre row b = false then 3 else
  if wn b = true then 0 else
  if (hld t row b (row b) (tow row b up) || (x && xm X b (row b) (tow row b up) && xh X row)) = true then 0 else
  if (rld t b (row b) (tow row b up) || (x && xm X b (row b) (tow row b up))) = true then 4 else 0
theorem fT_congr {t : tT} {r1 r2 : Int → Int} (W : WS t) (h : ∀ b, 0 ≤ b → b < nb t → r1 b = r2 b) {r : Int} (h0 : 0 ≤ r) (h1 : r < nr t) : hR t r1 r = hR t r2 r := by
  unfold hR
  refine allN_congr fun f h2 h3 => ?_
  have := (W.2.2.2.2.2.2 r h0 h1).2.2.2.2.2 f h2 (by omega)
  unfold fT; rw [h _ this.1.1 this.1.2]
theorem hld_congr {t : tT} {r1 r2 : Int → Int} (W : WS t) (h : ∀ b, 0 ≤ b → b < nb t → r1 b = r2 b) (b f u : Int) : hld t r1 b f u = hld t r2 b f u := by
  unfold hld
  exact anyN_congr fun r h0 h1 => by rw [fT_congr W h h0 (by omega)]
theorem fre_congr {t : tT} {r1 r2 : Int → Int} (h : ∀ b, 0 ≤ b → b < nb t → r1 b = r2 b) {b : Int} (h0 : 0 ≤ b) (h1 : b < nb t) : fre r1 b = fre r2 b := by
  unfold fre
  by_cases e : b = 0
  · simp [e]
  · rw [h (b - 1) (by omega) (by omega), allN_congr fun k h2 h3 => by rw [h k h2 (by omega)]]
/-- why looks at the places of its bars alone -/
theorem why_congr {t : tT} {x : Bool} {X : tT} {r1 r2 : Int → Int} {w1 w2 : Int → Bool} (W : WS t) (hx : x = true → 0 ≤ X 4 ∧ X 4 < nb t) (h : ∀ b, 0 ≤ b → b < nb t → r1 b = r2 b) (hw : ∀ b, 0 ≤ b → b < nb t → w1 b = w2 b) (b up : Int) : why t x X r1 w1 b up = why t x X r2 w2 b up := by
  unfold why
  by_cases hb : b < 0 ∨ nb t ≤ b
  · rw [if_pos hb, if_pos hb]
  · rw [if_neg hb, if_neg hb]
    have h0 : 0 ≤ b := by omega
    have h1 : b < nb t := by omega
    have e1 : tow r1 b up = tow r2 b up := by unfold tow; rw [h b h0 h1]
    have e2 : (x && xm X b (r1 b) (tow r1 b up) && xh X r1) = (x && xm X b (r2 b) (tow r2 b up) && xh X r2) := by
      cases x with
      | false => rfl
      | true =>
        have := hx rfl
        rw [h b h0 h1, e1]
        unfold xh; rw [h _ this.1 this.2]
    rw [e2, e1, h b h0 h1, hw b h0 h1, hld_congr W h, fre_congr h h0 h1]
/-- a step by its number -/
def go (t : tT) (x : Bool) (X : tT) (wn : Int → Bool) (s v : Int) : Bool := decide (why t x X (dg t s) wn (v / 2) (v % 2) = 0)
def sf (t : tT) (v : Int) : Int := if v % 2 = 0 then - wg t (v / 2) else wg t (v / 2)
def th (t : tT) (x : Bool) (X : tT) (wn : Int → Bool) (s v : Int) : Int := if go t x X wn s v = true then s + sf t v else -1
theorem go_rng {t : tT} {x : Bool} {X : tT} {wn : Int → Bool} {s v : Int} (h : go t x X wn s v = true) : 0 ≤ v ∧ v < 2 * nb t ∧ 0 ≤ tow (dg t s) (v / 2) (v % 2) ∧ tow (dg t s) (v / 2) (v % 2) < pl t (v / 2) := by
  have h := of_decide_eq_true h
  unfold why at h
  by_cases hb : v / 2 < 0 ∨ nb t ≤ v / 2
  · rw [if_pos hb] at h; exact absurd h (by decide)
  · rw [if_neg hb] at h
    by_cases hc : tow (dg t s) (v / 2) (v % 2) < 0 ∨ pl t (v / 2) ≤ tow (dg t s) (v / 2) (v % 2)
    · rw [if_pos hc] at h; exact absurd h (by decide)
    · omega
/-- where a step that goes leads to -/
theorem go_to {t : tT} (W : WS t) {s v : Int} (hs0 : 0 ≤ s) (hs1 : s < nS t) (h0 : 0 ≤ v) (h1 : v < 2 * nb t) (h2 : 0 ≤ tow (dg t s) (v / 2) (v % 2)) (h3 : tow (dg t s) (v / 2) (v % 2) < pl t (v / 2)) :
    0 ≤ s + sf t v ∧ s + sf t v < nS t ∧ ∀ c, 0 ≤ c → c < nb t → dg t (s + sf t v) c = if c = v / 2 then tow (dg t s) (v / 2) (v % 2) else dg t s c := by
  have e : s + sf t v = s + (tow (dg t s) (v / 2) (v % 2) - dg t s (v / 2)) * wg t (v / 2) := by
    unfold sf tow
    by_cases hv : v % 2 = 0
    · rw [if_pos hv, if_pos hv, show dg t s (v / 2) - 1 - dg t s (v / 2) = -1 by omega]; omega
    · rw [if_neg hv, if_neg hv, show dg t s (v / 2) + 1 - dg t s (v / 2) = 1 by omega]; omega
  rw [e]
  exact dg_step W hs0 hs1 (by omega) (by omega) h2 h3
theorem th_rng {t : tT} (W : WS t) {x : Bool} {X : tT} {wn : Int → Bool} {s v : Int} (hs0 : 0 ≤ s) (hs1 : s < nS t) (h : th t x X wn s v ≠ -1) : go t x X wn s v = true ∧ th t x X wn s v = s + sf t v ∧ 0 ≤ s + sf t v ∧ s + sf t v < nS t := by
  unfold th at h ⊢
  by_cases hg : go t x X wn s v = true
  · rw [if_pos hg] at h ⊢
    obtain ⟨a, b, c, d⟩ := go_rng hg
    have := go_to W hs0 hs1 a b c d
    exact ⟨hg, rfl, this.1, this.2.1⟩
  · rw [if_neg hg] at h; exact absurd rfl h
/-- the class's masks, bit by bit -/
def fr1 (t : tT) (row : Int → Int) (b : Int) : Bool := decide (b = 0) || (decide (row (b - 1) = 1) && allN (fun k => decide (row k = 0)) (b - 1).toNat)
def abl (t : tT) (row : Int → Int) (v : Int) : Bool := decide (0 ≤ tow row (v / 2) (v % 2)) && decide (tow row (v / 2) (v % 2) < pl t (v / 2)) && !(decide (v / 2 < ne t) && decide (row (v / 2) + tow row (v / 2) (v % 2) = 1) && !fre row (v / 2))
def shu (t : tT) (row : Int → Int) (v : Int) : Bool := rld t (v / 2) (row (v / 2)) (tow row (v / 2) (v % 2)) && !hld t row (v / 2) (row (v / 2)) (tow row (v / 2) (v % 2))
theorem hld_rld {t : tT} {row : Int → Int} {b f u : Int} (h : hld t row b f u = true) : rld t b f u = true := by
  unfold hld at h; unfold rld
  rw [anyN_iff] at h ⊢
  obtain ⟨i, h1, h2, h3⟩ := h
  rw [Bool.and_eq_true] at h3
  exact ⟨i, h1, h2, h3.1⟩
/-- why, out of the masks -/
theorem why_mask {t : tT} {row : Int → Int} {wn : Int → Bool} {b up : Int} {X : tT} (h0 : 0 ≤ b) (h1 : b < nb t) (hu : up = 0 ∨ up = 1) :
    why t false X row wn b up = if tow row b up < 0 ∨ pl t b ≤ tow row b up then 2 else if abl t row (2 * b + up) = false then 3 else if (shu t row (2 * b + up) && !wn b) = true then 4 else 0 := by
  have e1 : (2 * b + up) / 2 = b := by omega
  have e2 : (2 * b + up) % 2 = up := by omega
  unfold why abl shu
  rw [e1, e2, if_neg (by omega)]
  by_cases h2 : tow row b up < 0 ∨ pl t b ≤ tow row b up
  · rw [if_pos h2, if_pos h2]
  · rw [if_neg h2, if_neg h2]
    rw [show decide (0 ≤ tow row b up) = true from decide_eq_true (by omega), show decide (tow row b up < pl t b) = true from decide_eq_true (by omega)]
    by_cases h3 : b < ne t ∧ row b + tow row b up = 1 ∧ fre row b = false
    · rw [if_pos h3, if_pos]
      simp [h3.1, h3.2.1, h3.2.2]
    · have e4 : (true && true && !(decide (b < ne t) && decide (row b + tow row b up = 1) && !fre row b)) = true := by
        simp only [Bool.true_and, Bool.not_eq_true', Bool.and_eq_false_iff, decide_eq_false_iff_not, Bool.not_eq_false']
        by_cases q1 : b < ne t
        · by_cases q2 : row b + tow row b up = 1
          · right
            cases hf : fre row b
            · exact absurd ⟨q1, q2, hf⟩ h3
            · rfl
          · left; right; exact q2
        · left; left; exact q1
      rw [if_neg h3, e4, if_neg (show ¬ (true = false) by decide)]
      cases wn b <;> cases hh : hld t row b (row b) (tow row b up) <;> cases hr : rld t b (row b) (tow row b up) <;> simp
theorem go_mask {t : tT} {wn : Int → Bool} {s v : Int} {X : tT} (h0 : 0 ≤ v) (h1 : v < 2 * nb t) : go t false X wn s v = (abl t (dg t s) v && (!shu t (dg t s) v || wn (v / 2))) := by
  have hv : 2 * (v / 2) + v % 2 = v := by omega
  unfold go
  rw [why_mask (by omega) (by omega) (by omega), hv]
  by_cases h2 : tow (dg t s) (v / 2) (v % 2) < 0 ∨ pl t (v / 2) ≤ tow (dg t s) (v / 2) (v % 2)
  · rw [if_pos h2]
    have : abl t (dg t s) v = false := by
      unfold abl
      rcases h2 with h2 | h2
      · rw [show decide (0 ≤ tow (dg t s) (v / 2) (v % 2)) = false from decide_eq_false (by omega)]; rfl
      · rw [show decide (tow (dg t s) (v / 2) (v % 2) < pl t (v / 2)) = false from decide_eq_false (by omega)]; simp
    rw [this]; rfl
  · rw [if_neg h2]
    cases abl t (dg t s) v <;> cases shu t (dg t s) v <;> cases wn (v / 2) <;> rfl
