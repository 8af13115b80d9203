/-! LINES TO KEEP, as the reference counts them -/
def aT (t : tT) (V : Nat → Int) (o : Int) (len i j : Nat) : Nat → Int → Int
  | 0, s => if s = o then 1 else 0
  | r + 1, s => if len - (r + 1) ≠ i ∧ len - (r + 1) ≠ j then (if nF t s (V (len - (r + 1))) = -1 then 0 else aT t V o len i j r (nF t s (V (len - (r + 1))))) else sq (fun v => if nF t s v = -1 then 0 else aT t V o len i j r (nF t s v)) (nK t)
theorem sq_rng (f : Int → Int) : ∀ n : Nat, -9223372036854775808 ≤ sq f n ∧ sq f n < 9223372036854775808
  | 0 => by show (-9223372036854775808 : Int) ≤ 0 ∧ (0 : Int) < 9223372036854775808; decide
  | n + 1 => by show -9223372036854775808 ≤ w64 (sq f n + f n) ∧ w64 (sq f n + f n) < 9223372036854775808; unfold w64; omega
theorem sq_cn {f : Int → Int} {Q : Int → Bool} : ∀ {n : Nat}, n ≤ 100 → (∀ v : Int, 0 ≤ v → v < n → f v = b2i (Q v)) → sq f n = cnN Q n
  | 0, _, _ => rfl
  | n + 1, hn, h => by
    have := cnN_rng Q n
    show w64 (sq f n + f n) = cnN Q n + (if Q n = true then 1 else 0)
    rw [sq_cn (by omega) (fun v g0 g1 => h v g0 (by omega)), h n (by omega) (by omega), show b2i (Q n) = if Q n = true then 1 else 0 from rfl]
    exact w64_id (by split <;> omega) (by split <;> omega)
theorem cn_any {P : Int → Bool} : ∀ {n : Nat}, (∀ a b : Int, 0 ≤ a → a < n → 0 ≤ b → b < n → P a = true → P b = true → a = b) → cnN P n = b2i (anyN P n)
  | 0, _ => rfl
  | n + 1, h => by
    have ih := cn_any (P := P) (n := n) (fun a b h1 h2 h3 h4 => h a b h1 (by omega) h3 (by omega))
    rw [cnN, ih, anyN]
    cases g : P n
    · rw [Bool.or_false, if_neg (by decide)]; omega
    · have : anyN P n = false := Bool.eq_false_iff.mpr (fun q => by
        obtain ⟨a, a0, a1, a2⟩ := anyN_iff.mp q
        have := h a n a0 (by omega) (by omega) (by omega) a2 g
        omega)
      rw [this, if_pos rfl]; rfl
theorem sf_inj {t : tT} (W : WS t) {v w : Int} (v0 : 0 ≤ v) (v1 : v < 2 * nb t) (w0 : 0 ≤ w) (w1 : w < 2 * nb t) (h : sf t v = sf t w) : v = w := by
  have a := wg_rng W (b := v / 2) (by omega) (by omega)
  have b := wg_rng W (b := w / 2) (by omega) (by omega)
  have key : wg t (v / 2) = wg t (w / 2) ∧ v % 2 = w % 2 := by
    unfold sf at h
    by_cases g : v % 2 = 0 <;> by_cases g2 : w % 2 = 0
    · rw [if_pos g, if_pos g2] at h; omega
    · rw [if_pos g, if_neg g2] at h; omega
    · rw [if_neg g, if_pos g2] at h; omega
    · rw [if_neg g, if_neg g2] at h; omega
  have : v / 2 = w / 2 := by
    by_cases g : v / 2 < w / 2
    · have := wg_lt W (b := v / 2) (d := w / 2) (by omega) g (by omega); omega
    · by_cases g2 : w / 2 < v / 2
      · have := wg_lt W (b := w / 2) (d := v / 2) (by omega) g2 (by omega); omega
      · omega
  omega
section
variable {t : tT}
theorem nF_yes (W : WS t) {s v : Int} (h0 : 0 ≤ s) (h1 : s < nS t) (g : gs t s v = true) : nF t s v = s + sf t v ∧ nF t s v ≠ -1 := by
  have a := gs_to W h0 h1 g
  have e : nF t s v = s + sf t v := by
    show th t false X0 (wS t) s v = _
    unfold th; exact if_pos g
  exact ⟨e, by omega⟩
/-- a verse that leads from line to line -/
def VX (t : tT) (V P : Nat → Int) (len : Nat) (o : Int) : Prop := (∀ l, l < len → nF t (P l) (V l) = P (l + 1) ∧ gs t (P l) (V l) = true ∧ P (l + 1) = P l + sf t (V l)) ∧ (∀ l, l ≤ len → 0 ≤ P l ∧ P l < nS t) ∧ P len = o
theorem VX_of (W : WS t) {o z : Int} (ho0 : 0 ≤ o) (ho1 : o < nS t) (h0 : 0 ≤ z) (h1 : z < nS t) {len : Nat} (hl : bF (SB t o) z = len) : VX t (wln t (SB t o) z) (wlk t (SB t o) z) len o := by
  have ws : ∀ i : Nat, i ≤ len → _ := fun i hi => wlk_spec W ho0 ho1 h0 h1 (i := i) (by omega)
  refine ⟨fun l hlt => ?_, fun l hle => (ws l hle).1, ?_⟩
  · have w := ws l (by omega)
    have ls := lnx_spec W ho0 ho1 w.1.1 w.1.2 (by omega)
    have e : wlk t (SB t o) z (l + 1) = wlk t (SB t o) z l + sf t (wln t (SB t o) z l) := rfl
    exact ⟨((nF_yes W w.1.1 w.1.2 ls.2.1).1).trans e.symm, ls.2.1, e⟩
  · have w := ws len (Nat.le_refl _)
    have B := SB_B W ho0 ho1
    exact (B.2.2.2.2.2.2.1 _).mp (by omega)
/-- all lines told: only from where the verse stands -/
theorem aT_told (W : WS t) {V P : Nat → Int} {len : Nat} {o : Int} (X : VX t V P len o) {i j : Nat} : ∀ {r : Nat}, r ≤ len → (∀ l, len - r ≤ l → l < len → l ≠ i ∧ l ≠ j) → ∀ {s : Int}, 0 ≤ s → s < nS t → aT t V o len i j r s = if s = P (len - r) then 1 else 0
  | 0, _, _, s, _, _ => by rw [aT, Nat.sub_zero, X.2.2]
  | r + 1, hr, h, s, s0, s1 => by
    have hn := h (len - (r + 1)) (Nat.le_refl _) (by omega)
    have x := X.1 (len - (r + 1)) (by omega)
    have e : len - (r + 1) + 1 = len - r := by omega
    rw [e] at x
    have hp := X.2.1 (len - (r + 1)) (by omega)
    have hp2 := X.2.1 (len - r) (by omega)
    rw [aT, if_pos hn]
    rcases nF_rng W (v := V (len - (r + 1))) s0 s1 with g | g
    · rw [if_pos g, if_neg]
      intro q; rw [q, x.1] at g; omega
    · rw [if_neg (by omega), aT_told W X (by omega) (fun l g0 g1 => h l (by omega) g1) g.2.2.1 g.2.2.2.1]
      by_cases q : s = P (len - (r + 1))
      · rw [if_pos q, if_pos (by rw [q, x.1])]
      · rw [if_neg q, if_neg (by omega)]
/-- the last line that isn't told: can one step lead on -/
theorem aT_last (W : WS t) {V P : Nat → Int} {len : Nat} {o : Int} (X : VX t V P len o) {i j : Nat} (hj : j < len) (hij : i ≤ j) {s : Int} (s0 : 0 ≤ s) (s1 : s < nS t) : aT t V o len i j (len - j) s = b2i (ldT t s (P (j + 1))) := by
  have hk := nK_rng W
  obtain ⟨r, hr⟩ : ∃ r, len - j = r + 1 := ⟨len - j - 1, by omega⟩
  have e1 : len - (r + 1) = j := by omega
  have e2 : len - r = j + 1 := by omega
  rw [hr, aT, e1, if_neg (fun q => q.2 rfl), sq_cn (Q := fun v => gs t s v && decide (s + sf t v = P (j + 1))) (by omega) (fun v g0 g1 => ?_), cn_any (fun a b a0 a1 b0_ b1 ga gb => ?_)]
  · rfl
  · rw [Bool.and_eq_true] at ga gb
    have := of_decide_eq_true ga.2
    have := of_decide_eq_true gb.2
    exact sf_inj W a0 (by omega) b0_ (by omega) (by omega)
  · cases g : gs t s v
    · have : nF t s v = -1 := by
        show th t false X0 (wS t) s v = _
        unfold th; exact if_neg (by show ¬ gs t s v = true; rw [g]; decide)
      rw [if_pos this]; rfl
    · have q := nF_yes W s0 s1 g
      have q2 := gs_to W s0 s1 g
      rw [if_neg q.2, aT_told W X (by omega) (fun l g0 g1 => by omega) (by omega) (by omega), e2, q.1, Bool.true_and]
      unfold b2i
      by_cases g3 : s + sf t v = P (j + 1)
      · rw [if_pos g3, decide_eq_true g3]; rfl
      · rw [if_neg g3, decide_eq_false g3]; rfl
/-- from a line to a later one, all told -/
theorem aT_on (W : WS t) {V P : Nat → Int} {len : Nat} {o : Int} (X : VX t V P len o) {i j : Nat} : ∀ {l : Nat}, l ≤ i → i < len → i ≤ j → aT t V o len i j len (P 0) = aT t V o len i j (len - l) (P l)
  | 0, _, _, _ => by rw [Nat.sub_zero]
  | l + 1, h, h2, h3 => by
    rw [aT_on W X (l := l) (by omega) h2 h3]
    have x := X.1 l (by omega)
    have hp := X.2.1 (l + 1) (by omega)
    obtain ⟨r, hr⟩ : ∃ r, len - l = r + 1 := ⟨len - l - 1, by omega⟩
    rw [hr, aT, show len - (r + 1) = l by omega, if_pos ⟨by omega, by omega⟩, if_neg (by rw [x.1]; omega), x.1, show len - (l + 1) = r by omega]
theorem kT_one (W : WS t) {V P : Nat → Int} {len : Nat} {o : Int} (X : VX t V P len o) {i : Nat} (hi : i < len) : aT t V o len i i len (P 0) = 1 := by
  rw [aT_on W X (Nat.le_refl i) hi (Nat.le_refl i), aT_last W X hi (Nat.le_refl i) (X.2.1 i (by omega)).1 (X.2.1 i (by omega)).2]
  have x := X.1 i hi
  have q := gs_to W (X.2.1 i (by omega)).1 (X.2.1 i (by omega)).2 x.2.1
  have : ldT t (P i) (P (i + 1)) = true := anyN_iff.mpr ⟨V i, q.1.1, by have := nK_rng W; omega, by rw [x.2.1, decide_eq_true x.2.2.symm]; rfl⟩
  rw [this]; rfl
theorem kT_two (W : WS t) {S : tB} {z : Int} {len : Nat} {o : Int} (X : VX t (wln t S z) (wlk t S z) len o) {i m : Nat} (hm : i + 1 + m < len) : aT t (wln t S z) o len i (i + 1 + m) len (wlk t S z 0) = kc t S z i m := by
  have hk := nK_rng W
  have hp := X.2.1 i (by omega)
  have between : ∀ (v : Int) (q : Nat), q ≤ m → (if ldV t S z i v 0 = -1 then 0 else aT t (wln t S z) o len i (i + 1 + m) (len - (i + 1)) (ldV t S z i v 0)) = (if ldV t S z i v q = -1 then 0 else aT t (wln t S z) o len i (i + 1 + m) (len - (i + 1 + q)) (ldV t S z i v q)) := fun v q => by
    induction q with
    | zero => intro _; rfl
    | succ q ih =>
      intro hq
      rw [ih (by omega)]
      have e : ldV t S z i v (q + 1) = if ldV t S z i v q = -1 then -1 else nF t (ldV t S z i v q) (wln t S z (i + 1 + q)) := rfl
      by_cases g : ldV t S z i v q = -1
      · rw [if_pos g, e, if_pos g, if_pos rfl]
      · obtain ⟨r, hr⟩ : ∃ r, len - (i + 1 + q) = r + 1 := ⟨len - (i + 1 + q) - 1, by omega⟩
        rw [if_neg g, e, if_neg g, hr, aT, show len - (r + 1) = i + 1 + q by omega, if_pos ⟨by omega, by omega⟩, show len - (i + 1 + (q + 1)) = r by omega]
  rw [aT_on W X (Nat.le_refl i) (by omega) (by omega)]
  obtain ⟨r, hr⟩ : ∃ r, len - i = r + 1 := ⟨len - i - 1, by omega⟩
  have each : ∀ v : Int, (if nF t (wlk t S z i) v = -1 then 0 else aT t (wln t S z) o len i (i + 1 + m) r (nF t (wlk t S z i) v)) = b2i (kcQ t S z i m v) := fun v => by
    have b := between v m (Nat.le_refl m)
    rw [show len - (i + 1) = r by omega] at b
    have e0 : ldV t S z i v 0 = nF t (wlk t S z i) v := rfl
    rw [e0] at b
    rw [b]
    unfold kcQ
    rcases ldV_rng W (v := v) hp m with g | g
    · rw [if_pos g, decide_eq_false (fun q => q g)]; rfl
    · rw [if_neg (by omega), aT_last W X hm (by omega) g.1 g.2, decide_eq_true (show ldV t S z i v m ≠ -1 by omega), Bool.true_and]
  rw [hr, aT, show len - (r + 1) = i by omega, if_neg (fun q => q.1 rfl), sq_cn (by omega) (fun v _ _ => each v)]
  unfold kc
  have ext : ∀ n : Nat, nK t ≤ n → cnN (kcQ t S z i m) n = cnN (kcQ t S z i m) (nK t) := fun n => by
    induction n with
    | zero => intro h; rw [show nK t = 0 by omega]
    | succ n ih =>
      intro h
      by_cases g : nK t = n + 1
      · rw [g]
      · have : kcQ t S z i m n = false := by
          have e : ldV t S z i n m = -1 := by
            have e0 : ldV t S z i n 0 = -1 := by
              rcases nF_rng W (v := (n : Int)) hp.1 hp.2 with q | q
              · exact q
              · omega
            have : ∀ q, ldV t S z i n q = -1 := fun q => by
              induction q with
              | zero => exact e0
              | succ q ih => rw [ldV, if_pos ih]
            exact this m
          unfold kcQ; rw [decide_eq_false (fun q => q e)]; rfl
        rw [cnN, this, ih (by omega), if_neg (by decide)]; omega
  exact (ext 18 (by omega)).symm
theorem kc_pos (W : WS t) {S : tB} {z : Int} {len : Nat} {o : Int} (X : VX t (wln t S z) (wlk t S z) len o) {i m : Nat} (hm : i + 1 + m < len) : 1 ≤ kc t S z i m := by
  have hk := nK_rng W
  have walk : ∀ q, q ≤ m → ldV t S z i (wln t S z i) q = wlk t S z (i + 1 + q) := fun q => by
    induction q with
    | zero => intro _; exact (X.1 i (by omega)).1
    | succ q ih =>
      intro hq
      have hp := X.2.1 (i + 1 + q) (by omega)
      rw [ldV, ih (by omega), if_neg (by omega), (X.1 (i + 1 + q) (by omega)).1]; rfl
  have x := X.1 i (by omega)
  have q := gs_to W (X.2.1 i (by omega)).1 (X.2.1 i (by omega)).2 x.2.1
  have hq : kcQ t S z i m (wln t S z i) = true := by
    have x2 := X.1 (i + 1 + m) hm
    have hp2 := X.2.1 (i + 1 + m) (by omega)
    have q2 := gs_to W hp2.1 hp2.2 x2.2.1
    unfold kcQ
    rw [walk m (Nat.le_refl m), decide_eq_true (show wlk t S z (i + 1 + m) ≠ -1 by omega), Bool.true_and]
    exact anyN_iff.mpr ⟨wln t S z (i + 1 + m), q2.1.1, by omega, by rw [x2.2.1, decide_eq_true x2.2.2.symm]; rfl⟩
  have r := cnN_rng (kcQ t S z i m) 18
  have : cnN (kcQ t S z i m) 18 ≠ 0 := fun e => by
    have := cnN_zero e q.1.1 (show wln t S z i < ((18 : Nat) : Int) by omega)
    rw [this] at hq; exact absurd hq (by decide)
  unfold kc; omega
end
