/-! TWO BY TURNS: nodes are twice a stand, one more when it is the other's turn -/
theorem vx_vx (v : Int) : vx (vx v) = v := by unfold vx; split <;> split <;> omega
theorem qxor1b {v : Int} (h0 : 0 ≤ v) (h1 : v < 2147483646) : qxor v 1 = vx v := by
  have hr : -2147483648 ≤ vx v ∧ vx v < 2147483648 := by unfold vx; split <;> omega
  have h2 : vx v / 2 = v / 2 := by unfold vx; split <;> omega
  refine bt_ext (qxor_rng _ _) hr (fun i hi => ?_)
  rw [bt_qxor, bt_1, bt_div (by omega) (by omega) hi, bt_div hr.1 hr.2 hi]
  cases i with
  | zero =>
    rw [show ((2 : Int) ^ 0) = 1 from rfl, Int.ediv_one, Int.ediv_one]
    unfold vx
    by_cases e : v % 2 = 0
    · rw [if_pos e, decide_eq_false (show ¬ v % 2 = 1 by omega), decide_eq_true (show (v + 1) % 2 = 1 by omega)]; rfl
    · rw [if_neg e, decide_eq_true (show v % 2 = 1 by omega), decide_eq_false (show ¬ (v - 1) % 2 = 1 by omega)]; rfl
  | succ i =>
    rw [Int.pow_succ', ← Int.ediv_ediv_of_nonneg (by decide), ← Int.ediv_ediv_of_nonneg (by decide), h2, decide_eq_false (show ¬ (i + 1 = 0) by omega), Bool.xor_false]
def stp0 (t : tT) (s : Int) : Bool := anyN (fun v => gs t s v) (nK t)
def tg (t : tT) (n v : Int) : Int := 2 * (n / 2 + sf t v) + (1 - n % 2)
def en2 (t : tT) (P : Int → Bool) (Q : Int → Int → Bool) (n : Int) : Bool :=
  if stp0 t (n / 2) = false then P (vx n) else
  if n % 2 = 0 then anyN (fun v => gs t (n / 2) v && Q (tg t n v) v) (nK t) else allN (fun v => !gs t (n / 2) v || Q (tg t n v) v) (nK t)
def en (t : tT) (P : Int → Bool) (n : Int) : Bool := en2 t P (fun m _ => P m) n
/-- the first has it so within d steps -/
def wn (t : tT) : Nat → Int → Bool
  | 0, n => decide (n / 2 = st t (po t))
  | d + 1, n => wn t d n || en t (wn t d) n
def RK (t : tT) (n d : Int) : Prop := 0 ≤ d ∧ wn t d.toNat n = true ∧ ∀ e : Nat, (e : Int) < d → wn t e n = false
def KY (t : tT) (d : Int) : Prop := (d = -1 ∧ wn t 60 (2 * st t (pa t)) = false) ∨ (d ≤ 60 ∧ RK t (2 * st t (pa t)) d)
theorem gs_to {t : tT} (W : WS t) {s v : Int} (h0 : 0 ≤ s) (h1 : s < nS t) (h : gs t s v = true) : (0 ≤ v ∧ v < 2 * nb t) ∧ 0 ≤ s + sf t v ∧ s + sf t v < nS t := by
  obtain ⟨a, b, c, d⟩ := go_rng h
  have := go_to W h0 h1 a b c d
  exact ⟨⟨a, b⟩, this.1, this.2.1⟩
theorem tg_rng {t : tT} (W : WS t) {n v : Int} (h0 : 0 ≤ n) (h1 : n < 2 * nS t) (h : gs t (n / 2) v = true) : 0 ≤ tg t n v ∧ tg t n v < 2 * nS t := by
  have := (gs_to W (s := n / 2) (by omega) (by omega) h).2
  unfold tg; omega
theorem vx_rng {n m : Int} (h0 : 0 ≤ n) (h1 : n < 2 * m) : 0 ≤ vx n ∧ vx n < 2 * m ∧ vx n / 2 = n / 2 := by unfold vx; split <;> omega
theorem en2_congr {t : tT} {P P' : Int → Bool} {Q Q' : Int → Int → Bool} {n : Int} (hP : stp0 t (n / 2) = false → P (vx n) = P' (vx n)) (hQ : ∀ v, 0 ≤ v → v < (nK t : Int) → gs t (n / 2) v = true → Q (tg t n v) v = Q' (tg t n v) v) : en2 t P Q n = en2 t P' Q' n := by
  unfold en2
  by_cases e : stp0 t (n / 2) = false
  · rw [if_pos e, if_pos e, hP e]
  · rw [if_neg e, if_neg e]
    by_cases e2 : n % 2 = 0
    · rw [if_pos e2, if_pos e2]
      refine anyN_congr fun v g0 g1 => ?_
      cases g : gs t (n / 2) v
      · rfl
      · rw [hQ v g0 g1 g]
    · rw [if_neg e2, if_neg e2]
      refine allN_congr fun v g0 g1 => ?_
      cases g : gs t (n / 2) v
      · rfl
      · rw [hQ v g0 g1 g]
theorem en_mono {t : tT} (W : WS t) {P Q : Int → Bool} {n : Int} (h0 : 0 ≤ n) (h1 : n < 2 * nS t) (h : ∀ m, 0 ≤ m → m < 2 * nS t → P m = true → Q m = true) (he : en t P n = true) : en t Q n = true := by
  unfold en en2 at he ⊢
  by_cases e : stp0 t (n / 2) = false
  · rw [if_pos e] at he ⊢
    have := vx_rng h0 h1
    exact h _ this.1 this.2.1 he
  · rw [if_neg e] at he ⊢
    by_cases e2 : n % 2 = 0
    · rw [if_pos e2] at he ⊢
      rw [anyN_iff] at he ⊢
      obtain ⟨v, g0, g1, g2⟩ := he
      rw [Bool.and_eq_true] at g2
      have := tg_rng W h0 h1 g2.1
      refine ⟨v, g0, g1, ?_⟩
      show (gs t (n / 2) v && Q (tg t n v)) = true
      rw [g2.1]; exact h _ this.1 this.2 g2.2
    · rw [if_neg e2] at he ⊢
      rw [allN_iff] at he ⊢
      intro v g0 g1
      have g2 := he v g0 g1
      cases g : gs t (n / 2) v
      · rfl
      · rw [g, Bool.not_true, Bool.false_or] at g2
        have := tg_rng W h0 h1 g
        show Q (tg t n v) = true
        exact h _ this.1 this.2 g2
theorem wn_le {t : tT} {n : Int} {d : Nat} (h : wn t d n = true) : ∀ {e : Nat}, d ≤ e → wn t e n = true
  | 0, g => by rw [show d = 0 by omega] at h; exact h
  | e + 1, g => by
    by_cases q : d = e + 1
    · rw [← q]; exact h
    · rw [wn, wn_le h (show d ≤ e by omega)]; rfl
theorem RK.uniq {t : tT} {n d e : Int} (h : RK t n d) (g : RK t n e) : d = e := by
  by_cases q : d < e
  · have := g.2.2 d.toNat (by have := h.1; omega)
    rw [h.2.1] at this; cases this
  · by_cases q2 : e < d
    · have := h.2.2 e.toNat (by have := g.1; omega)
      rw [g.2.1] at this; cases this
    · omega
theorem KY.uniq {t : tT} {d e : Int} (h : KY t d) (g : KY t e) : d = e := by
  rcases h with ⟨h1, h2⟩ | ⟨h1, h2⟩ <;> rcases g with ⟨g1, g2⟩ | ⟨g1, g2⟩
  · omega
  · have := wn_le g2.2.1 (e := 60) (by have := g2.1; omega)
    rw [this] at h2; cases h2
  · have := wn_le h2.2.1 (e := 60) (by have := h2.1; omega)
    rw [this] at g2; cases g2
  · exact h2.uniq g2
/-! nodes in the order in which they are settled -/
def GI (n : Nat) (S : tB) (R : Int) : Prop := CI n S ∧
  (∀ j, 0 ≤ j → j < bM S → (0 ≤ bO S j ∧ bO S j < n) ∧ 0 ≤ bF S (bO S j) ∧ bF S (bO S j) ≤ R) ∧
  (∀ j l, 0 ≤ j → j < bM S → 0 ≤ l → l < bM S → bO S j = bO S l → j = l) ∧
  (∀ s, bF S s = -1 ∨ (∃ j, 0 ≤ j ∧ j < bM S ∧ bO S j = s)) ∧
  (∀ j l, 0 ≤ j → j ≤ l → l < bM S → bF S (bO S j) ≤ bF S (bO S l))
theorem GI_tk {n : Nat} {S : tB} {R w : Int} (B : GI n S R) (hR : 0 ≤ R) (hx : 0 ≤ w ∧ w < n) : GI n (tk S w R) R := by
  obtain ⟨c1, c3, c4, c5, c6⟩ := B
  refine ⟨CI_tk c1 hx.1 hx.2 (by omega), ?_⟩
  unfold tk
  by_cases h : bF S w = -1
  · rw [if_pos h]
    have hne : ∀ j, 0 ≤ j → j < bM S → bO S j ≠ w := fun j h1 h2 e => by have := (c3 j h1 h2).2.1; rw [e, h] at this; omega
    refine ⟨fun j h1 h2 => ?_, fun j l h1 h2 h3 h4 => ?_, fun s => ?_, fun j l h1 h2 h3 => ?_⟩
    · show (0 ≤ u1 (bO S) (bM S) w j ∧ u1 (bO S) (bM S) w j < n) ∧ 0 ≤ u1 (bF S) w R (u1 (bO S) (bM S) w j) ∧ u1 (bF S) w R (u1 (bO S) (bM S) w j) ≤ R
      have h2 : j < bM S + 1 := h2
      by_cases e : j = bM S
      · rw [e, u1_eq, u1_eq]; exact ⟨hx, by omega, by omega⟩
      · have hj := c3 j h1 (by omega)
        rw [u1_ne e, u1_ne (hne j h1 (by omega))]; exact hj
    · have h2 : j < bM S + 1 := h2
      have h4 : l < bM S + 1 := h4
      show u1 (bO S) (bM S) w j = u1 (bO S) (bM S) w l → _
      by_cases e : j = bM S <;> by_cases e2 : l = bM S
      · intro _; omega
      · rw [e, u1_eq, u1_ne e2]; intro g; exact absurd g.symm (hne l h3 (by omega))
      · rw [e2, u1_eq, u1_ne e]; intro g; exact absurd g (hne j h1 (by omega))
      · rw [u1_ne e, u1_ne e2]; exact c4 j l h1 (by omega) h3 (by omega)
    · show u1 (bF S) w R s = -1 ∨ ∃ j, 0 ≤ j ∧ j < bM S + 1 ∧ u1 (bO S) (bM S) w j = s
      have := c1.2
      by_cases e : s = w
      · right; exact ⟨bM S, by omega, by omega, by rw [u1_eq, e]⟩
      · rw [u1_ne e]
        rcases c5 s with g | ⟨j, g3, g4, g5⟩
        · exact Or.inl g
        · exact Or.inr ⟨j, g3, by omega, by rw [u1_ne (by omega)]; exact g5⟩
    · have h3 : l < bM S + 1 := h3
      show u1 (bF S) w R (u1 (bO S) (bM S) w j) ≤ u1 (bF S) w R (u1 (bO S) (bM S) w l)
      by_cases e2 : l = bM S
      · rw [e2, u1_eq, u1_eq]
        by_cases e : j = bM S
        · rw [e, u1_eq, u1_eq]; exact Int.le_refl _
        · rw [u1_ne e, u1_ne (hne j h1 (by omega))]; exact (c3 j h1 (by omega)).2.2
      · rw [u1_ne e2, u1_ne (show j ≠ bM S by omega), u1_ne (hne j h1 (by omega)), u1_ne (hne l (by omega) (by omega))]
        exact c6 j l h1 h2 (by omega)
  · rw [if_neg h]
    exact ⟨c3, c4, c5, c6⟩
/-- what was looked at: the first i settled ones, but those at 60 -/
def pr (S : tB) (i : Nat) (n : Int) : Bool := decide (bF S n < 60) && anyN (fun j => decide (bO S j = n)) i
def NN (t : tT) : Nat := (2 * nS t).toNat
theorem NN_eq {t : tT} (W : WS t) : ((NN t : Nat) : Int) = 2 * nS t := by have := nS_rng W; unfold NN; omega
def HS (t : tT) (S : tB) (LF : Int → Int) (i : Nat) : Prop := GI (NN t) S 60 ∧ (∀ n, 0 ≤ n → n < 2 * nS t → bF S n ≠ -1 → RK t n (bF S n)) ∧ (∀ j l, (i : Int) ≤ j → j < bM S → 0 ≤ l → l < bM S → bF S (bO S l) ≤ bF S (bO S j) + 1) ∧ (∀ n, 0 ≤ n → n < 2 * nS t → bF S n = -1 → en t (pr S i) n = false) ∧ (∀ s, 0 ≤ s → s < nS t → LF s = cnN (fun v => gs t s v && !pr S i (2 * (s + sf t v))) (nK t)) ∧ (bF S (2 * st t (po t)) = 0 ∧ bF S (2 * st t (po t) + 1) = 0)
theorem HS.I {t : tT} {S : tB} {LF : Int → Int} {i : Nat} (B : HS t S LF i) : GI (NN t) S 60 := B.1
theorem HS.k {t : tT} {S : tB} {LF : Int → Int} {i : Nat} (B : HS t S LF i) : ∀ n, 0 ≤ n → n < 2 * nS t → bF S n ≠ -1 → RK t n (bF S n) := B.2.1
theorem HS.n {t : tT} {S : tB} {LF : Int → Int} {i : Nat} (B : HS t S LF i) : ∀ j l, (i : Int) ≤ j → j < bM S → 0 ≤ l → l < bM S → bF S (bO S l) ≤ bF S (bO S j) + 1 := B.2.2.1
theorem HS.e {t : tT} {S : tB} {LF : Int → Int} {i : Nat} (B : HS t S LF i) : ∀ n, 0 ≤ n → n < 2 * nS t → bF S n = -1 → en t (pr S i) n = false := B.2.2.2.1
theorem HS.l {t : tT} {S : tB} {LF : Int → Int} {i : Nat} (B : HS t S LF i) : ∀ s, 0 ≤ s → s < nS t → LF s = cnN (fun v => gs t s v && !pr S i (2 * (s + sf t v))) (nK t) := B.2.2.2.2.1
theorem HS.o {t : tT} {S : tB} {LF : Int → Int} {i : Nat} (B : HS t S LF i) : bF S (2 * st t (po t)) = 0 ∧ bF S (2 * st t (po t) + 1) = 0 := B.2.2.2.2.2
theorem HS.C {t : tT} (W : WS t) {S : tB} {LF : Int → Int} {i : Nat} (H : HS t S LF i) {r : Int} (hr : r ≤ 60) (hq : ∀ j, 0 ≤ j → j < bM S → bF S (bO S j) < r → j < i) :
    ∀ d : Nat, (d : Int) ≤ r → ∀ n, 0 ≤ n → n < 2 * nS t → wn t d n = true → bF S n ≠ -1
  | 0, _, n, h0, h1, hw => by
    have hw := of_decide_eq_true hw
    have := H.o
    by_cases e : n % 2 = 0
    · rw [show n = 2 * st t (po t) by omega, this.1]; decide
    · rw [show n = 2 * st t (po t) + 1 by omega, this.2]; decide
  | d + 1, hd, n, h0, h1, hw => by
    rw [wn, Bool.or_eq_true] at hw
    rcases hw with hw | hw
    · exact HS.C W H hr hq d (by omega) n h0 h1 hw
    · intro e
      have h2 := H.e n h0 h1 e
      have h3 : en t (pr S i) n = true := en_mono W h0 h1 (fun m g0 g1 g2 => by
        have h4 := HS.C W H hr hq d (by omega) m g0 g1 g2
        have h5 := H.k m g0 g1 h4
        have h6 : bF S m ≤ d := by
          by_cases q : bF S m ≤ d
          · exact q
          · have := h5.2.2 d (by omega)
            rw [g2] at this; cases this
        rcases H.I.2.2.2.1 m with h7 | ⟨j, h8, h9, h10⟩
        · exact absurd h7 h4
        · have := hq j h8 h9 (by rw [h10]; omega)
          unfold pr
          rw [decide_eq_true (show bF S m < 60 by omega), Bool.true_and]
          exact anyN_iff.mpr ⟨j, h8, this, decide_eq_true h10⟩) hw
      rw [h2] at h3; cases h3
/-- one that is at 60: nothing is looked at -/
theorem HS.skip {t : tT} {S : tB} {LF : Int → Int} {i : Nat} (H : HS t S LF i) (h : 60 ≤ bF S (bO S i)) : HS t S LF (i + 1) := by
  have e : pr S (i + 1) = pr S i := by
    funext n
    unfold pr
    rw [anyN]
    by_cases g : bO S i = n
    · rw [← g, decide_eq_false (show ¬ bF S (bO S i) < 60 by omega)]; rfl
    · rw [decide_eq_false g, Bool.or_false]
  exact ⟨H.I, H.k, fun j l g0 g1 g2 g3 => H.n j l (by omega) g1 g2 g3, by rw [e]; exact H.e, by rw [e]; exact H.l, H.o⟩
/-- in the midst of the i-th: its steps below j are looked at -/
def ed (S0 : tB) (i : Nat) (j m v : Int) : Bool := pr S0 i m || (decide (m = bO S0 i) && decide (v < j))
def ps1 (S0 : tB) (i : Nat) (m : Int) : Bool := pr S0 i m || decide (m = bO S0 i)
def MS (t : tT) (S0 : tB) (i : Nat) (j : Int) (S : tB) (LF : Int → Int) : Prop := EX S0 S ∧ GI (NN t) S (bF S0 (bO S0 i) + 1) ∧ (∀ n, 0 ≤ n → n < 2 * nS t → bF S0 n = -1 → bF S n ≠ -1 → bF S n = bF S0 (bO S0 i) + 1 ∧ RK t n (bF S0 (bO S0 i) + 1)) ∧ (∀ n, 0 ≤ n → n < 2 * nS t → bF S n = -1 → en2 t (ps1 S0 i) (ed S0 i j) n = false) ∧ (∀ s, 0 ≤ s → s < nS t → LF s = cnN (fun v => gs t s v && !ed S0 i j (2 * (s + sf t v)) v) (nK t))
theorem MS.x {t : tT} {S0 : tB} {i : Nat} {j : Int} {S : tB} {LF : Int → Int} (B : MS t S0 i j S LF) : EX S0 S := B.1
theorem MS.I {t : tT} {S0 : tB} {i : Nat} {j : Int} {S : tB} {LF : Int → Int} (B : MS t S0 i j S LF) : GI (NN t) S (bF S0 (bO S0 i) + 1) := B.2.1
theorem MS.k {t : tT} {S0 : tB} {i : Nat} {j : Int} {S : tB} {LF : Int → Int} (B : MS t S0 i j S LF) : ∀ n, 0 ≤ n → n < 2 * nS t → bF S0 n = -1 → bF S n ≠ -1 → bF S n = bF S0 (bO S0 i) + 1 ∧ RK t n (bF S0 (bO S0 i) + 1) := B.2.2.1
theorem MS.e {t : tT} {S0 : tB} {i : Nat} {j : Int} {S : tB} {LF : Int → Int} (B : MS t S0 i j S LF) : ∀ n, 0 ≤ n → n < 2 * nS t → bF S n = -1 → en2 t (ps1 S0 i) (ed S0 i j) n = false := B.2.2.2.1
theorem MS.l {t : tT} {S0 : tB} {i : Nat} {j : Int} {S : tB} {LF : Int → Int} (B : MS t S0 i j S LF) : ∀ s, 0 ≤ s → s < nS t → LF s = cnN (fun v => gs t s v && !ed S0 i j (2 * (s + sf t v)) v) (nK t) := B.2.2.2.2
section
variable {t : tT} {S0 : tB} {LF0 : Int → Int} {i : Nat}
theorem HS.low (W : WS t) (H : HS t S0 LF0 i) (hi : (i : Int) < bM S0) (h60 : bF S0 (bO S0 i) < 60) {n : Int} (h0 : 0 ≤ n) (h1 : n < 2 * nS t) (hn : bF S0 n = -1) {e : Nat} (he : (e : Int) < bF S0 (bO S0 i) + 1) : wn t e n = false := by
  cases g : wn t e n
  · rfl
  · exact absurd hn (H.C W (r := bF S0 (bO S0 i)) (by omega) (fun j g0 g1 g2 => by
      by_cases q : j < i
      · exact q
      · have := H.I.2.2.2.2 i j (by omega) (by omega) g1
        omega) e (by omega) n h0 h1 g)
theorem HS.xx (W : WS t) (H : HS t S0 LF0 i) (hi : (i : Int) < bM S0) : (0 ≤ bO S0 i ∧ bO S0 i < 2 * nS t) ∧ 0 ≤ bF S0 (bO S0 i) ∧ RK t (bO S0 i) (bF S0 (bO S0 i)) ∧ ∀ k : Nat, k ≤ i → pr S0 k (bO S0 i) = false := by
  have h1 := H.I.2.1 i (by omega) hi
  have h2 := NN_eq W
  refine ⟨by omega, h1.2.1, H.k _ (by omega) (by omega) (by omega), fun k hk => ?_⟩
  unfold pr
  cases g : anyN (fun j => decide (bO S0 j = bO S0 i)) k
  · simp
  · obtain ⟨j, g0, g1, g2⟩ := anyN_iff.mp g
    have := H.I.2.2.1 j i g0 (by omega) (by omega) hi (of_decide_eq_true g2)
    omega
/-- who comes to be settled now is due at r + 1 -/
theorem HS.new (W : WS t) (H : HS t S0 LF0 i) (hi : (i : Int) < bM S0) (h60 : bF S0 (bO S0 i) < 60) {n : Int} (h0 : 0 ≤ n) (h1 : n < 2 * nS t) (hn : bF S0 n = -1) {P : Int → Bool} (hP : en t P n = true) (hw : ∀ m, 0 ≤ m → m < 2 * nS t → P m = true → wn t (bF S0 (bO S0 i)).toNat m = true) : RK t n (bF S0 (bO S0 i) + 1) := by
  have h2 := (H.xx W hi).2.1
  refine ⟨by omega, ?_, fun e he => H.low W hi h60 h0 h1 hn he⟩
  rw [show (bF S0 (bO S0 i) + 1).toNat = (bF S0 (bO S0 i)).toNat + 1 by omega, wn, en_mono W h0 h1 hw hP, Bool.or_true]
theorem HS.prw (W : WS t) (H : HS t S0 LF0 i) (hi : (i : Int) < bM S0) {m : Int} (h0 : 0 ≤ m) (h1 : m < 2 * nS t) (h : ps1 S0 i m = true) : wn t (bF S0 (bO S0 i)).toNat m = true := by
  obtain ⟨x1, x2, x3, x4⟩ := H.xx W hi
  unfold ps1 at h
  rw [Bool.or_eq_true] at h
  rcases h with h | h
  · unfold pr at h
    rw [Bool.and_eq_true] at h
    obtain ⟨j, g0, g1, g2⟩ := anyN_iff.mp h.2
    have g2 := of_decide_eq_true g2
    have g3 := H.I.2.1 j g0 (by omega)
    have g4 := H.I.2.2.2.2 j i g0 (by omega) hi
    rw [g2] at g3 g4
    have g5 := H.k m h0 h1 (by omega)
    exact wn_le g5.2.1 (by omega)
  · rw [of_decide_eq_true h]; exact x3.2.1
theorem ms_tk (W : WS t) (H : HS t S0 LF0 i) (hi : (i : Int) < bM S0) {j j' : Int} {S : tB} {LF LF' : Int → Int} (m : MS t S0 i j S LF) {w : Int} (h0 : 0 ≤ w) (h1 : w < 2 * nS t) (hk : bF S0 w = -1 → RK t w (bF S0 (bO S0 i) + 1)) (he : ∀ n, 0 ≤ n → n < 2 * nS t → n ≠ w → bF S n = -1 → en2 t (ps1 S0 i) (ed S0 i j') n = false) (hl : ∀ s, 0 ≤ s → s < nS t → LF' s = cnN (fun v => gs t s v && !ed S0 i j' (2 * (s + sf t v)) v) (nK t)) :
    MS t S0 i j' (tk S w (bF S0 (bO S0 i) + 1)) LF' := by
  obtain ⟨x1, x2, x3, x4⟩ := H.xx W hi
  have hN := NN_eq W
  refine ⟨m.x.tr (EX_tk _ _ _), GI_tk m.I (by omega) (by omega), fun n g0 g1 g2 g3 => ?_, fun n g0 g1 g2 => ?_, hl⟩
  · unfold tk at g3 ⊢
    by_cases e : bF S w = -1
    · rw [if_pos e] at g3 ⊢
      have g3 : u1 (bF S) w (bF S0 (bO S0 i) + 1) n ≠ -1 := g3
      show u1 (bF S) w (bF S0 (bO S0 i) + 1) n = _ ∧ _
      by_cases q : n = w
      · subst q; rw [u1_eq]; exact ⟨rfl, hk g2⟩
      · rw [u1_ne q] at g3 ⊢; exact m.k n g0 g1 g2 g3
    · rw [if_neg e] at g3 ⊢; exact m.k n g0 g1 g2 g3
  · unfold tk at g2
    by_cases e : bF S w = -1
    · rw [if_pos e] at g2
      have g2 : u1 (bF S) w (bF S0 (bO S0 i) + 1) n = -1 := g2
      by_cases q : n = w
      · rw [q, u1_eq] at g2; omega
      · rw [u1_ne q] at g2; exact he n g0 g1 q g2
    · rw [if_neg e] at g2
      by_cases q : n = w
      · rw [q] at g2; exact absurd g2 e
      · exact he n g0 g1 q g2
theorem ms_un {j : Int} {S : tB} {LF : Int → Int} (m : MS t S0 i j S LF) {n : Int} (h : bF S n = -1) : bF S0 n = -1 := by
  by_cases e : bF S0 n = -1
  · exact e
  · have := m.x.2.1 n e; omega
/-- passing -/
theorem ms_ini (W : WS t) (H : HS t S0 LF0 i) (hi : (i : Int) < bM S0) (h60 : bF S0 (bO S0 i) < 60) : MS t S0 i 0 (if stp0 t (bO S0 i / 2) = false then tk S0 (vx (bO S0 i)) (bF S0 (bO S0 i) + 1) else S0) LF0 := by
  obtain ⟨x1, x2, x3, x4⟩ := H.xx W hi
  have hI : GI (NN t) S0 (bF S0 (bO S0 i) + 1) := ⟨H.I.1, fun j g0 g1 => ⟨(H.I.2.1 j g0 g1).1, (H.I.2.1 j g0 g1).2.1, H.n i j (Int.le_refl _) hi g0 g1⟩, H.I.2.2⟩
  have hv := vx_rng x1.1 x1.2
  have he : ∀ n, 0 ≤ n → n < 2 * nS t → (stp0 t (n / 2) = false → vx n ≠ bO S0 i) → bF S0 n = -1 → en2 t (ps1 S0 i) (ed S0 i 0) n = false := fun n g0 g1 g2 g3 => by
    have := H.e n g0 g1 g3
    unfold en at this
    rw [← this]
    refine en2_congr (fun q => ?_) (fun v q0 q1 q2 => ?_)
    · unfold ps1; rw [decide_eq_false (g2 q), Bool.or_false]
    · unfold ed; rw [decide_eq_false (show ¬ v < 0 by omega), Bool.and_false, Bool.or_false]
  have hl : ∀ s, 0 ≤ s → s < nS t → LF0 s = cnN (fun v => gs t s v && !ed S0 i 0 (2 * (s + sf t v)) v) (nK t) := fun s g0 g1 => by
    rw [H.l s g0 g1]
    refine cnN_congr fun v q0 q1 => ?_
    unfold ed; rw [decide_eq_false (show ¬ v < 0 by omega), Bool.and_false, Bool.or_false]
  by_cases e : stp0 t (bO S0 i / 2) = false
  · rw [if_pos e]
    have hm : ∀ n, vx n = bO S0 i → n = vx (bO S0 i) := fun n q => by rw [← q, vx_vx]
    have hN := NN_eq W
    refine ⟨EX_tk _ _ _, GI_tk hI (by omega) (by omega), fun n g0 g1 g2 g3 => ?_, fun n g0 g1 g2 => ?_, hl⟩
    · unfold tk at g3 ⊢
      by_cases e3 : bF S0 (vx (bO S0 i)) = -1
      · rw [if_pos e3] at g3 ⊢
        have g3 : u1 (bF S0) (vx (bO S0 i)) (bF S0 (bO S0 i) + 1) n ≠ -1 := g3
        show u1 (bF S0) (vx (bO S0 i)) (bF S0 (bO S0 i) + 1) n = _ ∧ _
        by_cases q : n = vx (bO S0 i)
        · subst q; rw [u1_eq]
          refine ⟨rfl, H.new W hi h60 g0 g1 g2 (P := ps1 S0 i) ?_ (fun m q0 q1 q2 => H.prw W hi q0 q1 q2)⟩
          unfold en en2
          rw [if_pos (by rw [hv.2.2]; exact e), vx_vx]
          unfold ps1; rw [decide_eq_true rfl, Bool.or_true]
        · rw [u1_ne q] at g3; exact absurd g2 g3
      · rw [if_neg e3] at g3; exact absurd g2 g3
    · unfold tk at g2
      by_cases e3 : bF S0 (vx (bO S0 i)) = -1
      · rw [if_pos e3] at g2
        have g2 : u1 (bF S0) (vx (bO S0 i)) (bF S0 (bO S0 i) + 1) n = -1 := g2
        by_cases q : n = vx (bO S0 i)
        · rw [q, u1_eq] at g2; omega
        · rw [u1_ne q] at g2; exact he n g0 g1 (fun _ q2 => q (hm n q2)) g2
      · rw [if_neg e3] at g2
        exact he n g0 g1 (fun _ q2 => e3 (by rw [← hm n q2]; exact g2)) g2
  · rw [if_neg e]
    refine ⟨EX.rf _, hI, fun n g0 g1 g2 g3 => absurd g2 g3, fun n g0 g1 g2 => he n g0 g1 (fun q q2 => ?_) g2, hl⟩
    have := (vx_rng g0 g1).2.2
    rw [q2] at this
    rw [← this] at q; exact e q
/-- a step more that was looked at, if it is none of those that lead here -/
theorem ed_next {j m v : Int} (h : m = bO S0 i → v ≠ j) : ed S0 i (j + 1) m v = ed S0 i j m v := by
  unfold ed
  by_cases e : m = bO S0 i
  · have := h e
    rw [show decide (v < j + 1) = decide (v < j) from by congr 1; apply propext; omega]
  · rw [decide_eq_false e, Bool.false_and, Bool.false_and]
theorem ms_no (W : WS t) (H : HS t S0 LF0 i) (hi : (i : Int) < bM S0) {j : Int} {S : tB} {LF : Int → Int} (m : MS t S0 i j S LF) (hg : ¬ ((0 ≤ bO S0 i / 2 - sf t j ∧ bO S0 i / 2 - sf t j < nS t) ∧ gs t (bO S0 i / 2 - sf t j) j = true)) : MS t S0 i (j + 1) S LF := by
  refine ⟨m.x, m.I, m.k, fun n g0 g1 g2 => ?_, fun s g0 g1 => ?_⟩
  · rw [← m.e n g0 g1 g2]
    refine en2_congr (fun _ => rfl) (fun v q0 q1 q2 => ed_next (fun q3 q4 => hg ?_))
    subst q4
    unfold tg at q3
    have : n / 2 = bO S0 i / 2 - sf t v := by omega
    rw [← this]; exact ⟨by omega, q2⟩
  · rw [m.l s g0 g1]
    refine cnN_congr fun v q0 q1 => ?_
    cases q2 : gs t s v
    · rfl
    · rw [ed_next (fun q3 q4 => hg ?_)]
      subst q4
      have : s = bO S0 i / 2 - sf t v := by omega
      rw [← this]; exact ⟨⟨g0, g1⟩, q2⟩
/-- a step of the first one that leads to where it is the other's turn -/
theorem ms_fst (W : WS t) (H : HS t S0 LF0 i) (hi : (i : Int) < bM S0) (h60 : bF S0 (bO S0 i) < 60) {j : Int} (hj0 : 0 ≤ j) (hj1 : j < (nK t : Int)) {S : tB} {LF : Int → Int} (m : MS t S0 i j S LF) (ho : bO S0 i % 2 = 1) (hg : (0 ≤ bO S0 i / 2 - sf t j ∧ bO S0 i / 2 - sf t j < nS t) ∧ gs t (bO S0 i / 2 - sf t j) j = true) : MS t S0 i (j + 1) (tk S (2 * (bO S0 i / 2 - sf t j)) (bF S0 (bO S0 i) + 1)) LF := by
  obtain ⟨⟨u0, u1'⟩, u2⟩ := hg
  generalize hu : bO S0 i / 2 - sf t j = u at u0 u1' u2 ⊢
  have hst : stp0 t u = true := anyN_iff.mpr ⟨j, hj0, hj1, u2⟩
  refine ms_tk W H hi m (by omega) (by omega) (fun q => H.new W hi h60 (by omega) (by omega) q (P := ps1 S0 i) ?_ (fun m q0 q1 q2 => H.prw W hi q0 q1 q2)) (fun n g0 g1 g2 g3 => ?_) (fun s g0 g1 => ?_)
  · unfold en en2
    rw [show 2 * u / 2 = u by omega, hst, if_neg (by decide), if_pos (by omega)]
    refine anyN_iff.mpr ⟨j, hj0, hj1, ?_⟩
    have : tg t (2 * u) j = bO S0 i := by unfold tg; rw [show 2 * u / 2 = u by omega]; omega
    rw [u2, this]
    show (pr S0 i (bO S0 i) || decide (bO S0 i = bO S0 i)) = true
    rw [decide_eq_true rfl, Bool.or_true]
  · rw [← m.e n g0 g1 g3]
    refine en2_congr (fun _ => rfl) (fun v q0 q1 q2 => ed_next (fun q3 q4 => g2 ?_))
    subst q4; unfold tg at q3; omega
  · rw [m.l s g0 g1]
    refine cnN_congr fun v q0 q1 => ?_
    rw [ed_next (fun q3 => by omega)]
/-- a step of the other one: one hope less -/
theorem ms_oth (W : WS t) (H : HS t S0 LF0 i) (hi : (i : Int) < bM S0) (h60 : bF S0 (bO S0 i) < 60) {j : Int} (hj0 : 0 ≤ j) (hj1 : j < (nK t : Int)) {S : tB} {LF : Int → Int} (m : MS t S0 i j S LF) (ho : bO S0 i % 2 = 0) (hg : (0 ≤ bO S0 i / 2 - sf t j ∧ bO S0 i / 2 - sf t j < nS t) ∧ gs t (bO S0 i / 2 - sf t j) j = true) : MS t S0 i (j + 1) (if LF (bO S0 i / 2 - sf t j) - 1 = 0 then tk S (2 * (bO S0 i / 2 - sf t j) + 1) (bF S0 (bO S0 i) + 1) else S) (u1 LF (bO S0 i / 2 - sf t j) (LF (bO S0 i / 2 - sf t j) - 1)) := by
  obtain ⟨⟨u0, u1'⟩, u2⟩ := hg
  generalize hu : bO S0 i / 2 - sf t j = u at u0 u1' u2 ⊢
  have hst : stp0 t u = true := anyN_iff.mpr ⟨j, hj0, hj1, u2⟩
  have htg : 2 * (u + sf t j) = bO S0 i := by omega
  have hx := (H.xx W hi).2.2.2 i (Nat.le_refl i)
  have hc : cnN (fun v => gs t u v && !ed S0 i j (2 * (u + sf t v)) v) (nK t) = cnN (fun v => gs t u v && !ed S0 i (j + 1) (2 * (u + sf t v)) v) (nK t) + 1 := by
    have e1 : ed S0 i (j + 1) (2 * (u + sf t j)) j = true := by unfold ed; rw [htg, decide_eq_true rfl, decide_eq_true (show j < j + 1 by omega), Bool.and_true, Bool.or_true]
    have e2 : ed S0 i j (2 * (u + sf t j)) j = false := by unfold ed; rw [htg, hx, decide_eq_false (show ¬ j < j by omega), Bool.and_false]; rfl
    rw [cnN_one (P := fun v => gs t u v && !ed S0 i (j + 1) (2 * (u + sf t v)) v) (P' := fun v => gs t u v && !ed S0 i j (2 * (u + sf t v)) v) (s := j) (by rw [e1]; simp) hj0 hj1 (fun v q0 q1 q2 => by rw [ed_next (fun _ => q2)]), e2, u2]
    rfl
  have hl : ∀ s, 0 ≤ s → s < nS t → u1 LF u (LF u - 1) s = cnN (fun v => gs t s v && !ed S0 i (j + 1) (2 * (s + sf t v)) v) (nK t) := fun s g0 g1 => by
    by_cases e : s = u
    · rw [e, u1_eq, m.l u u0 u1', hc]; omega
    · rw [u1_ne e, m.l s g0 g1]
      refine cnN_congr fun v q0 q1 => ?_
      rw [ed_next (fun q3 q4 => e (by subst q4; omega))]
  have he : ∀ n, 0 ≤ n → n < 2 * nS t → n ≠ 2 * u + 1 → bF S n = -1 → en2 t (ps1 S0 i) (ed S0 i (j + 1)) n = false := fun n g0 g1 g2 g3 => by
    rw [← m.e n g0 g1 g3]
    refine en2_congr (fun _ => rfl) (fun v q0 q1 q2 => ed_next (fun q3 q4 => g2 ?_))
    subst q4; unfold tg at q3; omega
  have ht : ∀ v, tg t (2 * u + 1) v = 2 * (u + sf t v) := fun v => by unfold tg; rw [show (2 * u + 1) / 2 = u by omega]; omega
  by_cases e : LF u - 1 = 0
  · rw [if_pos e]
    have h0 := hl u u0 u1'
    rw [u1_eq, e] at h0
    refine ms_tk W H hi m (by omega) (by omega) (fun q => H.new W hi h60 (by omega) (by omega) q (P := ps1 S0 i) ?_ (fun m q0 q1 q2 => H.prw W hi q0 q1 q2)) he hl
    unfold en en2
    rw [show (2 * u + 1) / 2 = u by omega, hst, if_neg (by decide), if_neg (by omega)]
    refine allN_iff.mpr (fun v g0 g1 => ?_)
    have h1 := cnN_zero h0.symm g0 g1
    rw [ht v]
    cases g : gs t u v
    · rfl
    · rw [g, Bool.true_and] at h1
      have h1 : ed S0 i (j + 1) (2 * (u + sf t v)) v = true := by simpa using h1
      unfold ed at h1
      show (pr S0 i (2 * (u + sf t v)) || decide (2 * (u + sf t v) = bO S0 i)) = true
      rw [Bool.or_eq_true, Bool.and_eq_true] at h1
      rcases h1 with h1 | h1
      · rw [h1]; rfl
      · rw [h1.1, Bool.or_true]
  · rw [if_neg e]
    refine ⟨m.x, m.I, m.k, fun n g0 g1 g2 => ?_, hl⟩
    by_cases q : n = 2 * u + 1
    · subst q
      cases g : en2 t (ps1 S0 i) (ed S0 i (j + 1)) (2 * u + 1)
      · rfl
      · exfalso
        unfold en2 at g
        rw [show (2 * u + 1) / 2 = u by omega, hst, if_neg (by decide), if_neg (by omega), allN_iff] at g
        have h0 := hl u u0 u1'
        rw [u1_eq, cnN_false (fun v g0 g1 => by
          have := g v g0 g1
          rw [ht v] at this
          revert this
          cases gs t u v <;> cases ed S0 i (j + 1) (2 * (u + sf t v)) v <;> simp)] at h0
        exact e h0
    · exact he n g0 g1 q g2
theorem ms_pr (H : HS t S0 LF0 i) (hi : (i : Int) < bM S0) (h60 : bF S0 (bO S0 i) < 60) {j : Int} {S : tB} {LF : Int → Int} (m : MS t S0 i j S LF) (w : Int) : pr S (i + 1) w = ps1 S0 i w := by
  have hx := H.I.2.1 i (by omega) hi
  have e1 : anyN (fun l => decide (bO S l = w)) i = anyN (fun l => decide (bO S0 l = w)) i := anyN_congr fun l g0 g1 => by rw [m.x.2.2 l (by omega)]
  unfold pr ps1 pr
  rw [anyN, e1, m.x.2.2 i hi]
  by_cases e : w = bO S0 i
  · rw [e, m.x.2.1 _ (by omega), decide_eq_true h60, decide_eq_true rfl, Bool.or_true, Bool.or_true]; rfl
  · rw [decide_eq_false (show ¬ bO S0 i = w from fun q => e q.symm), decide_eq_false e, Bool.or_false, Bool.or_false]
    cases g : anyN (fun l => decide (bO S0 l = w)) i
    · rw [Bool.and_false, Bool.and_false]
    · obtain ⟨l, g0, g1, g2⟩ := anyN_iff.mp g
      have g2 := of_decide_eq_true g2
      have := H.I.2.1 l g0 (by omega)
      rw [g2] at this
      rw [m.x.2.1 w (by omega)]
theorem HS.next (H : HS t S0 LF0 i) (hi : (i : Int) < bM S0) (h60 : bF S0 (bO S0 i) < 60) {S : tB} {LF : Int → Int} (m : MS t S0 i (nK t) S LF) : HS t S LF (i + 1) := by
  have hp := ms_pr H hi h60 m
  have hpe : pr S (i + 1) = ps1 S0 i := funext hp
  have hd : ∀ w v, v < (nK t : Int) → ed S0 i (nK t) w v = ps1 S0 i w := fun w v hv => by unfold ed ps1; rw [decide_eq_true hv, Bool.and_true]
  have hx := H.I.2.1 i (by omega) hi
  refine ⟨⟨m.I.1, fun j g0 g1 => ?_, m.I.2.2⟩, fun n g0 g1 g2 => ?_, fun j l g0 g1 g2 g3 => ?_, fun n g0 g1 g2 => ?_, fun s g0 g1 => ?_, ?_⟩
  · have := m.I.2.1 j g0 g1; omega
  · by_cases e : bF S0 n = -1
    · have := m.k n g0 g1 e g2; rw [this.1]; exact this.2
    · rw [m.x.2.1 n e]; exact H.k n g0 g1 e
  · have h1 := m.I.2.1 l g2 g3
    have h2 := m.I.2.2.2.2 i j (by omega) (by omega) g1
    rw [m.x.2.2 i hi, m.x.2.1 _ (by omega)] at h2
    omega
  · rw [← m.e n g0 g1 g2]
    unfold en
    exact en2_congr (fun _ => hp _) (fun v q0 q1 _ => by rw [hd _ v q1]; exact hp _)
  · rw [m.l s g0 g1]
    refine cnN_congr fun v q0 q1 => ?_
    rw [hd _ v q1, hp]
  · have := H.o
    exact ⟨by rw [m.x.2.1 _ (by omega)]; exact this.1, by rw [m.x.2.1 _ (by omega)]; exact this.2⟩
theorem HS.none (W : WS t) (D : RW t (pa t)) (H : HS t S0 LF0 i) (hi : bM S0 ≤ (i : Int)) (h : bF S0 (2 * st t (pa t)) = -1) : KY t (-1) := by
  left
  have hs := st_rng W D
  refine ⟨rfl, ?_⟩
  cases g : wn t 60 (2 * st t (pa t))
  · rfl
  · exact absurd h (H.C W (r := 60) (by omega) (fun j g0 g1 _ => by omega) 60 (by omega) _ (by omega) (by omega) g)
theorem HS.some (W : WS t) (D : RW t (pa t)) (H : HS t S0 LF0 i) (h : bF S0 (2 * st t (pa t)) ≠ -1) : KY t (bF S0 (2 * st t (pa t))) := by
  right
  have hs := st_rng W D
  refine ⟨?_, H.k _ (by omega) (by omega) h⟩
  rcases H.I.2.2.2.1 (2 * st t (pa t)) with g | ⟨j, g0, g1, g2⟩
  · exact absurd g h
  · have := H.I.2.1 j g0 g1; rw [g2] at this; omega
def g00 : tB := (fun _ => -1, fun _ => 0, 0)
def g0 (t : tT) : tB := tk (tk g00 (2 * st t (po t)) 0) (2 * st t (po t) + 1) 0
theorem cn_m1 (n : Nat) : cn (fun _ => -1) n = 0 := by
  induction n with
  | zero => rfl
  | succ m ih => show cn _ m + _ = 0; rw [ih, if_pos rfl]; rfl
theorem HS.ini (W : WS t) : HS t (g0 t) (fun s => cnN (fun v => gs t s v) (nK t)) 0 := by
  have hN := NN_eq W
  have ho := st_rng W W.ropen
  have I0 : GI (NN t) g00 0 := by
    refine ⟨⟨?_, Int.le_refl _⟩, fun j g0 g1 => ?_, fun j l g0 g1 => ?_, fun s => Or.inl rfl, fun j l g0 g1 g2 => ?_⟩
    · show 0 = cn (fun _ => -1) _; rw [cn_m1]
    · have g1 : j < 0 := g1; omega
    · have g1 : j < 0 := g1; omega
    · have g2 : l < 0 := g2; omega
  have I2 : GI (NN t) (g0 t) 0 := GI_tk (GI_tk I0 (Int.le_refl _) (by omega)) (Int.le_refl _) (by omega)
  have f : bF (g0 t) = u1 (u1 (fun _ => -1) (2 * st t (po t)) 0) (2 * st t (po t) + 1) 0 := by
    unfold g0
    rw [tk, if_pos]
    · rw [tk, if_pos (show bF g00 (2 * st t (po t)) = -1 from rfl)]; rfl
    · rw [tk, if_pos (show bF g00 (2 * st t (po t)) = -1 from rfl)]
      show u1 (fun _ => -1) (2 * st t (po t)) 0 (2 * st t (po t) + 1) = -1
      rw [u1_ne (by omega)]
  have hv : ∀ n, bF (g0 t) n ≠ -1 → n / 2 = st t (po t) ∧ bF (g0 t) n = 0 := fun n hn => by
    rw [f] at hn ⊢
    by_cases e : n = 2 * st t (po t) + 1
    · subst e; rw [u1_eq]; exact ⟨by omega, rfl⟩
    · rw [u1_ne e] at hn ⊢
      by_cases e2 : n = 2 * st t (po t)
      · subst e2; rw [u1_eq]; exact ⟨by omega, rfl⟩
      · rw [u1_ne e2] at hn; exact absurd rfl hn
  have hp : ∀ n, pr (g0 t) 0 n = false := fun n => by unfold pr; rw [anyN, Bool.and_false]
  refine ⟨⟨I2.1, fun j g0 g1 => ?_, I2.2.2⟩, fun n g0 g1 g2 => ?_, fun j l g0 g1 g2 g3 => ?_, fun n g0 g1 g2 => ?_, fun s g0 g1 => ?_, ?_⟩
  · have := I2.2.1 j g0 g1; omega
  · have := hv n g2
    rw [this.2]
    exact ⟨Int.le_refl _, decide_eq_true this.1, fun e he => by omega⟩
  · have h1 := I2.2.1 l g2 g3
    have h2 := I2.2.1 j (by omega) g1
    omega
  · unfold en en2
    by_cases e : stp0 t (n / 2) = false
    · rw [if_pos e]; exact hp _
    · rw [if_neg e]
      by_cases e2 : n % 2 = 0
      · rw [if_pos e2]
        cases g : anyN (fun v => gs t (n / 2) v && pr (_root_.Jvm.Pilot.@@N@@.g0 t) 0 (tg t n v)) (nK t)
        · rfl
        · obtain ⟨v, q0, q1, q2⟩ := anyN_iff.mp g
          rw [hp, Bool.and_false] at q2; cases q2
      · rw [if_neg e2]
        cases g : allN (fun v => !gs t (n / 2) v || pr (_root_.Jvm.Pilot.@@N@@.g0 t) 0 (tg t n v)) (nK t)
        · rfl
        · rw [allN_iff] at g
          have h2 : stp0 t (n / 2) = true := by simpa using e
          obtain ⟨v, q0, q1, q2⟩ := anyN_iff.mp h2
          have := g v q0 q1
          rw [q2, hp] at this; cases this
  · refine cnN_congr fun v q0 q1 => ?_
    rw [hp]; simp
  · rw [f, u1_eq, u1_ne (by omega), u1_eq]; exact ⟨rfl, rfl⟩
end
