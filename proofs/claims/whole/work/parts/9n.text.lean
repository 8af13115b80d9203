/-! THE TEXT: its tokens, for both readers -/
def rnw (P : Int → Bool) (f : Int → Int) (len : Int) : Nat → Int → Int
  | 0, p => p
  | n + 1, p => if (decide (p < len) && P (f p)) = true then rnw P f len n (p + 1) else p
def RE (P : Int → Bool) (f : Int → Int) (len p q : Int) : Prop := (p ≤ q ∧ ∀ i, p ≤ i → i < q → i < len ∧ P (f i) = true) ∧ (len ≤ q ∨ P (f q) = false)
theorem RE_rnw {P : Int → Bool} {f : Int → Int} {len : Int} : ∀ {n : Nat} {p : Int}, len - p < n → RE P f len p (rnw P f len n p)
  | 0, p, h => by
    show RE P f len p p
    exact ⟨⟨Int.le_refl _, fun i g0 g1 => by omega⟩, Or.inl (by omega)⟩
  | n + 1, p, h => by
    rw [rnw]
    by_cases g : p < len
    · by_cases g2 : P (f p) = true
      · rw [decide_eq_true g, g2, if_pos (show (true && true) = true from rfl)]
        obtain ⟨⟨a, b⟩, e⟩ := RE_rnw (P := P) (f := f) (len := len) (n := n) (p := p + 1) (by omega)
        refine ⟨⟨by omega, fun i g0 g1 => ?_⟩, e⟩
        by_cases e2 : i = p
        · rw [e2]; exact ⟨g, g2⟩
        · exact b i (by omega) g1
      · rw [Bool.eq_false_iff.mpr g2, Bool.and_false, if_neg (by decide)]
        exact ⟨⟨Int.le_refl _, fun i g0 g1 => by omega⟩, Or.inr (Bool.eq_false_iff.mpr g2)⟩
    · rw [decide_eq_false g, Bool.false_and, if_neg (by decide)]
      exact ⟨⟨Int.le_refl _, fun i g0 g1 => by omega⟩, Or.inl (by omega)⟩
theorem RE.uniq {P : Int → Bool} {f : Int → Int} {len p q r : Int} (a : RE P f len p q) (b : RE P f len p r) : q = r := by
  obtain ⟨⟨a1, a2⟩, a3⟩ := a
  obtain ⟨⟨b1, b2⟩, b3⟩ := b
  by_cases g : q < r
  · have := b2 q a1 g
    rcases a3 with e | e
    · omega
    · rw [e] at this; exact absurd this.2 (by decide)
  · by_cases g2 : r < q
    · have := a2 r b1 g2
      rcases b3 with e | e
      · omega
      · rw [e] at this; exact absurd this.2 (by decide)
    · omega
theorem RE.end {P : Int → Bool} {f : Int → Int} {len p q : Int} (a : RE P f len p q) (h : p ≤ len) : q ≤ len := by
  by_cases g : q ≤ len
  · exact g
  · have := a.1.2 len h (by omega); omega
def ws_ (x : Int) : Bool := decide (x = 32) || decide (x = 10)
def le_ (x : Int) : Bool := decide (97 ≤ x) && decide (x ≤ 122)
def di_ (x : Int) : Bool := decide (48 ≤ x) && decide (x ≤ 57)
def dv_ (f : Int → Int) (b : Int) : Nat → Int
  | 0 => 0
  | n + 1 => 10 * dv_ f b n + f (b + n) - 48
/-- where the token at p begins, what it is, its number, where it ends -/
def xtB (f : Int → Int) (len p : Int) : Int := rnw ws_ f len 1000 p
def xrL (f : Int → Int) (len p : Int) : Int := rnw le_ f len 1000 (xtB f len p)
def xrD (f : Int → Int) (len p : Int) : Int := rnw di_ f len 1000 (xtB f len p)
def xtK (f : Int → Int) (len p : Int) : Int := if len ≤ xtB f len p then 0 else if le_ (f (xtB f len p)) = true then 1 else if di_ (f (xtB f len p)) = true then (if xrD f len p - xtB f len p ≤ 3 then 2 else 4) else if f (xtB f len p) = 59 then 3 else 4
def xtV (f : Int → Int) (len p : Int) : Int := dv_ f (xtB f len p) (xrD f len p - xtB f len p).toNat
def xtE (f : Int → Int) (len p : Int) : Int := if len ≤ xtB f len p then xtB f len p else if le_ (f (xtB f len p)) = true then xrL f len p else if di_ (f (xtB f len p)) = true then xrD f len p else xtB f len p + 1
def TX (f : Int → Int) (len : Int) : Prop := (0 ≤ len ∧ len ≤ 900) ∧ ∀ i, 0 ≤ i → i < len → 0 ≤ f i ∧ f i < 256
section
variable {f : Int → Int} {len : Int}
theorem xtB_RE (X : TX f len) {p : Int} (h : 0 ≤ p) : RE ws_ f len p (xtB f len p) := RE_rnw (by have := X.1; omega)
theorem xtB_rng (X : TX f len) {p : Int} (h : 0 ≤ p) (h2 : p ≤ len) : p ≤ xtB f len p ∧ xtB f len p ≤ len := ⟨(xtB_RE X h).1.1, (xtB_RE X h).end h2⟩
theorem xrL_RE (X : TX f len) {p : Int} (h : 0 ≤ p) (h2 : p ≤ len) : RE le_ f len (xtB f len p) (xrL f len p) := RE_rnw (by have := xtB_rng X h h2; have := X.1; omega)
theorem xrD_RE (X : TX f len) {p : Int} (h : 0 ≤ p) (h2 : p ≤ len) : RE di_ f len (xtB f len p) (xrD f len p) := RE_rnw (by have := xtB_rng X h h2; have := X.1; omega)
theorem RE.one {P : Int → Bool} {b q : Int} (R : RE P f len b q) (h : b < len) (hp : P (f b) = true) : b + 1 ≤ q := by
  by_cases g : b + 1 ≤ q
  · exact g
  · have e : q = b := by have := R.1.1; omega
    rcases R.2 with k | k
    · omega
    · rw [e, hp] at k; exact absurd k (by decide)
theorem xtE_rng (X : TX f len) {p : Int} (h : 0 ≤ p) (h2 : p ≤ len) : xtB f len p ≤ xtE f len p ∧ xtE f len p ≤ len ∧ (xtK f len p ≠ 0 → p + 1 ≤ xtE f len p) := by
  have b := xtB_rng X h h2
  have l := xrL_RE X h h2
  have d := xrD_RE X h h2
  unfold xtE xtK
  by_cases g : len ≤ xtB f len p
  · rw [if_pos g, if_pos g]; exact ⟨Int.le_refl _, b.2, fun e => absurd rfl e⟩
  · rw [if_neg g, if_neg g]
    by_cases g1 : le_ (f (xtB f len p)) = true
    · rw [if_pos g1, if_pos g1]
      have := l.one (by omega) g1
      exact ⟨l.1.1, l.end b.2, fun _ => by omega⟩
    · rw [if_neg g1, if_neg g1]
      by_cases g2 : di_ (f (xtB f len p)) = true
      · rw [if_pos g2, if_pos g2]
        have := d.one (by omega) g2
        exact ⟨d.1.1, d.end b.2, fun _ => by omega⟩
      · rw [if_neg g2, if_neg g2]; exact ⟨by omega, by omega, fun _ => by omega⟩
theorem xtE_pos (X : TX f len) {p : Int} (h : 0 ≤ p ∧ p ≤ len) : 0 ≤ xtE f len p ∧ xtE f len p ≤ len := by
  have := xtE_rng X h.1 h.2
  have := xtB_rng X h.1 h.2
  omega
theorem dv_rng {b : Int} : ∀ {n : Nat}, n ≤ 3 → (∀ i : Int, b ≤ i → i < b + n → di_ (f i) = true) → 0 ≤ dv_ f b n ∧ dv_ f b n ≤ 999 ∧ (n ≤ 2 → dv_ f b n ≤ 99) ∧ (n ≤ 1 → dv_ f b n ≤ 9) ∧ (n = 0 → dv_ f b n = 0)
  | 0, _, _ => by show 0 ≤ (0 : Int) ∧ (0 : Int) ≤ 999 ∧ (_ → (0 : Int) ≤ 99) ∧ (_ → (0 : Int) ≤ 9) ∧ (_ → (0 : Int) = 0); omega
  | n + 1, hn, h => by
    have ih := dv_rng (b := b) (n := n) (by omega) (fun i g0 g1 => h i g0 (by omega))
    have d := h (b + n) (by omega) (by omega)
    unfold di_ at d
    rw [Bool.and_eq_true] at d
    have d1 := of_decide_eq_true d.1
    have d2 := of_decide_eq_true d.2
    have e : dv_ f b (n + 1) = 10 * dv_ f b n + f (b + n) - 48 := rfl
    rw [e]
    by_cases g : n ≤ 1
    · have := ih.2.2.2.1 g
      by_cases g0 : n = 0
      · have := ih.2.2.2.2 g0; omega
      · omega
    · have := ih.2.2.1 (by omega); omega
theorem xtV_rng (X : TX f len) {p : Int} (h : 0 ≤ p) (h2 : p ≤ len) (hk : xtK f len p = 2) : 0 ≤ xtV f len p ∧ xtV f len p ≤ 999 := by
  have d := xrD_RE X h h2
  have hn : xrD f len p - xtB f len p ≤ 3 := by
    unfold xtK at hk
    by_cases g : len ≤ xtB f len p
    · rw [if_pos g] at hk; omega
    · rw [if_neg g] at hk
      by_cases g1 : le_ (f (xtB f len p)) = true
      · rw [if_pos g1] at hk; omega
      · rw [if_neg g1] at hk
        by_cases g2 : di_ (f (xtB f len p)) = true
        · rw [if_pos g2] at hk
          by_cases g3 : xrD f len p - xtB f len p ≤ 3
          · exact g3
          · rw [if_neg g3] at hk; omega
        · rw [if_neg g2] at hk
          by_cases g3 : f (xtB f len p) = 59
          · rw [if_pos g3] at hk; omega
          · rw [if_neg g3] at hk; omega
  have := dv_rng (f := f) (b := xtB f len p) (n := (xrD f len p - xtB f len p).toNat) (by omega) (fun i g0 g1 => (d.1.2 i g0 (by have := d.1.1; omega)).2)
  exact ⟨this.1, this.2.1⟩
theorem tK_rng (f : Int → Int) (len p : Int) : 0 ≤ xtK f len p ∧ xtK f len p ≤ 4 := by
  unfold xtK
  repeat' split
  all_goals omega
end
/-! words -/
def chW (n i : Nat) : Int := qand ((mBy.getD n []).getD i 0).toInt 255 % 65536
theorem chW_rng : ∀ n : Fin 10, ∀ i : Fin 6, 0 ≤ chW n.val i.val ∧ chW n.val i.val < 128 := by decide +kernel
def lnW (n : Nat) : Int := ((mLn.getD n 0 : Nat) : Int)
theorem lnW_rng : ∀ n : Fin 10, 2 ≤ lnW n.val ∧ lnW n.val ≤ 6 := by decide +kernel
def isW (f : Int → Int) (len p : Int) (n : Nat) : Bool := decide (xtK f len p = 1) && (decide (xtE f len p - xtB f len p = lnW n) && allN (fun i => decide (f (xtB f len p + i) = chW n i.toNat)) (lnW n).toNat)
/-! what may come of reading: a fault and its place, or something -/
abbrev tP (α : Type) : Type := (Int × Int) ⊕ α
def bd {α β : Type} (x : tP α) (k : α → tP β) : tP β := match x with
  | .inl e => .inl e
  | .inr a => k a
def er {α : Type} (f : Int → Int) (len p k : Int) : tP α := .inl (if xtK f len p = 4 then 1 else k, xtB f len p)
def sNum (f : Int → Int) (len lo hi p : Int) : tP (Int × Int) := if xtK f len p = 2 then (if lo ≤ xtV f len p ∧ xtV f len p ≤ hi then .inr (xtV f len p, xtE f len p) else er f len p 3) else er f len p 2
def sWord (f : Int → Int) (len : Int) (n : Nat) (p : Int) : tP Int := if isW f len p n = true then .inr (xtE f len p) else er f len p 2
/-- a bar more of what is read -/
def aBar (u : tT) (n a o : Int) : tT := u1 (u1 (u1 (u1 (u1 u (5 + 4 * nb u) n) (6 + 4 * nb u) a) (7 + 4 * nb u) o) (425 + nb u) a) 1 (nb u + 1)
def sBar (f : Int → Int) (len : Int) (u : tT) (p : Int) : tP (tT × Int) :=
  if nb u = 9 then er f len p 4 else
  bd (sNum f len 2 4 (xtE f len p)) fun x =>
  bd (if isW f len x.2 4 = true then sNum f len 0 (x.1 - 1) (xtE f len x.2) else .inr (0, x.2)) fun y =>
  bd (if isW f len y.2 5 = true then sNum f len 0 (x.1 - 1) (xtE f len y.2) else .inr (x.1 - 1, y.2)) fun z =>
  .inr (aBar u x.1 y.1 z.1, z.2)
/-- a fact more of the rule at k -/
def aFact (u : tT) (k o nt a : Int) : tT := u1 (u1 (u1 (u1 u (k + 4 + 3 * u (k + 3)) o) (k + 5 + 3 * u (k + 3)) nt) (k + 6 + 3 * u (k + 3)) a) (k + 3) (u (k + 3) + 1)
def sOther (f : Int → Int) (len hi b p : Int) : tP (Int × Int) := if xtK f len p = 2 ∧ xtV f len p = b then er f len p 3 else sNum f len 0 hi p
def sFact (f : Int → Int) (len b k : Int) (x : tT × Int) : tP (tT × Int) :=
  bd (sOther f len (nb x.1 - 1) b x.2) fun y =>
  if isW f len y.2 9 = true ∨ isW f len y.2 4 = true then
    bd (sNum f len 0 (pl x.1 y.1 - 1) (xtE f len y.2)) fun z => .inr (aFact x.1 k y.1 (b2i (isW f len y.2 9)) z.1, z.2)
  else er f len y.2 2
def sAnd (f : Int → Int) (len b k : Int) : Nat → tT × Int → tP (tT × Int)
  | 0, x => .inr x
  | n + 1, x => if isW f len x.2 8 = true then (if x.1 (k + 3) = 4 then er f len x.2 4 else bd (sFact f len b k (x.1, xtE f len x.2)) (sAnd f len b k n)) else .inr x
def sTo (f : Int → Int) (len hi a p : Int) : tP (Int × Int) := if xtK f len p = 2 ∧ xtV f len p ≠ a - 1 ∧ xtV f len p ≠ a + 1 then er f len p 3 else sNum f len 0 hi p
def aRule (u : tT) (k b a o : Int) : tT := u1 (u1 (u1 (u1 u k b) (k + 1) a) (k + 2) o) 2 (nr u + 1)
def sRule (f : Int → Int) (len : Int) (u : tT) (p : Int) : tP (tT × Int) :=
  if nr u = 24 then er f len p 4 else
  bd (sNum f len 0 (nb u - 1) (xtE f len p)) fun b =>
  bd (sNum f len 0 (pl u b.1 - 1) b.2) fun a =>
  bd (sWord f len 6 a.2) fun q =>
  bd (sTo f len (pl u b.1 - 1) a.1 q) fun o =>
  bd (sWord f len 7 o.2) fun q =>
  bd (sFact f len b.1 (41 + 16 * nr u) (u1 u (41 + 16 * nr u + 3) 0, q)) fun x =>
  bd (sAnd f len b.1 (41 + 16 * nr u) 4 x) fun y =>
  .inr (aRule y.1 (41 + 16 * nr u) b.1 a.1 o.1, y.2)
def sNest (f : Int → Int) (len : Int) (u : tT) (p : Int) : tP (tT × Int) :=
  bd (if xtK f len (xtE f len p) = 2 ∧ nb u < xtV f len (xtE f len p) then er f len (xtE f len p) 3 else sNum f len 2 9 (xtE f len p)) fun x => .inr (u1 u 3 x.1, x.2)
def sWear (f : Int → Int) (len : Int) (u : tT) (p : Int) : tP (tT × Int) := bd (sNum f len 0 99 (xtE f len p)) fun x => .inr (u1 u 4 x.1, x.2)
def sOne (f : Int → Int) (len : Int) (u : tT) (p : Int) : tP (tT × Int) :=
  if isW f len p 0 = true then sBar f len u p else if isW f len p 1 = true then sRule f len u p else if isW f len p 2 = true then sNest f len u p else if isW f len p 3 = true then sWear f len u p else er f len p 2
def sLine (f : Int → Int) (len : Int) (u : tT) (p : Int) : tP (tT × Int) := bd (sOne f len u p) fun x => if xtK f len x.2 = 3 then .inr (u1 x.1 0 (x.1 0 + 1), xtE f len x.2) else er f len x.2 2
def sText (f : Int → Int) (len : Int) : Nat → tT × Int → tP (tT × Int)
  | 0, x => .inr x
  | n + 1, x => if xtK f len x.2 = 0 then .inr x else bd (sLine f len x.1 x.2) (sText f len n)
def sBox (f : Int → Int) (len : Int) : tP (tT × Int) := sText f len 901 (X0, 0)
