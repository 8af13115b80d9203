/-! WHAT IS READ IS WELL FORMED -/
section
variable {f : Int → Int} {len : Int}
theorem bd_inr {α β : Type} {x : tP α} {k : α → tP β} {b : β} (h : bd x k = .inr b) : ∃ a, x = .inr a ∧ k a = .inr b := by
  match x, h with
  | .inr a, h => exact ⟨a, rfl, h⟩
def PO (len q : Int) : Prop := 0 ≤ q ∧ q ≤ len
theorem sNum_inr {lo hi q : Int} {a : Int × Int} (h : sNum f len lo hi q = .inr a) : xtK f len q = 2 ∧ a = (xtV f len q, xtE f len q) ∧ lo ≤ a.1 ∧ a.1 ≤ hi := by
  unfold sNum at h
  by_cases g : xtK f len q = 2
  · rw [if_pos g] at h
    by_cases g2 : lo ≤ xtV f len q ∧ xtV f len q ≤ hi
    · rw [if_pos g2] at h
      cases h; exact ⟨g, rfl, g2.1, g2.2⟩
    · rw [if_neg g2] at h; cases h
  · rw [if_neg g] at h; cases h
theorem PO.e (X : TX f len) {q : Int} (h : PO len q) : PO len (xtE f len q) ∧ q ≤ xtE f len q := by
  have a := xtE_rng X h.1 h.2
  have b := xtB_rng X h.1 h.2
  have := h.1
  unfold PO; omega
theorem sNum_po (X : TX f len) {lo hi q : Int} (hq : PO len q) {a : Int × Int} (h : sNum f len lo hi q = .inr a) : PO len a.2 ∧ q ≤ a.2 ∧ lo ≤ a.1 ∧ a.1 ≤ hi := by
  obtain ⟨_, rfl, h1, h2⟩ := sNum_inr h
  exact ⟨(hq.e X).1, (hq.e X).2, h1, h2⟩
theorem sWord_po (X : TX f len) {n : Nat} {q a : Int} (hq : PO len q) (h : sWord f len n q = .inr a) : PO len a ∧ q ≤ a := by
  unfold sWord at h
  by_cases g : isW f len q n = true
  · rw [if_pos g] at h; cases h; exact hq.e X
  · rw [if_neg g] at h; cases h
theorem sOther_po (X : TX f len) {hi b q : Int} (hq : PO len q) {a : Int × Int} (h : sOther f len hi b q = .inr a) : PO len a.2 ∧ q ≤ a.2 ∧ 0 ≤ a.1 ∧ a.1 ≤ hi := by
  unfold sOther at h
  by_cases g : xtK f len q = 2 ∧ xtV f len q = b
  · rw [if_pos g] at h; cases h
  · rw [if_neg g] at h; exact sNum_po X hq h
theorem sTo_po (X : TX f len) {hi b q : Int} (hq : PO len q) {a : Int × Int} (h : sTo f len hi b q = .inr a) : PO len a.2 ∧ q ≤ a.2 ∧ 0 ≤ a.1 ∧ a.1 ≤ hi ∧ (a.1 = b - 1 ∨ a.1 = b + 1) := by
  unfold sTo at h
  by_cases g : xtK f len q = 2 ∧ xtV f len q ≠ b - 1 ∧ xtV f len q ≠ b + 1
  · rw [if_pos g] at h; cases h
  · rw [if_neg g] at h
    have := sNum_po X hq h
    obtain ⟨k, e, _, _⟩ := sNum_inr h
    refine ⟨this.1, this.2.1, this.2.2.1, this.2.2.2, ?_⟩
    rw [e]
    show xtV f len q = b - 1 ∨ xtV f len q = b + 1
    omega
/-- a box as it stands between two lines -/
def PW (u : tT) : Prop := WS u ∧ (∀ b, 0 ≤ b → b < nb u → pa u b = ps u b) ∧ (∀ b, 0 ≤ b → b < 9 → md u b = 0) ∧ OUT u X0
theorem PW.rw {u : tT} (P : PW u) : RW u (pa u) := fun b h0 h1 => by
  rw [P.2.1 b h0 h1]; have := P.1.2.2.2.2.2.1 b h0 h1; exact this.2.2.2.2
theorem PW.md {u : tT} (P : PW u) : MDB u 0 := fun b h0 h1 => by rw [P.2.2.1 b h0 (by have := P.1.1; omega)]; omega
theorem PW_0 : PW X0 := by
  refine ⟨⟨?_, ?_, ?_, ?_, ?_, fun b h0 h1 => absurd h1 (by show ¬ b < 0; omega), fun r h0 h1 => absurd h1 (by show ¬ r < 0; omega)⟩, fun b h0 h1 => absurd h1 (by show ¬ b < 0; omega), fun b _ _ => rfl, fun j _ => rfl⟩ <;> decide
/-- places of a told row are asked at places of their own -/
theorem aBar_at {u : tT} {n a o : Int} (j : Int) : aBar u n a o j = if j = 1 then nb u + 1 else if j = 425 + nb u then a else if j = 7 + 4 * nb u then o else if j = 6 + 4 * nb u then a else if j = 5 + 4 * nb u then n else u j := rfl
theorem aBar_PW {u : tT} (P : PW u) (h9 : nb u ≠ 9) {n a o : Int} (hn : 2 ≤ n ∧ n ≤ 4) (ha : 0 ≤ a ∧ a < n) (ho : 0 ≤ o ∧ o < n) : PW (aBar u n a o) ∧ aBar u n a o 0 = u 0 := by
  obtain ⟨⟨w1, w2, w3, w4, w5, w6, w7⟩, d, dm, ou⟩ := P
  have e1 : nb (aBar u n a o) = nb u + 1 := rfl
  have lo : ∀ j : Int, j ≠ 1 → j ≠ 425 + nb u → ¬ (5 + 4 * nb u ≤ j ∧ j ≤ 7 + 4 * nb u) → aBar u n a o j = u j := fun j g1 g2 g3 => by
    rw [aBar_at, if_neg g1, if_neg g2, if_neg (by omega), if_neg (by omega), if_neg (by omega)]
  have e2 : nr (aBar u n a o) = nr u := lo 2 (by omega) (by omega) (by omega)
  have e3 : ne (aBar u n a o) = ne u := lo 3 (by omega) (by omega) (by omega)
  have e4 : we (aBar u n a o) = we u := lo 4 (by omega) (by omega) (by omega)
  have e0 : aBar u n a o 0 = u 0 := lo 0 (by omega) (by omega) (by omega)
  have old : ∀ b, 0 ≤ b → b < nb u → pl (aBar u n a o) b = pl u b ∧ pa (aBar u n a o) b = pa u b ∧ po (aBar u n a o) b = po u b ∧ md (aBar u n a o) b = md u b ∧ ps (aBar u n a o) b = ps u b := fun b b0 b1 =>
    ⟨lo _ (by omega) (by omega) (by omega), lo _ (by omega) (by omega) (by omega), lo _ (by omega) (by omega) (by omega), lo _ (by omega) (by omega) (by omega), lo _ (by omega) (by omega) (by omega)⟩
  have new : pl (aBar u n a o) (nb u) = n ∧ pa (aBar u n a o) (nb u) = a ∧ po (aBar u n a o) (nb u) = o ∧ ps (aBar u n a o) (nb u) = a := by
    unfold pl pa po ps
    rw [aBar_at, aBar_at, aBar_at, aBar_at]
    refine ⟨?_, ?_, ?_, ?_⟩
    · rw [if_neg (by omega), if_neg (by omega), if_neg (by omega), if_neg (by omega), if_pos rfl]
    · rw [if_neg (by omega), if_neg (by omega), if_neg (by omega), if_pos rfl]
    · rw [if_neg (by omega), if_neg (by omega), if_pos rfl]
    · rw [if_neg (by omega), if_pos rfl]
  have rul : ∀ r, 0 ≤ r → r < nr u → ∀ i, 0 ≤ i → i < 16 → aBar u n a o (41 + 16 * r + i) = u (41 + 16 * r + i) := fun r r0 r1 i i0 i1 => lo _ (by omega) (by omega) (by omega)
  refine ⟨⟨⟨?_, ?_, ?_, ?_, ?_, fun b b0 b1 => ?_, fun r r0 r1 => ?_⟩, fun b b0 b1 => ?_, fun b b0 b1 => ?_, fun j hj => ?_⟩, e0⟩
  · rw [e1]; omega
  · rw [e2]; exact w2
  · rw [e3]; exact w3
  · rw [e4]; exact w4
  · rw [e0]; exact w5
  · by_cases e : b = nb u
    · rw [e, new.1, new.2.2.1, new.2.2.2]; omega
    · have q := old b b0 (by omega)
      rw [q.1, q.2.2.1, q.2.2.2.2]; exact w6 b b0 (by omega)
  · have x0 := w7 r r0 (by omega)
    have k0 : rb (aBar u n a o) r = rb u r := by have := rul r r0 (by omega) 0 (by omega) (by omega); rw [Int.add_zero] at this; exact this
    have k1 : rf (aBar u n a o) r = rf u r := by have := rul r r0 (by omega) 1 (by omega) (by omega); rw [show 41 + 16 * r + 1 = 42 + 16 * r by omega] at this; exact this
    have k2 : rt (aBar u n a o) r = rt u r := by have := rul r r0 (by omega) 2 (by omega) (by omega); rw [show 41 + 16 * r + 2 = 43 + 16 * r by omega] at this; exact this
    have k3 : rn (aBar u n a o) r = rn u r := by have := rul r r0 (by omega) 3 (by omega) (by omega); rw [show 41 + 16 * r + 3 = 44 + 16 * r by omega] at this; exact this
    have q := old (rb u r) x0.1.1 x0.1.2
    rw [k0, k1, k2, k3, q.1, e1]
    refine ⟨⟨x0.1.1, by omega⟩, x0.2.1, x0.2.2.1, x0.2.2.2.1, x0.2.2.2.2.1, fun g g0 g1 => ?_⟩
    have y := x0.2.2.2.2.2 g g0 g1
    have c4 := x0.2.2.2.2.1.2
    have m0 : fb (aBar u n a o) r g = fb u r g := by have := rul r r0 (by omega) (4 + 3 * g) (by omega) (by omega); rw [show 41 + 16 * r + (4 + 3 * g) = 45 + 16 * r + 3 * g by omega] at this; exact this
    have m1 : fn (aBar u n a o) r g = fn u r g := by have := rul r r0 (by omega) (5 + 3 * g) (by omega) (by omega); rw [show 41 + 16 * r + (5 + 3 * g) = 46 + 16 * r + 3 * g by omega] at this; exact this
    have m2 : fp (aBar u n a o) r g = fp u r g := by have := rul r r0 (by omega) (6 + 3 * g) (by omega) (by omega); rw [show 41 + 16 * r + (6 + 3 * g) = 47 + 16 * r + 3 * g by omega] at this; exact this
    rw [m0, m1, m2]; exact ⟨⟨y.1.1, by omega⟩, y.2⟩
  · by_cases e : b = nb u
    · rw [e, new.2.1, new.2.2.2]
    · have q := old b b0 (by omega)
      rw [q.2.1, q.2.2.2.2]; exact d b b0 (by omega)
  · have : md (aBar u n a o) b = md u b := lo _ (by omega) (by omega) (by omega)
    rw [this]; exact dm b b0 b1
  · rw [lo j (by omega) (by omega) (by omega)]; exact ou j hj
/-- a rule that is being told, at k, of the box u0 -/
def FK0 (u0 u : tT) : Prop := (∀ j, ¬ (41 + 16 * nr u0 ≤ j ∧ j < 41 + 16 * nr u0 + 16) → u j = u0 j) ∧ (0 ≤ u (41 + 16 * nr u0 + 3) ∧ u (41 + 16 * nr u0 + 3) ≤ 4) ∧
  ∀ g, 0 ≤ g → g < u (41 + 16 * nr u0 + 3) → (0 ≤ u (41 + 16 * nr u0 + 4 + 3 * g) ∧ u (41 + 16 * nr u0 + 4 + 3 * g) < nb u0) ∧ (u (41 + 16 * nr u0 + 5 + 3 * g) = 0 ∨ u (41 + 16 * nr u0 + 5 + 3 * g) = 1) ∧ (0 ≤ u (41 + 16 * nr u0 + 6 + 3 * g) ∧ u (41 + 16 * nr u0 + 6 + 3 * g) < 4)
theorem FK0_0 (u : tT) : FK0 u (u1 u (41 + 16 * nr u + 3) 0) := by
  refine ⟨fun j hj => u1_ne (by omega), by rw [u1_eq]; decide, fun g g0 g1 => ?_⟩
  rw [u1_eq] at g1; omega
theorem aFact_at (u : tT) (k o nt a : Int) (j : Int) : aFact u k o nt a j = if j = k + 3 then u (k + 3) + 1 else if j = k + 6 + 3 * u (k + 3) then a else if j = k + 5 + 3 * u (k + 3) then nt else if j = k + 4 + 3 * u (k + 3) then o else u j := rfl
theorem FK0_s {u0 u : tT} (F : FK0 u0 u) {o nt a : Int} (h4 : u (41 + 16 * nr u0 + 3) ≠ 4) (ho : 0 ≤ o ∧ o < nb u0) (hn : nt = 0 ∨ nt = 1) (ha : 0 ≤ a ∧ a < 4) : FK0 u0 (aFact u (41 + 16 * nr u0) o nt a) ∧ aFact u (41 + 16 * nr u0) o nt a (41 + 16 * nr u0 + 3) = u (41 + 16 * nr u0 + 3) + 1 := by
  unfold FK0 at F ⊢
  obtain ⟨f1, f2, f3⟩ := F
  generalize 41 + 16 * nr u0 = k at f1 f2 f3 h4 ⊢
  have e3 : aFact u k o nt a (k + 3) = u (k + 3) + 1 := by rw [aFact_at, if_pos rfl]
  refine ⟨⟨fun j hj => ?_, ?_, fun g g0 g1 => ?_⟩, e3⟩
  · rw [aFact_at, if_neg (by omega), if_neg (by omega), if_neg (by omega), if_neg (by omega)]; exact f1 j hj
  · rw [e3]; omega
  · rw [e3] at g1
    by_cases e : g = u (k + 3)
    · rw [aFact_at, aFact_at, aFact_at, e]
      rw [if_neg (by omega), if_neg (by omega), if_neg (by omega), if_pos rfl, if_neg (by omega), if_neg (by omega), if_pos rfl, if_neg (by omega), if_pos rfl]
      exact ⟨ho, hn, ha⟩
    · rw [aFact_at, aFact_at, aFact_at]
      rw [if_neg (by omega), if_neg (by omega), if_neg (by omega), if_neg (by omega), if_neg (by omega), if_neg (by omega), if_neg (by omega), if_neg (by omega), if_neg (by omega), if_neg (by omega), if_neg (by omega), if_neg (by omega)]
      exact f3 g g0 (by omega)
theorem aRule_at (u : tT) (k b a o : Int) (j : Int) : aRule u k b a o j = if j = 2 then nr u + 1 else if j = k + 2 then o else if j = k + 1 then a else if j = k then b else u j := rfl
theorem aRule_PW {u0 u : tT} (P : PW u0) (h24 : nr u0 ≠ 24) (F : FK0 u0 u) {b a o : Int} (hb : 0 ≤ b ∧ b < nb u0) (ha : 0 ≤ a ∧ a < pl u0 b) (ho : 0 ≤ o ∧ o < pl u0 b) (hao : o = a - 1 ∨ o = a + 1) : PW (aRule u (41 + 16 * nr u0) b a o) ∧ aRule u (41 + 16 * nr u0) b a o 0 = u0 0 := by
  obtain ⟨⟨w1, w2, w3, w4, w5, w6, w7⟩, d, dm, ou⟩ := P
  obtain ⟨f1, f2, f3⟩ := F
  generalize hk : 41 + 16 * nr u0 = k at f1 f2 f3 ⊢
  have lo : ∀ j : Int, j ≠ 2 → ¬ (k ≤ j ∧ j < k + 16) → aRule u k b a o j = u0 j := fun j g1 g2 => by
    rw [aRule_at, if_neg g1, if_neg (by omega), if_neg (by omega), if_neg (by omega)]; exact f1 j g2
  have hi : ∀ j : Int, k + 3 ≤ j → j < k + 16 → aRule u k b a o j = u j := fun j g1 g2 => by
    rw [aRule_at, if_neg (by omega), if_neg (by omega), if_neg (by omega), if_neg (by omega)]
  have e1 : nb (aRule u k b a o) = nb u0 := lo 1 (by omega) (by omega)
  have e2 : nr (aRule u k b a o) = nr u0 + 1 := by
    show aRule u k b a o 2 = _
    rw [aRule_at, if_pos rfl]
    show u 2 + 1 = _
    rw [f1 2 (by omega)]; rfl
  have e3 : ne (aRule u k b a o) = ne u0 := lo 3 (by omega) (by omega)
  have e4 : we (aRule u k b a o) = we u0 := lo 4 (by omega) (by omega)
  have e0 : aRule u k b a o 0 = u0 0 := lo 0 (by omega) (by omega)
  have old : ∀ b', 0 ≤ b' → b' < 9 → pl (aRule u k b a o) b' = pl u0 b' ∧ pa (aRule u k b a o) b' = pa u0 b' ∧ po (aRule u k b a o) b' = po u0 b' ∧ md (aRule u k b a o) b' = md u0 b' ∧ ps (aRule u k b a o) b' = ps u0 b' := fun b' b0 b1 =>
    ⟨lo _ (by omega) (by omega), lo _ (by omega) (by omega), lo _ (by omega) (by omega), lo _ (by omega) (by omega), lo _ (by omega) (by omega)⟩
  have kb : rb (aRule u k b a o) (nr u0) = b ∧ rf (aRule u k b a o) (nr u0) = a ∧ rt (aRule u k b a o) (nr u0) = o := by
    unfold rb rf rt
    rw [show 42 + 16 * nr u0 = k + 1 by omega, show 43 + 16 * nr u0 = k + 2 by omega, hk, aRule_at, aRule_at, aRule_at]
    refine ⟨?_, ?_, ?_⟩
    · rw [if_neg (by omega), if_neg (by omega), if_neg (by omega), if_pos rfl]
    · rw [if_neg (by omega), if_neg (by omega), if_pos rfl]
    · rw [if_neg (by omega), if_pos rfl]
  have kn : rn (aRule u k b a o) (nr u0) = u (k + 3) := by
    unfold rn; rw [show 44 + 16 * nr u0 = k + 3 by omega]; exact hi _ (by omega) (by omega)
  refine ⟨⟨⟨?_, ?_, ?_, ?_, ?_, fun b' b0 b1 => ?_, fun r r0 r1 => ?_⟩, fun b' b0 b1 => ?_, fun b' b0 b1 => ?_, fun j hj => ?_⟩, e0⟩
  · rw [e1]; exact w1
  · rw [e2]; omega
  · rw [e3]; exact w3
  · rw [e4]; exact w4
  · rw [e0]; exact w5
  · have q := old b' b0 (by omega)
    rw [q.1, q.2.2.1, q.2.2.2.2]; exact w6 b' b0 (by omega)
  · by_cases e : r = nr u0
    · have q := old b hb.1 (by omega)
      rw [e, kb.1, kb.2.1, kb.2.2, kn, q.1, e1]
      refine ⟨hb, ha, ho, by omega, f2, fun g g0 g1 => ?_⟩
      have y := f3 g g0 g1
      have m0 : fb (aRule u k b a o) (nr u0) g = u (k + 4 + 3 * g) := by unfold fb; rw [show 45 + 16 * nr u0 + 3 * g = k + 4 + 3 * g by omega]; exact hi _ (by omega) (by omega)
      have m1 : fn (aRule u k b a o) (nr u0) g = u (k + 5 + 3 * g) := by unfold fn; rw [show 46 + 16 * nr u0 + 3 * g = k + 5 + 3 * g by omega]; exact hi _ (by omega) (by omega)
      have m2 : fp (aRule u k b a o) (nr u0) g = u (k + 6 + 3 * g) := by unfold fp; rw [show 47 + 16 * nr u0 + 3 * g = k + 6 + 3 * g by omega]; exact hi _ (by omega) (by omega)
      rw [m0, m1, m2]; exact y
    · have x0 := w7 r r0 (by omega)
      have k0 : rb (aRule u k b a o) r = rb u0 r := lo _ (by omega) (by omega)
      have k1 : rf (aRule u k b a o) r = rf u0 r := lo _ (by omega) (by omega)
      have k2 : rt (aRule u k b a o) r = rt u0 r := lo _ (by omega) (by omega)
      have k3 : rn (aRule u k b a o) r = rn u0 r := lo _ (by omega) (by omega)
      have q := old (rb u0 r) x0.1.1 (by omega)
      rw [k0, k1, k2, k3, q.1, e1]
      refine ⟨x0.1, x0.2.1, x0.2.2.1, x0.2.2.2.1, x0.2.2.2.2.1, fun g g0 g1 => ?_⟩
      have y := x0.2.2.2.2.2 g g0 g1
      have c4 := x0.2.2.2.2.1.2
      have m0 : fb (aRule u k b a o) r g = fb u0 r g := lo _ (by omega) (by omega)
      have m1 : fn (aRule u k b a o) r g = fn u0 r g := lo _ (by omega) (by omega)
      have m2 : fp (aRule u k b a o) r g = fp u0 r g := lo _ (by omega) (by omega)
      rw [m0, m1, m2]; exact y
  · have q := old b' b0 (by omega)
    rw [q.2.1, q.2.2.2.2]; exact d b' b0 (by omega)
  · rw [(old b' b0 b1).2.2.2.1]; exact dm b' b0 b1
  · rw [lo j (by omega) (by omega)]; exact ou j hj
/-- one of the first five numbers changes -/
theorem one_PW {u : tT} (P : PW u) {i x : Int} (hi : (i = 3 ∧ 0 ≤ x ∧ x ≤ 9) ∨ (i = 4 ∧ 0 ≤ x ∧ x ≤ 99) ∨ (i = 0 ∧ 0 ≤ x ∧ x ≤ 1000)) : PW (u1 u i x) := by
  obtain ⟨⟨w1, w2, w3, w4, w5, w6, w7⟩, d, dm, ou⟩ := P
  have lo : ∀ j : Int, j ≠ i → u1 u i x j = u j := fun j g => u1_ne g
  have e1 : nb (u1 u i x) = nb u := lo 1 (by omega)
  have e2 : nr (u1 u i x) = nr u := lo 2 (by omega)
  have old : ∀ b', 0 ≤ b' → pl (u1 u i x) b' = pl u b' ∧ pa (u1 u i x) b' = pa u b' ∧ po (u1 u i x) b' = po u b' ∧ md (u1 u i x) b' = md u b' ∧ ps (u1 u i x) b' = ps u b' := fun b' b0 =>
    ⟨lo _ (by omega), lo _ (by omega), lo _ (by omega), lo _ (by omega), lo _ (by omega)⟩
  refine ⟨⟨?_, ?_, ?_, ?_, ?_, fun b' b0 b1 => ?_, fun r r0 r1 => ?_⟩, fun b' b0 b1 => ?_, fun b' b0 b1 => ?_, fun j hj => ?_⟩
  · rw [e1]; exact w1
  · rw [e2]; exact w2
  · by_cases e : i = 3
    · subst e; show 0 ≤ u1 u 3 x 3 ∧ u1 u 3 x 3 ≤ 9; rw [u1_eq]; omega
    · have : ne (u1 u i x) = ne u := lo 3 (by omega)
      rw [this]; exact w3
  · by_cases e : i = 4
    · subst e; show 0 ≤ u1 u 4 x 4 ∧ u1 u 4 x 4 ≤ 99; rw [u1_eq]; omega
    · have : we (u1 u i x) = we u := lo 4 (by omega)
      rw [this]; exact w4
  · by_cases e : i = 0
    · subst e; rw [u1_eq]; omega
    · rw [lo 0 (by omega)]; exact w5
  · have q := old b' b0
    rw [q.1, q.2.2.1, q.2.2.2.2]; exact w6 b' b0 (by omega)
  · have x0 := w7 r r0 (by omega)
    have k0 : rb (u1 u i x) r = rb u r := lo _ (by omega)
    have k1 : rf (u1 u i x) r = rf u r := lo _ (by omega)
    have k2 : rt (u1 u i x) r = rt u r := lo _ (by omega)
    have k3 : rn (u1 u i x) r = rn u r := lo _ (by omega)
    rw [k0, k1, k2, k3, (old (rb u r) x0.1.1).1, e1]
    refine ⟨x0.1, x0.2.1, x0.2.2.1, x0.2.2.2.1, x0.2.2.2.2.1, fun g g0 g1 => ?_⟩
    have y := x0.2.2.2.2.2 g g0 g1
    have m0 : fb (u1 u i x) r g = fb u r g := lo _ (by omega)
    have m1 : fn (u1 u i x) r g = fn u r g := lo _ (by omega)
    have m2 : fp (u1 u i x) r g = fp u r g := lo _ (by omega)
    rw [m0, m1, m2]; exact y
  · have q := old b' b0
    rw [q.2.1, q.2.2.2.2]; exact d b' b0 (by omega)
  · rw [(old b' b0).2.2.2.1]; exact dm b' b0 b1
  · rw [lo j (by omega)]; exact ou j hj
/-! the lines keep it -/
theorem sBar_ok (X : TX f len) {u : tT} (P : PW u) {q : Int} (hq : PO len q) {a : tT × Int} (h : sBar f len u q = .inr a) : PW a.1 ∧ a.1 0 = u 0 ∧ PO len a.2 ∧ xtE f len q ≤ a.2 := by
  unfold sBar at h
  by_cases g : nb u = 9
  · rw [if_pos g] at h; cases h
  rw [if_neg g] at h
  obtain ⟨x, h1, h⟩ := bd_inr h
  obtain ⟨y, h2, h⟩ := bd_inr h
  obtain ⟨z, h3, h⟩ := bd_inr h
  have p1 := sNum_po X (hq.e X).1 h1
  have p2 : PO len y.2 ∧ x.2 ≤ y.2 ∧ 0 ≤ y.1 ∧ y.1 ≤ x.1 - 1 := by
    by_cases k : isW f len x.2 4 = true
    · rw [if_pos k] at h2
      have e := p1.1.e X
      have := sNum_po X e.1 h2
      exact ⟨this.1, by omega, this.2.2⟩
    · rw [if_neg k] at h2; cases h2; exact ⟨p1.1, Int.le_refl _, by omega⟩
  have p3 : PO len z.2 ∧ y.2 ≤ z.2 ∧ 0 ≤ z.1 ∧ z.1 ≤ x.1 - 1 := by
    by_cases k : isW f len y.2 5 = true
    · rw [if_pos k] at h3
      have e := p2.1.e X
      have := sNum_po X e.1 h3
      exact ⟨this.1, by omega, this.2.2⟩
    · rw [if_neg k] at h3; cases h3; exact ⟨p2.1, Int.le_refl _, by show 0 ≤ x.1 - 1 ∧ x.1 - 1 ≤ x.1 - 1; omega⟩
  cases h
  have := aBar_PW P g (n := x.1) (a := y.1) (o := z.1) (by omega) (by omega) (by omega)
  exact ⟨this.1, this.2, p3.1, by show xtE f len q ≤ z.2; omega⟩
theorem sFact_ok (X : TX f len) {u0 : tT} (P : PW u0) {b : Int} {x : tT × Int} (F : FK0 u0 x.1) (h4 : x.1 (41 + 16 * nr u0 + 3) ≠ 4) (hq : PO len x.2) {a : tT × Int} (h : sFact f len b (41 + 16 * nr u0) x = .inr a) : FK0 u0 a.1 ∧ a.1 (41 + 16 * nr u0 + 3) = x.1 (41 + 16 * nr u0 + 3) + 1 ∧ PO len a.2 ∧ x.2 ≤ a.2 := by
  have en : nb x.1 = nb u0 := F.1 1 (by have := P.1.2.1; omega)
  have el : ∀ d, 0 ≤ d → d < nb u0 → pl x.1 d = pl u0 d := fun d d0 d1 => F.1 _ (by have := P.1.2.1; have := P.1.1; omega)
  unfold sFact at h
  obtain ⟨y, h1, h⟩ := bd_inr h
  have p1 := sOther_po X hq h1
  by_cases g : isW f len y.2 9 = true ∨ isW f len y.2 4 = true
  · rw [if_pos g] at h
    obtain ⟨z, h2, h⟩ := bd_inr h
    have e := p1.1.e X
    have p2 := sNum_po X e.1 h2
    cases h
    have hpl := P.1.2.2.2.2.2.1 y.1 (by omega) (by omega)
    rw [el y.1 (by omega) (by omega)] at p2
    have := FK0_s F (o := y.1) (nt := b2i (isW f len y.2 9)) (a := z.1) h4 (by omega) (b2i_01 _) (by omega)
    exact ⟨this.1, this.2, p2.1, by show x.2 ≤ z.2; omega⟩
  · rw [if_neg g] at h; cases h
theorem sAnd_ok (X : TX f len) {u0 : tT} (P : PW u0) {b : Int} : ∀ {n : Nat} {x : tT × Int}, FK0 u0 x.1 → PO len x.2 → ∀ {a : tT × Int}, sAnd f len b (41 + 16 * nr u0) n x = .inr a → FK0 u0 a.1 ∧ PO len a.2 ∧ x.2 ≤ a.2
  | 0, x, F, hq, a, h => by
    cases h; exact ⟨F, hq, Int.le_refl _⟩
  | n + 1, x, F, hq, a, h => by
    rw [sAnd] at h
    by_cases g : isW f len x.2 8 = true
    · rw [if_pos g] at h
      by_cases g4 : x.1 (41 + 16 * nr u0 + 3) = 4
      · rw [if_pos g4] at h; cases h
      · rw [if_neg g4] at h
        obtain ⟨y, h1, h⟩ := bd_inr h
        have e := hq.e X
        have p1 := sFact_ok X P (x := (x.1, xtE f len x.2)) F g4 e.1 h1
        have p2 := sAnd_ok X P p1.1 p1.2.2.1 h
        have p1r : xtE f len x.2 ≤ y.2 := p1.2.2.2
        exact ⟨p2.1, p2.2.1, by omega⟩
    · rw [if_neg g] at h; cases h; exact ⟨F, hq, Int.le_refl _⟩
theorem sRule_ok (X : TX f len) {u : tT} (P : PW u) {q : Int} (hq : PO len q) {a : tT × Int} (h : sRule f len u q = .inr a) : PW a.1 ∧ a.1 0 = u 0 ∧ PO len a.2 ∧ xtE f len q ≤ a.2 := by
  unfold sRule at h
  by_cases g : nr u = 24
  · rw [if_pos g] at h; cases h
  rw [if_neg g] at h
  obtain ⟨b, h1, h⟩ := bd_inr h
  obtain ⟨s, h2, h⟩ := bd_inr h
  obtain ⟨q2, h3, h⟩ := bd_inr h
  obtain ⟨o, h4, h⟩ := bd_inr h
  obtain ⟨q3, h5, h⟩ := bd_inr h
  obtain ⟨x, h6, h⟩ := bd_inr h
  obtain ⟨y, h7, h⟩ := bd_inr h
  have p1 := sNum_po X (hq.e X).1 h1
  have p2 := sNum_po X p1.1 h2
  have p3 := sWord_po X p2.1 h3
  have p4 := sTo_po X p3.1 h4
  have p5 := sWord_po X p4.1 h5
  have p6 := sFact_ok X P (x := (u1 u (41 + 16 * nr u + 3) 0, q3)) (FK0_0 u) (by show u1 u (41 + 16 * nr u + 3) 0 (41 + 16 * nr u + 3) ≠ 4; rw [u1_eq]; decide) p5.1 h6
  have p7 := sAnd_ok X P p6.1 p6.2.2.1 h7
  have p6r : q3 ≤ x.2 := p6.2.2.2
  cases h
  have := aRule_PW P g p7.1 (b := b.1) (a := s.1) (o := o.1) (by omega) (by omega) (by omega) (by omega)
  exact ⟨this.1, this.2, p7.2.1, by show xtE f len q ≤ y.2; omega⟩
theorem sNest_ok (X : TX f len) {u : tT} (P : PW u) {q : Int} (hq : PO len q) {a : tT × Int} (h : sNest f len u q = .inr a) : PW a.1 ∧ a.1 0 = u 0 ∧ PO len a.2 ∧ xtE f len q ≤ a.2 := by
  unfold sNest at h
  obtain ⟨x, h1, h⟩ := bd_inr h
  by_cases g : xtK f len (xtE f len q) = 2 ∧ nb u < xtV f len (xtE f len q)
  · rw [if_pos g] at h1; cases h1
  · rw [if_neg g] at h1
    have p1 := sNum_po X (hq.e X).1 h1
    cases h
    exact ⟨one_PW P (Or.inl ⟨rfl, by omega, by omega⟩), u1_ne (f := u) (i := 3) (x := x.1) (j := 0) (by decide), p1.1, p1.2.1⟩
theorem sWear_ok (X : TX f len) {u : tT} (P : PW u) {q : Int} (hq : PO len q) {a : tT × Int} (h : sWear f len u q = .inr a) : PW a.1 ∧ a.1 0 = u 0 ∧ PO len a.2 ∧ xtE f len q ≤ a.2 := by
  unfold sWear at h
  obtain ⟨x, h1, h⟩ := bd_inr h
  have p1 := sNum_po X (hq.e X).1 h1
  cases h
  exact ⟨one_PW P (Or.inr (Or.inl ⟨rfl, by omega, by omega⟩)), u1_ne (f := u) (i := 4) (x := x.1) (j := 0) (by decide), p1.1, p1.2.1⟩
theorem sOne_ok (X : TX f len) {u : tT} (P : PW u) {q : Int} (hq : PO len q) {a : tT × Int} (h : sOne f len u q = .inr a) : PW a.1 ∧ a.1 0 = u 0 ∧ PO len a.2 ∧ xtE f len q ≤ a.2 := by
  unfold sOne at h
  by_cases g0 : isW f len q 0 = true
  · rw [if_pos g0] at h; exact sBar_ok X P hq h
  rw [if_neg g0] at h
  by_cases g1 : isW f len q 1 = true
  · rw [if_pos g1] at h; exact sRule_ok X P hq h
  rw [if_neg g1] at h
  by_cases g2 : isW f len q 2 = true
  · rw [if_pos g2] at h; exact sNest_ok X P hq h
  rw [if_neg g2] at h
  by_cases g3 : isW f len q 3 = true
  · rw [if_pos g3] at h; exact sWear_ok X P hq h
  rw [if_neg g3] at h; cases h
/-- a box as read up to q -/
def PWq (len : Int) (x : tT × Int) : Prop := PW x.1 ∧ PO len x.2 ∧ x.1 0 ≤ x.2
theorem sLine_ok (X : TX f len) {x : tT × Int} (P : PWq len x) {a : tT × Int} (h : sLine f len x.1 x.2 = .inr a) : PWq len a ∧ x.2 + 1 ≤ a.2 := by
  unfold sLine at h
  obtain ⟨y, h1, h⟩ := bd_inr h
  have p1 := sOne_ok X P.1 P.2.1 h1
  by_cases g : xtK f len y.2 = 3
  · rw [if_pos g] at h
    cases h
    have e := xtE_rng X p1.2.2.1.1 p1.2.2.1.2
    have e1 := e.2.2 (by omega)
    have e2 := p1.2.2.1.e X
    have e3 := P.2.1.e X
    have hx := X.1
    have l0 := P.1.1.2.2.2.2.1
    have l1 := P.2.2
    have l2 := P.2.1
    unfold PO at l2
    refine ⟨⟨one_PW p1.1 (Or.inr (Or.inr ⟨rfl, by rw [p1.2.1]; omega, by rw [p1.2.1]; omega⟩)), e2.1, ?_⟩, ?_⟩
    · show u1 y.1 0 (y.1 0 + 1) 0 ≤ xtE f len y.2
      rw [u1_eq, p1.2.1]; omega
    · show x.2 + 1 ≤ xtE f len y.2
      omega
  · rw [if_neg g] at h; cases h
theorem sText_ok (X : TX f len) : ∀ {n : Nat} {x : tT × Int}, PWq len x → ∀ {a : tT × Int}, sText f len n x = .inr a → PWq len a
  | 0, x, P, a, h => by cases h; exact P
  | n + 1, x, P, a, h => by
    rw [sText] at h
    by_cases g : xtK f len x.2 = 0
    · rw [if_pos g] at h; cases h; exact P
    · rw [if_neg g] at h
      obtain ⟨y, h1, h⟩ := bd_inr h
      exact sText_ok X (sLine_ok X P h1).1 h
theorem PWq_0 (X : TX f len) : PWq len (X0, 0) := ⟨PW_0, ⟨Int.le_refl _, X.1.1⟩, Int.le_refl _⟩
end
