/-! THE LITTLE MACHINE: what a callee throws, caught by the caller's table -/
section
variable {G : mG} {M My : mM} {pc : Nat} {ls st : List mV} {h : mH} {r : mR}
theorem mRL_st9 {G : mG} {M : mM} {ls : List mV} {lsB : Array Slot} {i : Nat} {v : Value} {lst : List (Nat × Value)} (hlen : ls.length = mLo M) (hall : ∀ (i : Nat) (q : mV), ls[i]? = some q → q.1 < 3 → ∃ v, (i, v) ∈ lst ∧ mRV G q v)
    (hi : i < ls.length) (hB : lv_has lsB (mLo M) ((i, v) :: lst.filter (fun q => !(q.1 == i) && !(q.1 + 1 == i && q.2.category == 2)))) : mRL G M (lst1 ls i (9, 0)) lsB := by
  refine ⟨by rw [lst1_len, hlen], _, hB, fun j r hj hr => ?_⟩
  rcases lst1_get hi hj hr with ⟨rfl, rfl⟩ | ⟨h1, h2, h3⟩
  · exact absurd hr (by decide)
  · obtain ⟨u, h4, h5⟩ := hall j r h2 hr
    refine ⟨u, List.mem_cons_of_mem _ (List.mem_filter.mpr ⟨h4, ?_⟩), h5⟩
    have hc := mRV_cat h5
    by_cases ht : r.1 = 1
    · have : ¬ j + 1 = i := fun z => h3 ⟨z, ht⟩
      simp [h1, this]
    · rw [if_neg ht] at hc
      simp [h1, hc]
theorem exNo_cases {E : String} (h : exNo E ≠ 0) : E = "java/lang/IllegalArgumentException" ∨ E = "java/util/NoSuchElementException" ∨ E = "java/lang/IllegalStateException" ∨ E = "java/lang/IndexOutOfBoundsException" := by
  unfold exNo at h
  split at h
  · left; assumption
  · split at h
    · right; left; assumption
    · split at h
      · right; right; left; assumption
      · split at h
        · right; right; right; assumption
        · exact absurd rfl h
theorem mNC_of {E F : String} (hE : exNo E ≠ 0) (hF : exNo F ≠ 0) (hne : ¬ F = E) : (E, F) ∈ mNC := by
  rcases exNo_cases hE with rfl | rfl | rfl | rfl <;> rcases exNo_cases hF with rfl | rfl | rfl | rfl <;> first | exact absurd rfl hne | decide +kernel
theorem mThr_self {E : String} (hE : exNo E ≠ 0) : Cond.castable E E ∈ mNW := by
  have h9 : ∀ ic x9, (ic, E, x9) ∈ mThr → Cond.castable E E ∈ mNW := fun ic x9 hq => by
    refine mThr_no hq (List.mem_filter.mpr ⟨?_, ?_⟩) ?_
    · simp [Bundle.ownAtomsX]
    · simp [vx_no]
    · rfl
  rcases exNo_cases hE with rfl | rfl | rfl | rfl
  · exact h9 113 7 (by decide +kernel)
  · exact h9 175 13 (by decide +kernel)
  · exact h9 251 7 (by decide +kernel)
  · exact h9 406 7 (by decide +kernel)
theorem exNo_inj {E F : String} (h : exNo E = exNo F) (hE : exNo E ≠ 0) : E = F := by
  have hF : exNo F ≠ 0 := by rw [← h]; exact hE
  rcases exNo_cases hE with rfl | rfl | rfl | rfl <;> rcases exNo_cases hF with rfl | rfl | rfl | rfl <;> first | rfl | exact absurd h (by decide +kernel)
/-- the rows of a table that all cover a place, with their classes' names -/
def mHk (own : String) (pc : Nat) : List (Nat × Nat × Nat × Nat) → List (String × Nat) → Prop
  | [], [] => True
  | x :: xs, n :: ns => (x.1 ≤ pc ∧ pc < x.2.1 ∧ x.2.2.1 = n.2 ∧ x.2.2.2 ≠ 0) ∧ exNo n.1 ≠ 0 ∧ mTB (Cond.classLink own x.2.2.2 n.1) ∧ mHk own pc xs ns
  | _, _ => False
theorem mHk_split {own : String} {pc : Nat} {E : String} {hp : Nat} : ∀ {xs : List (Nat × Nat × Nat × Nat)} {ns : List (String × Nat)}, mHk own pc xs ns → ns.lookup E = some hp →
    ∃ (pre : List (Nat × Nat × Nat × Nat)) (x : Nat × Nat × Nat × Nat) (suf : List (Nat × Nat × Nat × Nat)), xs = pre ++ x :: suf ∧ (∀ z ∈ pre, z.2.2.2 ≠ 0 ∧ ∃ nm : String, mTB (Cond.classLink own z.2.2.2 nm) ∧ exNo nm ≠ 0 ∧ ¬ nm = E) ∧ (x.1 ≤ pc ∧ pc < x.2.1 ∧ x.2.2.1 = hp ∧ x.2.2.2 ≠ 0) ∧ mTB (Cond.classLink own x.2.2.2 E)
  | [], [], _, h => by cases h
  | [], _ :: _, h, _ => h.elim
  | _ :: _, [], h, _ => h.elim
  | x :: xs, n :: ns, h, h2 => by
    obtain ⟨h3, h4, h5, h6⟩ := h
    rw [List.lookup_cons] at h2
    by_cases he : E = n.1
    · subst he
      rw [BEq.rfl] at h2
      cases Option.some.inj h2
      exact ⟨[], x, xs, rfl, fun _ hz => (List.not_mem_nil hz).elim, h3, h5⟩
    · rw [show (E == n.1) = false from by simpa using he] at h2
      obtain ⟨pre, x9, suf, e1, e2, e3, e4⟩ := mHk_split h6 h2
      refine ⟨x :: pre, x9, suf, by rw [e1]; rfl, fun z hz => ?_, e3, e4⟩
      rcases List.mem_cons.mp hz with rfl | hz
      · exact ⟨h3.2.2.2, n.1, h5, h4, fun h => he h.symm⟩
      · exact e2 z hz
def bndC (tg : Nat) (x : Option mR) (k kx : Int → mH → Option mR) : Option mR := match x with
  | none => none
  | some ((t, v), h) => if t = 4 then kx v h else if t = tg then k v h else none
theorem bndC_some {tg : Nat} {x : Option mR} {k kx : Int → mH → Option mR} {r : mR} (h : bndC tg x k kx = some r) : ∃ (v : Int) (h1 : mH), (x = some ((4, v), h1) ∧ kx v h1 = some r) ∨ (tg ≠ 4 ∧ x = some ((tg, v), h1) ∧ k v h1 = some r) := by
  unfold bndC at h
  cases x with
  | none => cases h
  | some r1 =>
    obtain ⟨⟨t, v⟩, h1⟩ := r1
    refine ⟨v, h1, ?_⟩
    by_cases h4 : t = 4
    · subst h4
      simp only [if_true] at h
      exact Or.inl ⟨rfl, h⟩
    · simp only [h4, if_false] at h
      by_cases ht2 : t = tg
      · subst ht2
        simp only [if_true] at h
        exact Or.inr ⟨h4, rfl, h⟩
      · simp only [ht2, if_false] at h
        cases h
def mHs (M : mM) (hp i len : Nat) : Prop := (∃ j : Fin 4, (j : Nat) = i ∧ decode (mB M) hp = .ok (.astore_n j, 1) ∧ len = 1) ∨ (decode (mB M) hp = .ok (.astore i, 2) ∧ len = 2)
theorem j_callC {tg : Nat} {stk as : List mV} {cl : Option mR} {X Y : Int → mH → Option mR} {P : Int → List mV} {ns : List (String × Nat)} (hrun : mRun G M My pc ls stk as st h) (hP : ∀ v, P v = if tg = 3 then st else (tg, v) :: st) (hk : mHk (mO M) pc (mHh M) ns) (hr : bndC tg cl X Y = some r) (hcl : ∀ r1, cl = some r1 → mJM G My as h r1)
    (kx : ∀ v h1, Y v h1 = some r → ∃ E hp i len, exNo E = v ∧ exNo E ≠ 0 ∧ ns.lookup E = some hp ∧ mHs M hp i len ∧ i < ls.length ∧ mJ G M (hp + len) (lst1 ls i (9, 0)) [] h1 r)
    (kn : ∀ v h1, X v h1 = some r → mJ G M (pc + 3) ls (P v) h1 r) : mJ G M pc ls stk h r := by
  obtain ⟨v, h1, ⟨e1, e2⟩ | ⟨e1, e2, e3⟩⟩ := bndC_some hr
  · have hM := hcl _ e1
    obtain ⟨E9, hp, i, len, e7, e8, f1, f2, f3, f4⟩ := kx v h1 e2
    have hmono : hpN h ≤ hpN r.2 ∧ hpS h ≤ hpS r.2 := ⟨Int.le_trans hM.1.1 f4.1.1, Int.le_trans hM.1.2 f4.1.2⟩
    refine ⟨hmono, fun p e R s m args below meth c H locs cells slots mc ms lsA mst hC hS hH hL hst q1 q2 q3 q4 => ?_⟩
    have hC9 := hC
    obtain ⟨m1, m2⟩ := hM.1
    dsimp only at m1 m2
    obtain ⟨rest, a9, hrest, hrun⟩ := hrun p e R s m args below meth c H locs cells slots lsA mst _ hC hS hH hL hst hM (by have := f4.1.1; dsimp only; omega) (by have := f4.1.2; dsimp only; omega)
    obtain ⟨hx, hb, hml, hr1, hlk, htb, hown, hnm, hts, henv, hR, g⟩ := hC
    intro T hT X9
    rcases hrun T hT X9 with ⟨v0, st₀, t, T', L, h0, X', hL', e4, e5, ⟨⟨v9, hv, hp, hb9⟩, hF⟩, st9⟩ | ⟨q, st₀, t, T', L, E, ce, h0, X', hL', e4, e5, hXC, hce, hcv, hcl9, st9⟩
    · exfalso
      unfold mRO at hp
      split at hp
      · exact absurd (show (4 : Nat) = 3 from hp) (by decide)
      · exact absurd (show (4 : Nat) < 3 from mRV_tag hp) (by decide)
    · obtain ⟨k1, k2, k3⟩ := vx_keep h0 e4 hS (fun q _ z => z) (fun q z => z) hL' hXC.2.2.2
      have hE0 := hXC.2.1
      have hvE : v = exNo E := (Prod.mk.inj hXC.1).2
      have hEE : E = E9 := (exNo_inj (e7.trans hvE) e8).symm
      cases hEE
      obtain ⟨pre, x, suf, g1, g2, g3, g4⟩ := mHk_split hk f1
      have hlen := hL.1
      obtain ⟨-, lst, hL1, hL2⟩ := hL
      have hk9 : ∀ lsB : Array Slot, lv_has lsB (mLo M) ((i, Value.ref q) :: lst.filter (fun q => !(q.1 == i) && !(q.1 + 1 == i && q.2.category == 2))) → W p (gL G) e R s m args below meth c T'.heap (locs ++ L) (cells + (hpN h1 - hpN h).toNat) (slots + (hpS h1 - hpS h).toNat) (vx_MQ below (mQC G r) (mXC G r) args s mc ms (mA G)) (F0 m (hp + len) lsB []) := fun lsB hB =>
        f4.2 p e R s m args below meth c T'.heap (locs ++ L) _ _ mc ms lsB [] hC9 k3 (by rw [e4]; exact hXC.2.2.1) (mRL_st9 hlen hL2 f3 hB) trivial (by omega) (by omega) q3 q4
      have hW : W p (gL G) e R s m args below meth c T'.heap (locs ++ L) (cells + (hpN h1 - hpN h).toNat) (slots + (hpS h1 - hpS h).toNat) (vx_MQ below (mQC G r) (mXC G r) args s mc ms (mA G)) (F0 m hp lsA [.ref q]) := by
        have hi2 : i < mLo M := by rw [← hlen]; exact f3
        rcases f2 with ⟨j, rfl, hd, rfl⟩ | ⟨hd, rfl⟩
        · exact lv_astore_n hx hb hd rfl hL1 hi2 rfl hk9
        · exact lv_astore hx hb hd hL1 hi2 rfl hk9
      have hcat := vx_catch (p := p) (l := gL G) (e := e) (R := R) (s := s) (m := m) (args := args) (below := below) (meth := meth) (c := c) (H := T'.heap) (locs := locs ++ L) (cells := cells + (hpN h1 - hpN h).toNat) (slots := slots + (hpS h1 - hpS h).toNat) (Q := vx_MQ below (mQC G r) (mXC G r) args s mc ms (mA G)) (ls := lsA) (rest := rest) (pc := pc) (own := mO M) (name := E9) (E := E9) (ce := ce) (q := q) hown (tableOf pre) ⟨x.1, x.2.1, x.2.2.1, x.2.2.2⟩ (tableOf suf) (by rw [htb, g1]; simp [tableOf]) (fun z hz => by
          obtain ⟨z0, hz0, rfl⟩ := List.mem_map.mp hz
          obtain ⟨y1, nm, y2, y3, y4⟩ := g2 z0 hz0
          refine Or.inr ⟨y1, nm, hts _ y2, va_Nc.moved henv.1.alike ?_⟩
          obtain ⟨-, -, -, -, -, -, -, -, -, -, -, g9, -⟩ := g
          exact g9 _ (mNC_of hE0 y3 y4)) (by simp [covers, g3.1, g3.2.1]) g3.2.2.2 (hts _ g4) (mNW_use g henv _ (mThr_self hE0)) (by rw [e4]; exact hce) hcv hcl9 (by show W _ _ _ _ _ _ _ _ _ _ _ _ _ _ _ (F0 m x.2.2.1 lsA [.ref q]); rw [g3.2.2.1]; exact hW)
      obtain ⟨t2, a1, b1⟩ := hcat T' rfl X'
      exact ⟨t2, st9.trans a1, b1⟩
  · have hM := hcl _ e2
    have k := kn v h1 e3
    refine ⟨⟨Int.le_trans hM.1.1 k.1.1, Int.le_trans hM.1.2 k.1.2⟩, fun p e R s m args below meth c H locs cells slots mc ms lsA mst hC hS hH hL hst q1 q2 q3 q4 => ?_⟩
    obtain ⟨m1, m2⟩ := hM.1
    obtain ⟨m3, m4⟩ := k.1
    dsimp only at m1 m2
    obtain ⟨rest, a9, hrest, hrun⟩ := hrun p e R s m args below meth c H locs cells slots lsA mst _ hC hS hH hL hst hM (by dsimp only; omega) (by dsimp only; omega)
    intro T hT X9
    rcases hrun T hT X9 with ⟨v0, st₀, t, T', L, h0, X', hL', e4, e5, ⟨⟨v9, hv, hp, hb9⟩, hF⟩, st9⟩ | ⟨q, st₀, t, T', L, E, ce, h0, X', hL', e4, e5, hXC, hce, hcv, hcl9, st9⟩
    · cases hv
      obtain ⟨k1, k2, k3⟩ := vx_keep h0 e4 hS (fun q _ z => z) (fun q z => z) hL' hF
      have hk := k.2 p e R s m args below meth c T'.heap (locs ++ L) (cells + (hpN h1 - hpN h).toNat) (slots + (hpS h1 - hpS h).toNat) mc ms lsA (v0.toList ++ rest) hC k3 (by rw [e4]; exact hb9) hL (by
        rw [hP]
        cases v0 with
        | none =>
          have : tg = 3 := hp
          rw [if_pos this]
          exact hrest
        | some u =>
          have hu : mRV G (tg, v) u := hp
          have ht3 := mRV_tag hu
          rw [if_neg (by show ¬ tg = 3; have : tg < 3 := ht3; omega)]
          exact ⟨hu, hrest⟩) (by omega) (by omega) q3 q4
      obtain ⟨t2, a1, b1⟩ := hk T' rfl X'
      exact ⟨t2, st9 t2 a1, b1⟩
    · exfalso
      have := hXC.1
      exact e1 (Prod.mk.inj this).1
end
