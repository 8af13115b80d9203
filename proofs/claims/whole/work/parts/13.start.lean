def mSite (k : Nat) : String × Nat := ([("NineBars$Reader", 72), ("NineBars$Reader", 77), ("NineBars$Reader", 82), ("NineBars$Reader", 92), ("NineBars$Reader", 99), ("NineBars$Reader", 101), ("NineBars$Reader", 114), ("NineBars$Reader", 120), ("NineBars$Reader", 129), ("NineBars$Reader", 131), ("NineBars", 111), ("NineBars", 440), ("NineBars", 166), ("NineBars", 173), ("NineBars", 192), ("NineBars", 442), ("NineBars", 444), ("NineBars", 446), ("NineBars", 448), ("NineBars", 232), ("NineBars", 245), ("NineBars", 249), ("NineBars", 281), ("NineBars", 287), ("NineBars", 304), ("NineBars", 452), ("NineBars", 325), ("NineBars", 330), ("NineBars", 341), ("NineBars", 347), ("NineBars", 470), ("NineBars", 381), ("NineBars", 397), ("NineBars", 404), ("NineBars", 450), ("NineBars", 428)].getD k ("", 0))
theorem mLK_site : ∀ q ∈ mLK, (q.1, q.2.1) = mSite q.2.2.2 ∨ Cond.eq (.string (mSite q.2.2.2).1 (mSite q.2.2.2).2) (.string q.1 q.2.1) ∈ flatC narrow_1 := by decide +kernel
theorem mLK_ref : (mLK.all fun q => lw_tbl.contains (Cond.stringRef q.1 q.2.1 q.2.2.1)) = true := by decide +kernel
theorem mLK_ex : ∀ k : Nat, k < 36 → Cond.exactly (.string (mSite k).1 (mSite k).2) "java/lang/String" ∈ flatC narrow_1 := by decide +kernel
section
variable {l : Launch} {s : State} {b L : Nat} {xs : Nat → Int32}
def mTm (k : Nat) : Term := .string (mSite k).1 (mSite k).2
theorem st_co : ∀ i : Nat, i < 10 → Cond.eq (.field (mTm i) "java/lang/String" "coder" "B") (.int 0) ∈ flatC narrow_1 := by decide +kernel
theorem st_ar : ∀ i : Nat, i < 10 → Cond.arrayOf (.field (mTm i) "java/lang/String" "value" "[B") .byte ∈ flatC narrow_1 := by decide +kernel
theorem st_le : ∀ i : Nat, i < 10 → Cond.eq (.length (.field (mTm i) "java/lang/String" "value" "[B")) (.int (Int32.ofNat (mLn.getD i 0))) ∈ flatC narrow_1 := by decide +kernel
theorem st_el : ∀ i : Nat, i < 10 → ∀ j : Nat, j < mLn.getD i 0 → Cond.eq (.elem (.field (mTm i) "java/lang/String" "value" "[B") (.int (Int32.ofNat j))) (.int ((mBy.getD i []).getD j 0)) ∈ flatC narrow_1 := by decide +kernel
theorem st_ne : ∀ i : Nat, i < 10 → ∀ j : Nat, j < 10 → i ≠ j → mLn.getD i 0 ≠ mLn.getD j 0 ∨ (mBy.getD i []).getD 0 0 ≠ (mBy.getD j []).getD 0 0 := by decide +kernel
theorem st_ln : ∀ i : Nat, i < 10 → 0 < mLn.getD i 0 ∧ mLn.getD i 0 < 2 ^ 31 := by decide +kernel
theorem st_nn : ∀ q ∈ mNC, Cond.not (.castable q.1 q.2) ∈ flatC narrow_1 := by decide +kernel
theorem st_zz : Cond.isRef (.static Bundle.tN "UNASSIGNED_STACK" Bundle.steD) ∈ flatC narrow_1 ∧ Cond.isRef (.static Bundle.tN "SUPPRESSED_SENTINEL" Bundle.listD) ∈ flatC narrow_1 ∧ Cond.isRef (.static "jdk/internal/util/Preconditions" "SIOOBE_FORMATTER" "Ljava/util/function/BiFunction;") ∈ flatC narrow_1 ∧ Cond.eq (.static "java/lang/String" "COMPACT_STRINGS" "Z") (.int 1) ∈ flatC narrow_1 := by decide +kernel
def st_wdL : List Cond := ([Cond.laysStatic Bundle.tN "UNASSIGNED_STACK" Bundle.steD, Cond.laysStatic Bundle.tN "SUPPRESSED_SENTINEL" Bundle.listD, Cond.initialized Bundle.tN, Cond.laysStatic "java/lang/String" "COMPACT_STRINGS" "Z", Cond.initialized "java/lang/String", Cond.laysStatic "jdk/internal/util/Preconditions" "SIOOBE_FORMATTER" "Ljava/util/function/BiFunction;", Cond.initialized "jdk/internal/util/Preconditions", Cond.arrayOver (.object "NineBars$Box"), Cond.arrayOver (.object "NineBars$Tray"), Cond.arrayClass .int, Cond.arrayClass .long, Cond.arrayClass .byte, Cond.arrayClass .boolean] ++ (vwCl.map fun q => Cond.instantiable q.1 q.2.2))
theorem st_wd : (st_wdL.all fun w => lw_tbl.contains w) = true := by decide +kernel
theorem eq_eval {args : Array Value} {t1 t2 : Term} {a : Nat} (h : (Cond.eq t1 t2).before args s = true) (h1 : t1.eval args s none [] s = some (.ref a)) : t2.eval args s none [] s = some (.ref a) := by
  simp only [Cond.before, Cond.holds, Cond.value, h1] at h
  cases h2 : t2.eval args s none [] s with
  | none => simp [h2] at h
  | some v =>
    simp [h2] at h
    cases v <;> simp_all
theorem st_arr {args : Array Value} {ty : FieldType} (h : (Cond.arrayClass ty).before args s = true) (hn : ∀ C, ty ≠ .object C) : ∃ cA : ClassId, ArrOfT s cA ty ∧ va_RA s cA ty := by
  obtain ⟨c, k, comp, h1, h2, h3⟩ := Cond.arrayClass_spec h
  refine ⟨c, fun n z => ⟨fun k h => (by cases h), k, h2, comp, h3⟩, ?_⟩
  unfold va_RA
  split
  · rename_i C
    exact absurd rfl (hn C)
  · exact h1
theorem st_arrO {args : Array Value} {C : String} (h : (Cond.arrayOver (.object C)).before args s = true) : ∃ cA : ClassId, ArrOfT s cA (.object C) ∧ va_RA s cA (.object C) := by
  obtain ⟨comp, c, k, h1, h2, h3, h4, h5⟩ := Cond.arrayOver_spec h
  exact ⟨c, fun n z => ⟨fun k h => (by cases h), k, h3, comp, h4⟩, k, comp, h3, h4, h1, h5⟩
end
section
variable {l : Launch} {s : State} {b L : Nat} {xs : Nat → Int32}
theorem mLK_lt36 : ∀ q ∈ mLK, q.2.2.2 < 36 := by decide +kernel
theorem nI_toInt' {n : Nat} (h : n < 2 ^ 31) : (Int32.ofNat n).toInt = n := nI_toInt h
theorem gok_of (hfl : l.stackTraces = false) (hL : L ≤ 3072) (hts : ∀ w ∈ lw_tbl, w.before #[Value.ref b] s = true) (hX : va_X b L xs s s.heap) (hbl : b < s.heap.size) (hgv : (Cond.and given_1 narrow_1).before #[Value.ref b] s = true) :
    ∃ G : mG, GOK G ∧ gL G = l ∧ gS G = s ∧ gB G = b ∧ gLen G = L ∧ gXs G = xs := by
  have hnr : ∀ w ∈ flatC narrow_1, w.before #[Value.ref b] s = true := fun w hw => flat_of_before _ hgv w (by
    show w ∈ flatC given_1 ++ flatC narrow_1
    exact List.mem_append_right _ hw)
  have hA : ∀ a : Nat, a < s.heap.size → ¬ (fun q : Nat => s.heap.size ≤ q) a := fun a ha h => absurd h (Nat.not_le.mpr ha)
  have hwd : ∀ w : Cond, w ∈ st_wdL → w.before #[Value.ref b] s = true := fun w hw => hts w (List.contains_iff_mem.mp (List.all_eq_true.mp st_wd w hw))
  -- the classes
  have hcl : ∀ k : Nat, ∃ (cC : ClassId) (iS : Nat → Nat), ∀ q : vw_C, vwCl[k]? = some q → u_Kn s q.1 q.2.1 q.2.2 cC iS := by
    intro k
    have huw : ∀ (C : String) (T : u_T) (N : Nat), (∀ w ∈ u_ws C T N, mTB w) → (Cond.instantiable C N).before #[Value.ref b] s = true → ∃ (cC : ClassId) (iS : Nat → Nat), u_Kn s C T N cC iS := fun C T N h1 h2 => u_known (ws := lw_tbl) hts (fun w hw => (h1 w hw).1) h2
    match k with
    | 0 => obtain ⟨c, i, h⟩ := huw RX0 TX0 18 uw_0 (hwd (Cond.instantiable RX0 18) (by decide +kernel)); exact ⟨c, i, fun q hq => by cases hq; exact h⟩
    | 1 => obtain ⟨c, i, h⟩ := huw RX1 TX1 2 uw_1 (hwd (Cond.instantiable RX1 2) (by decide +kernel)); exact ⟨c, i, fun q hq => by cases hq; exact h⟩
    | 2 => obtain ⟨c, i, h⟩ := huw RX2 TX2 6 uw_2 (hwd (Cond.instantiable RX2 6) (by decide +kernel)); exact ⟨c, i, fun q hq => by cases hq; exact h⟩
    | 3 => obtain ⟨c, i, h⟩ := huw RX3 TX3 4 uw_3 (hwd (Cond.instantiable RX3 4) (by decide +kernel)); exact ⟨c, i, fun q hq => by cases hq; exact h⟩
    | 4 => obtain ⟨c, i, h⟩ := huw RX4 TX4 11 uw_4 (hwd (Cond.instantiable RX4 11) (by decide +kernel)); exact ⟨c, i, fun q hq => by cases hq; exact h⟩
    | 5 => obtain ⟨c, i, h⟩ := huw RX5 TX5 7 uw_5 (hwd (Cond.instantiable RX5 7) (by decide +kernel)); exact ⟨c, i, fun q hq => by cases hq; exact h⟩
    | 6 => obtain ⟨c, i, h⟩ := huw RX6 TX6 6 uw_6 (hwd (Cond.instantiable RX6 6) (by decide +kernel)); exact ⟨c, i, fun q hq => by cases hq; exact h⟩
    | 7 => obtain ⟨c, i, h⟩ := huw RX7 TX7 7 uw_7 (hwd (Cond.instantiable RX7 7) (by decide +kernel)); exact ⟨c, i, fun q hq => by cases hq; exact h⟩
    | 8 => obtain ⟨c, i, h⟩ := huw RX8 TX8 8 uw_8 (hwd (Cond.instantiable RX8 8) (by decide +kernel)); exact ⟨c, i, fun q hq => by cases hq; exact h⟩
    | 9 => obtain ⟨c, i, h⟩ := huw RX9 TX9 3 uw_9 (hwd (Cond.instantiable RX9 3) (by decide +kernel)); exact ⟨c, i, fun q hq => by cases hq; exact h⟩
    | 10 => obtain ⟨c, i, h⟩ := huw RX10 TX10 19 uw_10 (hwd (Cond.instantiable RX10 19) (by decide +kernel)); exact ⟨c, i, fun q hq => by cases hq; exact h⟩
    | 11 => obtain ⟨c, i, h⟩ := huw RX11 TX11 40 uw_11 (hwd (Cond.instantiable RX11 40) (by decide +kernel)); exact ⟨c, i, fun q hq => by cases hq; exact h⟩
    | k + 12 => obtain ⟨c, i, h⟩ := huw RX0 TX0 18 uw_0 (hwd (Cond.instantiable RX0 18) (by decide +kernel)); exact ⟨c, i, fun q hq => by simp at hq⟩
  obtain ⟨dC, hdC⟩ := Classical.axiomOfChoice hcl
  obtain ⟨dI, hdI⟩ := Classical.axiomOfChoice hdC
  -- the arrays
  obtain ⟨a1, hi⟩ := st_arr (ty := .int) (hwd (Cond.arrayClass .int) (by decide +kernel)) (fun C h => by cases h)
  obtain ⟨a2, hj⟩ := st_arr (ty := .long) (hwd (Cond.arrayClass .long) (by decide +kernel)) (fun C h => by cases h)
  obtain ⟨a3, hb⟩ := st_arr (ty := .byte) (hwd (Cond.arrayClass .byte) (by decide +kernel)) (fun C h => by cases h)
  obtain ⟨a4, hz⟩ := st_arr (ty := .boolean) (hwd (Cond.arrayClass .boolean) (by decide +kernel)) (fun C h => by cases h)
  obtain ⟨a5, hq⟩ := st_arrO (C := "NineBars$Box") (hwd (Cond.arrayOver (.object "NineBars$Box")) (by decide +kernel))
  obtain ⟨a6, ht⟩ := st_arrO (C := "NineBars$Tray") (hwd (Cond.arrayOver (.object "NineBars$Tray")) (by decide +kernel))
  -- the literals
  have hlk : ∀ k : Nat, ∃ a : Nat, k < 36 → (mTm k).eval #[Value.ref b] s none [] s = some (.ref a) := by
    intro k
    by_cases hk : k < 36
    · obtain ⟨a, c, cA, kA, q1, -⟩ := Cond.exactly_spec (args := #[Value.ref b]) (first := s) (o := none) (s := s) (idx := []) (t := mTm k) (cls := "java/lang/String") (hnr _ (mLK_ex k hk))
      exact ⟨a, fun _ => q1⟩
    · exact ⟨0, fun h => absurd h hk⟩
  obtain ⟨aK, haK⟩ := Classical.axiomOfChoice hlk
  have hne : ∀ i j : Nat, i < 10 → j < 10 → i ≠ j → aK i ≠ aK j := by
    intro i j h1 h2 h3 h4
    have e1 := haK i (by omega)
    have e2 := haK j (by omega)
    rw [← h4] at e2
    have ev : ∀ (n d : String), (Term.field (mTm i) "java/lang/String" n d).eval #[Value.ref b] s none [] s = (Term.field (mTm j) "java/lang/String" n d).eval #[Value.ref b] s none [] s := fun n d => by
      simp only [Term.eval, e1, e2]
    have el : (Term.length (.field (mTm i) "java/lang/String" "value" "[B")).eval #[Value.ref b] s none [] s = (Term.length (.field (mTm j) "java/lang/String" "value" "[B")).eval #[Value.ref b] s none [] s := by
      simp only [Term.eval, e1, e2]
    have ee : (Term.elem (.field (mTm i) "java/lang/String" "value" "[B") (.int (Int32.ofNat 0))).eval #[Value.ref b] s none [] s = (Term.elem (.field (mTm j) "java/lang/String" "value" "[B") (.int (Int32.ofNat 0))).eval #[Value.ref b] s none [] s := by
      simp only [Term.eval, e1, e2]
    have l1 := va_eqt (hnr _ (st_le i h1))
    have l2 := va_eqt (hnr _ (st_le j h2))
    have m1 := va_eqt (hnr _ (st_el i h1 0 (st_ln i h1).1))
    have m2 := va_eqt (hnr _ (st_el j h2 0 (st_ln j h2).1))
    rw [el, l2] at l1
    rw [ee, m2] at m1
    rcases st_ne i h1 j h2 h3 with h | h
    · apply h
      have h5 : Int32.ofNat (mLn.getD j 0) = Int32.ofNat (mLn.getD i 0) := by injection l1 with l1; injection l1
      have h6 := congrArg Int32.toInt h5
      rw [nI_toInt' (st_ln j h2).2, nI_toInt' (st_ln i h1).2] at h6
      omega
    · apply h
      injection m1 with m1
      injection m1 with m1
      exact m1.symm
  obtain ⟨adK, aV, hS, hev⟩ := vk_Sof (args := #[Value.ref b]) (s := s) (N := 10) (tm := mTm) (len := mLn) (byt := mBy) (A := fun q : Nat => s.heap.size ≤ q) (fun i hi => (st_ln i hi).2) (fun i hi => hnr _ (mLK_ex i (by omega))) (fun i hi => hnr _ (st_co i hi)) (fun i hi => hnr _ (st_ar i hi)) (fun i hi => hnr _ (st_le i hi)) (fun i hi j hj => hnr _ (st_el i hi j hj)) (fun i j h1 h2 h3 => Or.inl (by
    have e1 := haK i (by omega)
    have e2 := haK j (by omega)
    have h4 := hne i j h1 h2 h3
    simp only [Cond.before, Cond.holds, Cond.value, e1, e2]
    simp [h4])) hA
  have hadK : ∀ i, i < 10 → adK i = aK i := fun i hi => by
    have e1 := haK i (by omega)
    rw [hev i hi] at e1
    injection e1 with e1
    injection e1
  -- the formatter
  obtain ⟨z1, z2, z3, z4⟩ := st_zz
  have hfm : ∃ n a : Nat, va_Z "jdk/internal/util/Preconditions" "SIOOBE_FORMATTER" "Ljava/util/function/BiFunction;" (if n = 0 then .null else .ref a) (fun q : Nat => s.heap.size ≤ q) s s.heap := by
    rcases va_Zqof (A := fun q : Nat => s.heap.size ≤ q) (hwd (Cond.laysStatic "jdk/internal/util/Preconditions" "SIOOBE_FORMATTER" "Ljava/util/function/BiFunction;") (by decide +kernel)) (hwd (Cond.initialized "jdk/internal/util/Preconditions") (by decide +kernel)) (hnr _ z3) hA with h | ⟨t, h⟩
    · exact ⟨0, 0, h⟩
    · exact ⟨1, t, h⟩
  obtain ⟨fn, fa, hfm⟩ := hfm
  refine ⟨(l, s, (b, L, xs), (dC, dI), (fun t => if t = 21 then a1 else if t = 22 then a2 else if t = 23 then a3 else if t = 24 then a4 else if t = 25 then a5 else a6), aK, (fun k => if k = 98 then fn else if k = 99 then fa else aV k)), ?_, rfl, rfl, rfl, rfl, rfl⟩
  refine ⟨hfl, fun w hw => hts w hw.1, ⟨fun c q hq => hdI c q hq, ?_⟩, ⟨hX, hbl, hL⟩, ?_, ⟨?_, ?_⟩, ⟨?_, ?_⟩, ?_, hfm, va_AO.of (hwd (Cond.arrayOver (.object "NineBars$Box")) (by decide +kernel)), va_AO.of (hwd (Cond.arrayOver (.object "NineBars$Tray")) (by decide +kernel)), fun q hq => va_Nc.of (hnr _ (st_nn q hq)), ?_, ?_⟩
  · intro k q hk
    match k, hk with
    | 0, hk => cases hk; exact hi
    | 1, hk => cases hk; exact hj
    | 2, hk => cases hk; exact hb
    | 3, hk => cases hk; exact hz
    | 4, hk => cases hk; exact hq
    | 5, hk => cases hk; exact ht
    | k + 6, hk => simp [mTy] at hk
  · intro q hq
    have h1 : (Cond.stringRef q.1 q.2.1 q.2.2.1).before #[Value.ref b] s = true := hts _ (List.contains_iff_mem.mp (List.all_eq_true.mp mLK_ref q hq))
    refine vk_R.of (A := #[Value.ref b]) h1 ?_
    have hk := mLK_lt36 q hq
    rcases mLK_site q hq with h | h
    · have := haK _ hk
      unfold mTm at this
      rw [← h] at this
      exact this
    · exact eq_eval (hnr _ h) (haK _ hk)
  · intro i hi
    obtain ⟨k1, k2, k3, k4⟩ := hS.1 i hi
    rw [hadK i hi] at k1 k2 k3
    have hv : (fun k => if k = 98 then fn else if k = 99 then fa else aV k) i = aV i := by
      show (if i = 98 then fn else if i = 99 then fa else aV i) = aV i
      rw [if_neg (by omega), if_neg (by omega)]
    refine ⟨k1, k2, ?_, ?_⟩
    · show va_OF _ _ _ (.ref ((fun k => if k = 98 then fn else if k = 99 then fa else aV k) i)) _ _ _ _
      rw [hv]
      exact k3
    · show va_T _ ((fun k => if k = 98 then fn else if k = 99 then fa else aV k) i) _ _ _ _ _
      rw [hv]
      exact k4
  · intro i j h1 h2 h3
    by_cases h : i = j
    · exact h
    · exact absurd h3 (hne i j h1 h2 h)
  · exact vx_Zqof (args := #[Value.ref b]) (hwd (Cond.laysStatic Bundle.tN "UNASSIGNED_STACK" Bundle.steD) (by decide +kernel)) (hwd (Cond.initialized Bundle.tN) (by decide +kernel)) (hnr _ z1) hA
  · exact vx_Zqof (args := #[Value.ref b]) (hwd (Cond.laysStatic Bundle.tN "SUPPRESSED_SENTINEL" Bundle.listD) (by decide +kernel)) (hwd (Cond.initialized Bundle.tN) (by decide +kernel)) (hnr _ z2) hA
  · exact va_Zof (args := #[Value.ref b]) (hwd (Cond.laysStatic "java/lang/String" "COMPACT_STRINGS" "Z") (by decide +kernel)) (hwd (Cond.initialized "java/lang/String") (by decide +kernel)) (va_eqt (hnr _ z4)) hA
  · intro w hw
    have h1 := hts w (mNW_in w hw)
    have hk := List.all_eq_true.mp mNW_k w hw
    cases w with
    | castable a b => exact va_Nw.of rfl h1
    | declares x => exact va_Nw.of rfl h1
    | _ => cases hk
  · intro w hw
    have h1 := hts w hw.1
    have hk := hw.2
    cases w with
    | fieldLinkNest a b c d e f => exact va_Nw.of rfl h1
    | methodLinkNest a b c d => exact va_Nw.of rfl h1
    | _ => cases hk
end
