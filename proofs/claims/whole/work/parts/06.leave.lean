/-! THE LITTLE MACHINE: rows copied, the least and the greatest, leaving a method, a method's contract -/
section
variable {p : Program} {l : Launch} {e : Env} {R : Room} {s : State} {m : MethodId} {args : Array Value} {below : List Frame} {meth : Method} {c : Code} {H : Heap} {locs : List Loc} {cells slots : Nat} {Q : State → Prop}
/-- va_copyi with the heap's size told -/
theorem mm_copyi {D : va_G} {cl : List vw_C} {tys : List (ClassId × FieldType)} {A : Nat → Prop} {H0 : Heap} {a pc : Nat} {ls : Array Slot} {rest : List Value} {cc : ByteArray} (hexec : p.tables.exec = Jvm.exec) (hb : c.code = cc) (hml : c.maxLocals = ls.size) {own : String} {index : Nat} (hown : s.vm.findClass own = some m.cls) (hlink : (Cond.methodLink own index arraycopyName).before args s = true) (hnat : (Cond.native arraycopyName).before args s = true) (hstat : (Cond.static arraycopyName).before args s = true) (hini : (Cond.initialized "java/lang/System").before args s = true)
    (hK : va_K D cl tys s) (hS : va_S A H0 H locs) (hA : A a) (t0 : Nat) {a0 : Nat} {c0 : ClassId} {n0 n1 : Nat} {f g : Nat → Int32} {ty : FieldType} (ha0 : H[a0]? = some (vp_cell c0 (n0, .inl f))) (ha1 : H[a]? = some (vp_cell c0 (n1, .inl g))) (ht0 : tys[t0]? = some (c0, ty)) (hprim : refKind ty = false)
    {sp dp n : Int32} (h1 : ¬ sp < 0) (h2 : ¬ dp < 0) (h3 : ¬ n < 0) (h4 : sp.toNatClampNeg + n.toNatClampNeg ≤ n0) (h5 : dp.toNatClampNeg + n.toNatClampNeg ≤ n1) (hfit : ∀ i, i < n.toNatClampNeg → fits ty (.int (f (sp.toNatClampNeg + i))) = true)
    (hframes : 1 ≤ R.frames) (hlocals : (rest.map fun v => v.category).sum + (nativeFrameWords "java/lang/System" "arraycopy" 5 + 11) ≤ R.locals) (hdg : decode cc pc = .ok (.invokestatic index, 3))
    (kk : ∀ (H1 : Heap) (locs1 : List Loc), H1[a]? = some (vp_cell c0 (n1, .inl (va_cpy f g sp.toNatClampNeg dp.toNatClampNeg n.toNatClampNeg))) → H1.size = H.size → (∀ q, q ≠ a → H1[q]? = H[q]?) → va_S A H0 H1 locs1 → W p l e R s m args below meth c H1 locs1 cells slots Q (F0 m (pc + 3) ls rest)) : W p l e R s m args below meth c H locs cells slots Q (F0 m pc ls (.int n :: .int dp :: .ref a :: .int sp :: .ref a0 :: rest)) := by
  have nn : ∀ z : Int32, ¬ z < 0 → z.toInt = (z.toNatClampNeg : Int) := by
    intro z hz
    have hz0 : (0 : Int) ≤ z.toInt := by
      have := Int32.not_lt.mp hz
      simpa using Int32.le_iff_toInt_le.mp this
    show z.toInt = ((z.toInt.toNat : Nat) : Int)
    omega
  intro T hT X
  have hc0 : H[a0]? = some (vp_cell c0 (n0, .inl f)) := ha0
  have hc1 : H[a]? = some (vp_cell c0 (n1, .inl g)) := ha1
  obtain ⟨-, k0, hk0, cm0, hkk0⟩ := (hK.2 t0 _ ht0).1 n0 (fun j => .int (f j))
  obtain ⟨-, k1, hk1, cm1, hkk1⟩ := (hK.2 t0 _ ht0).1 n1 (fun j => .int (g j))
  obtain ⟨vm', X', step⟩ := X.arraycopy hexec hown hlink hnat hstat hini (src := a0) (dst := a) (cs := vp_cell c0 (n0, .inl f)) (cd := vp_cell c0 (n1, .inl g)) (srcPos := sp) (destPos := dp) (n := n) (by rw [hT]; exact hc0) (by rw [hT]; exact hc1)
    (fun _ h => by cases h) (fun _ h => by cases h) (fun h => by cases h) (fun h => by cases h) hk0 hk1 hkk0 hkk1 (by simp [hprim]) h1 h2 h3
    (by rw [nn sp h1, nn n h3]; show ¬ _ > ((arrV c0 n0 (fun j => .int (f j))).slots.size : Int); rw [arrV_size]; omega)
    (by rw [nn dp h2, nn n h3]; show ¬ _ > ((arrV c0 n1 (fun j => .int (g j))).slots.size : Int); rw [arrV_size]; omega)
    (fun vm₁ _ i hi => by
      have e : (vp_cell c0 (n0, .inl f)).slots.getD (sp.toNatClampNeg + i) .null = .int (f (sp.toNatClampNeg + i)) := by
        show (arrV c0 n0 (fun j => .int (f j))).slots.getD _ _ = _
        rw [Array.getD_eq_getD_getElem?, arrV_read _ _ (by omega)]
        rfl
      refine ⟨?_, ?_⟩
      · rw [e]
        exact hfit i hi
      · rw [e]
        exact trivial)
    (g := F0 m pc ls (.int n :: .int dp :: .ref a :: .int sp :: .ref a0 :: rest)) rfl (by rw [hml]) (rest := rest) rfl (by rw [hb]; exact hdg) hframes (by show 2 * 0 + _ + _ ≤ _; omega)
  have e1 : copied (vp_cell c0 (n0, .inl f)) (vp_cell c0 (n1, .inl g)) sp dp n = vp_cell c0 (n1, .inl (va_cpy f g sp.toNatClampNeg dp.toNatClampNeg n.toNatClampNeg)) := va_copied (fun z => .int z) c0 c0 f g h4
  rw [e1] at X' step
  have hl : a < H.size := (Array.getElem?_eq_some_iff.mp hc1).1
  have hheap : ((T.setVm vm').setCell a (vp_cell c0 (n1, .inl (va_cpy f g sp.toNatClampNeg dp.toNatClampNeg n.toNatClampNeg)))).heap = H.setIfInBounds a (vp_cell c0 (n1, .inl (va_cpy f g sp.toNatClampNeg dp.toNatClampNeg n.toNatClampNeg))) := by rw [← hT]; rfl
  have oq : ∀ q : Nat, q ≠ a → (H.setIfInBounds a (vp_cell c0 (n1, .inl (va_cpy f g sp.toNatClampNeg dp.toNatClampNeg n.toNatClampNeg))))[q]? = H[q]? := fun q hq => by simp [Array.getElem?_setIfInBounds, Ne.symm hq]
  obtain ⟨t, a1, b1⟩ := kk _ _ (show (H.setIfInBounds a _)[a]? = some _ by simp [Array.getElem?_setIfInBounds, hl]) (by simp) oq ⟨by simp; exact hS.1, fun q g1 g2 => by
      rw [oq q (fun e => g2 (by rw [e]; exact hA))]
      exact hS.2.1 q g1 g2, fun q hq => by
      rcases List.mem_append.mp hq with h | h
      · exact hS.2.2 q h
      · obtain ⟨z, -, hz⟩ := List.mem_map.mp h
        rw [← hz]
        exact hA⟩ _ hheap X'
  exact ⟨t, step t a1, b1⟩
end
theorem mRL_sz {G : mG} {M : mM} {ls : List mV} {lsA : Array Slot} (h : mRL G M ls lsA) : lsA.size = mLo M := by
  obtain ⟨-, lst, h1, -⟩ := h
  exact h1.1
section
variable {G : mG} {M : mM} {pc : Nat} {ls ls' st : List mV} {h : mH} {r : mR}
theorem j_copyI {idx : Nat} {a sp d dp n : Int} {X : mH → Option mR} (hd : decode (mB M) pc = .ok (.invokestatic idx, 3)) (hlk9 : mTB (Cond.methodLink (mO M) idx arraycopyName)) (hnt : mTB (Cond.native arraycopyName)) (hst9 : mTB (Cond.static arraycopyName)) (hin9 : mTB (Cond.initialized "java/lang/System")) (hwt : mwt st ≤ 8)
    (hr : chk (hpT h a = 21 ∧ hpT h d = 21 ∧ 0 ≤ sp ∧ 0 ≤ dp ∧ 0 ≤ n ∧ sp + n ≤ hpL h a ∧ dp + n ≤ hpL h d) (wth (hcpy h a sp d dp n) X) = some r) (kn : ∀ h', X h' = some r → mJ G M (pc + 3) ls st h' r) : mJ G M pc ls ((0, n) :: (0, dp) :: (2, d) :: (0, sp) :: (2, a) :: st) h r := by
  obtain ⟨⟨ha9, hd9, k1, k2, k3, k4, k5⟩, hr⟩ := chk_some hr
  refine j_stepH (fun p e R s m args below meth c9 H locs cells slots Q lsA mst hC hS hH hL hst kk => ?_) (hcpy_N _ _ _ _ _ _) (hcpy_S _ _ _ _ _ _) (kn _ hr)
  obtain ⟨hx, hb, hml, hr1, hlk, htb, hown, hnm, hts, henv, hR, g⟩ := hC
  obtain ⟨n1, m1, rfl, rfl, hst1⟩ := mRS_i hst
  obtain ⟨dp1, m2, rfl, rfl, hst2⟩ := mRS_i hst1
  obtain ⟨m3, rfl, hst3⟩ := mRS_r hst2
  obtain ⟨sp1, m4, rfl, rfl, hst4⟩ := mRS_i hst3
  obtain ⟨m5, rfl, hst5⟩ := mRS_r hst4
  obtain ⟨ha, na, f, q1, q2, q3, q4⟩ := mRH_i hH ha9 (Or.inl rfl)
  obtain ⟨hdp, nd, g9, u1, u2, u3, u4⟩ := mRH_i hH hd9 (Or.inl rfl)
  rw [mr_pos ha, mr_pos hdp]
  have hK := mK_s g henv
  have n0 : ∀ z : Int32, 0 ≤ z.toInt → ¬ z < 0 := fun z hz => by rw [Int32.lt_iff_toInt_lt, i32_zero]; omega
  have c1 := i32_cl k1
  have c2 := i32_cl k2
  have c3 := i32_cl k3
  have hnw : nativeFrameWords "java/lang/System" "arraycopy" 5 ≤ 30 := by decide +kernel
  have hwl : (m5.map fun v => v.category).sum + (nativeFrameWords "java/lang/System" "arraycopy" 5 + 11) ≤ R.locals := by rw [mRS_wt hst5]; omega
  refine mm_copyi hx hb (by rw [hml, mRL_sz hL]) hown (hts _ hlk9) (hts _ hnt) (hts _ hst9) (hts _ hin9) hK hS (mA_ad G d) 0 q1 u1 rfl rfl (n0 _ k1) (n0 _ k2) (n0 _ k3) (by omega) (by omega) (fun i hi => rfl) (by omega) hwl hd fun H1 locs1 e1 e2 e3 e4 => ?_
  refine kk H1 locs1 lsA m5 e4 ?_ hL hst5
  refine mRH_set hH (by omega) e2 e3 (e' := .inl (gC G 21, nd, .inl (va_cpy f g9 sp1.toNatClampNeg dp1.toNatClampNeg n1.toNatClampNeg))) e1 (hcpy_N _ _ _ _ _ _) (fun y => rfl) (fun y => rfl) (fun y j hy => by rw [hcpy_V, if_neg (fun w => hy w.1)]) ?_
  unfold mRE
  rw [hcpy_T, hcpy_L, if_neg (by omega), if_neg (by omega), if_neg (by omega), hd9]
  refine ⟨Or.inl rfl, nd, _, rfl, u2, u3, fun j hj => ?_⟩
  rw [hcpy_V]
  by_cases hin : dp1.toNatClampNeg ≤ j ∧ j < dp1.toNatClampNeg + n1.toNatClampNeg
  · rw [if_pos ⟨rfl, by omega, by omega⟩, pk_cpy_in hin.1 hin.2, show sp1.toInt + ((j : Int) - dp1.toInt) = ((sp1.toNatClampNeg + (j - dp1.toNatClampNeg) : Nat) : Int) by omega, q4 _ (by omega)]
  · rw [if_neg (by omega), pk_cpy_out (by omega), u4 j hj]
theorem j_max {idx : Nat} {a b : Int} (hd : decode (mB M) pc = .ok (.invokestatic idx, 3)) (h1 : mTB (Cond.methodLink (mO M) idx Lib.Math.max.name)) (h2 : mTB (Cond.static Lib.Math.max.name)) (h3 : mTB (Cond.initialized "java/lang/Math")) (h4 : mTB (Cond.code Lib.Math.max.name Lib.Math.max.code 2 (some .int))) (hwt : mwt st ≤ 8) (k : mJ G M (pc + 3) ls ((0, if a < b then b else a) :: st) h r) : mJ G M pc ls ((0, b) :: (0, a) :: st) h r := by
  refine j_step (fun p e R s m args below meth c9 H locs cells slots Q lsA mst hC hS hH hL hst hcl hsl kk => ?_) k
  obtain ⟨hx, hb, hml, hr1, hlk, htb, hown, hnm, hts, henv, hR, g⟩ := hC
  obtain ⟨y, m1, rfl, rfl, hst1⟩ := mRS_i hst
  obtain ⟨x, m2, rfl, rfl, hst2⟩ := mRS_i hst1
  refine va_mmax hx hb (by rw [hml, mRL_sz hL]) hown (hts _ h1) (hts _ h2) (hts _ h3) (hts _ h4) (by omega) (by rw [mRS_wt hst2]; omega) hcl hsl hd (kk lsA _ hL ⟨?_, hst2⟩)
  show _ = _
  refine Prod.ext rfl ?_
  by_cases hxy : x < y
  · rw [if_pos hxy, if_pos (Int32.lt_iff_toInt_lt.mp hxy)]
  · rw [if_neg hxy, if_neg (fun w => hxy (Int32.lt_iff_toInt_lt.mpr w))]
theorem j_min {idx : Nat} {a b : Int} (hd : decode (mB M) pc = .ok (.invokestatic idx, 3)) (h1 : mTB (Cond.methodLink (mO M) idx Lib.Math.min.name)) (h2 : mTB (Cond.static Lib.Math.min.name)) (h3 : mTB (Cond.initialized "java/lang/Math")) (h4 : mTB (Cond.code Lib.Math.min.name Lib.Math.min.code 2 (some .int))) (hwt : mwt st ≤ 8) (k : mJ G M (pc + 3) ls ((0, if b < a then b else a) :: st) h r) : mJ G M pc ls ((0, b) :: (0, a) :: st) h r := by
  refine j_step (fun p e R s m args below meth c9 H locs cells slots Q lsA mst hC hS hH hL hst hcl hsl kk => ?_) k
  obtain ⟨hx, hb, hml, hr1, hlk, htb, hown, hnm, hts, henv, hR, g⟩ := hC
  obtain ⟨y, m1, rfl, rfl, hst1⟩ := mRS_i hst
  obtain ⟨x, m2, rfl, rfl, hst2⟩ := mRS_i hst1
  refine va_mmin hx hb (by rw [hml, mRL_sz hL]) hown (hts _ h1) (hts _ h2) (hts _ h3) (hts _ h4) (by omega) (by rw [mRS_wt hst2]; omega) hcl hsl hd (kk lsA _ hL ⟨?_, hst2⟩)
  show _ = _
  refine Prod.ext rfl ?_
  by_cases hxy : y < x
  · rw [if_pos hxy, if_pos (Int32.lt_iff_toInt_lt.mp hxy)]
  · rw [if_neg hxy, if_neg (fun w => hxy (Int32.lt_iff_toInt_lt.mpr w))]
theorem j_objInit {idx : Nat} {a : Int} (hd : decode (mB M) pc = .ok (.invokespecial idx, 3)) (h1 : mTB (Cond.methodLink (mO M) idx Lib.objectInit)) (h2 : mTB (Cond.instanceMethod Lib.objectInit)) (h3 : mTB (Cond.code Lib.objectInit ⟨#[0xb1]⟩ 1 none)) (hwt : mwt st ≤ 8) (ha : 0 < a) (k : mJ G M (pc + 3) ls st h r) : mJ G M pc ls ((2, a) :: st) h r := by
  refine j_step (fun p e R s m args below meth c9 H locs cells slots Q lsA mst hC hS hH hL hst hcl hsl kk => ?_) k
  obtain ⟨hx, hb, hml, hr1, hlk, htb, hown, hnm, hts, henv, hR, g⟩ := hC
  obtain ⟨m1, rfl, hst1⟩ := mRS_r hst
  rw [mr_pos ha]
  exact W.objInit hx hb hown (hts _ h1) (hts _ h2) (hts _ h3) (g := F0 m pc lsA (.ref (mad G a) :: m1)) rfl (by show lsA.size = _; rw [hml, mRL_sz hL]) rfl hd (by omega) (by show 2 * 0 + _ + 12 ≤ _; rw [mRS_wt hst1]; omega) (kk lsA _ hL hst1)
/-! leaving -/
theorem j_iret {a : Int} (hd : decode (mB M) pc = .ok (.ireturn, 1)) (hrt : mRt M = some .int) (hr : some (((0, a), h) : mR) = some r) : mJ G M pc ls [(0, a)] h r := by
  cases Option.some.inj hr
  refine ⟨⟨Int.le_refl _, Int.le_refl _⟩, fun p e R s m args below meth c H locs cells slots mc ms lsA mst hC hS hH hL hst h1 h2 h3 h4 => ?_⟩
  obtain ⟨hx, hb, hml, hr1, hlk, htb, hown, hnm, hts, henv, hR, g⟩ := hC
  obtain ⟨x, m1, rfl, rfl, hst1⟩ := mRS_i hst
  cases m1 with
  | cons _ _ => exact hst1.elim
  | nil =>
    dsimp only at h1 h2
    refine W.widen (k := mc) (n := ms) (by omega) (by omega) (vx_ret ?_)
    exact W.iret hx hb (hr1.trans hrt) (fun t ht hw => ⟨⟨_, rfl, rfl, by rw [ht]; exact hH⟩, hS.F ht⟩) hS.2.2 hd hlk
theorem j_zret {a : Int} (hd : decode (mB M) pc = .ok (.ireturn, 1)) (hrt : mRt M = some .boolean) (hr : chk (a = 0 ∨ a = 1) (some (((0, a), h) : mR)) = some r) : mJ G M pc ls [(0, a)] h r := by
  obtain ⟨ha, hr⟩ := chk_some hr
  cases Option.some.inj hr
  refine ⟨⟨Int.le_refl _, Int.le_refl _⟩, fun p e R s m args below meth c H locs cells slots mc ms lsA mst hC hS hH hL hst h1 h2 h3 h4 => ?_⟩
  obtain ⟨hx, hb, hml, hr1, hlk, htb, hown, hnm, hts, henv, hR, g⟩ := hC
  obtain ⟨x, m1, rfl, hxa, hst1⟩ := mRS_i hst
  have hx01 : narrow .boolean (.int x) = .int x := by
    have : x = 0 ∨ x = 1 := by
      rcases ha with h0 | h0
      · left; rw [← Int32.toInt_inj, hxa, h0]; rfl
      · right; rw [← Int32.toInt_inj, hxa, h0]; rfl
    rcases this with rfl | rfl <;> rfl
  cases m1 with
  | cons _ _ => exact hst1.elim
  | nil =>
    dsimp only at h1 h2
    refine W.widen (k := mc) (n := ms) (by omega) (by omega) (vx_ret ?_)
    exact W.zret hx hb (hr1.trans hrt) hx01 (fun t ht hw => ⟨⟨_, rfl, hst.1, by rw [ht]; exact hH⟩, hS.F ht⟩) hS.2.2 hd hlk
theorem j_lret {a : Int} (hd : decode (mB M) pc = .ok (.lreturn, 1)) (hrt : mRt M = some .long) (hr : some (((1, a), h) : mR) = some r) : mJ G M pc ls [(1, a)] h r := by
  cases Option.some.inj hr
  refine ⟨⟨Int.le_refl _, Int.le_refl _⟩, fun p e R s m args below meth c H locs cells slots mc ms lsA mst hC hS hH hL hst h1 h2 h3 h4 => ?_⟩
  obtain ⟨hx, hb, hml, hr1, hlk, htb, hown, hnm, hts, henv, hR, g⟩ := hC
  obtain ⟨x, m1, rfl, rfl, hst1⟩ := mRS_l hst
  cases m1 with
  | cons _ _ => exact hst1.elim
  | nil =>
    dsimp only at h1 h2
    refine W.widen (k := mc) (n := ms) (by omega) (by omega) (vx_ret ?_)
    exact W.lret hx hb (hr1.trans hrt) (fun t ht hw => ⟨⟨_, rfl, rfl, by rw [ht]; exact hH⟩, hS.F ht⟩) hS.2.2 hd hlk
theorem j_vret (hd : decode (mB M) pc = .ok (.return_, 1)) (hrt : mRt M = none) (hr : some (((3, 0), h) : mR) = some r) : mJ G M pc ls [] h r := by
  cases Option.some.inj hr
  refine ⟨⟨Int.le_refl _, Int.le_refl _⟩, fun p e R s m args below meth c H locs cells slots mc ms lsA mst hC hS hH hL hst h1 h2 h3 h4 => ?_⟩
  obtain ⟨hx, hb, hml, hr1, hlk, htb, hown, hnm, hts, henv, hR, g⟩ := hC
  cases mst with
  | cons _ _ => exact hst.elim
  | nil =>
    dsimp only at h1 h2
    refine W.widen (k := mc) (n := ms) (by omega) (by omega) (vx_ret ?_)
    exact W.vret hx hb (hr1.trans hrt) (fun t ht hw => ⟨⟨_, rfl, rfl, by rw [ht]; exact hH⟩, hS.F ht⟩) hS.2.2 hd hlk
theorem j_aret {a : Int} {rt : FieldType} (hd : decode (mB M) pc = .ok (.areturn, 1)) (hrt : mRt M = some rt) (hrt2 : (∃ n, rt = .object n) ∨ ∃ t, rt = .array t) (hr : some (((2, a), h) : mR) = some r) : mJ G M pc ls [(2, a)] h r := by
  cases Option.some.inj hr
  refine ⟨⟨Int.le_refl _, Int.le_refl _⟩, fun p e R s m args below meth c H locs cells slots mc ms lsA mst hC hS hH hL hst h1 h2 h3 h4 => ?_⟩
  obtain ⟨hx, hb, hml, hr1, hlk, htb, hown, hnm, hts, henv, hR, g⟩ := hC
  obtain ⟨m1, rfl, hst1⟩ := mRS_r hst
  cases m1 with
  | cons _ _ => exact hst1.elim
  | nil =>
    dsimp only at h1 h2
    refine W.widen (k := mc) (n := ms) (by omega) (by omega) (vx_ret ?_)
    exact W.aret hx hb (hr1.trans hrt) hrt2 (mr_isref G a) (fun t ht hw => ⟨⟨_, rfl, mRV_ofr G a, by rw [ht]; exact hH⟩, hS.F ht⟩) hS.2.2 hd hlk
end
/-! ## a method's contract -/
def mWS (M : mM) : List Cond := (match mHh M with
  | [] => Cond.code (mY M) (mB M) (mLo M) (mRt M)
  | hh => Cond.codeWith (mY M) (mB M) (mLo M) (mRt M) hh) :: mTL
def mRm (M : mM) (h : mH) (r : mR) : Room := { frames := 20 + 2 * mDp M, cells := (hpN r.2 - hpN h).toNat, slots := (hpS r.2 - hpS h).toNat, locals := 300 + 100 * mDp M }
def mPc (G : mG) (as : List mV) (h : mH) : Array Value → State → Prop := fun v U => GOK G ∧ mENV G U ∧ mRH G h U.heap ∧ ∃ margs, v = margs.toArray ∧ mRS G as margs
def mJM (G : mG) (M : mM) (as : List mV) (h : mH) (r : mR) : Prop := (hpN h ≤ hpN r.2 ∧ hpS h ≤ hpS r.2) ∧
  vx_Met (gL G) (mY M) (mWS M) (mRm M h r) (mPc G as h) (mQC G r) (mXC G r) (hpN r.2 - hpN h).toNat (hpS r.2 - hpS h).toNat (mA G)
def mEnt : List mV → List mV
  | [] => []
  | q :: as => if q.1 = 1 then q :: (9, 0) :: mEnt as else q :: mEnt as
def mEntry (M : mM) (as : List mV) : List mV := mEnt as ++ List.replicate (mLo M - (mEnt as).length) (9, 0)
theorem mEnt_get {G : mG} : ∀ {as : List mV} {margs : List Value} (k i : Nat) (q : mV), mRS G as margs → (mEnt as)[i]? = some q → q.1 < 3 → ∃ v, (k + i, v) ∈ lv_args k margs ∧ mRV G q v
  | [], [], k, i, q, _, h, _ => by simp [mEnt] at h
  | [], _ :: _, _, _, _, h, _, _ => h.elim
  | _ :: _, [], _, _, _, h, _, _ => h.elim
  | a :: as, v :: margs, k, i, q, hs, h, hq => by
    have hc := mRV_cat hs.1
    unfold lv_args
    by_cases h1 : a.1 = 1
    · simp only [mEnt, h1, if_true] at h
      rw [hc, if_pos h1, if_pos rfl]
      cases i with
      | zero =>
        rw [List.getElem?_cons_zero] at h
        rw [← Option.some.inj h]
        exact ⟨v, List.mem_cons_self, hs.1⟩
      | succ i =>
        rw [List.getElem?_cons_succ] at h
        cases i with
        | zero =>
          rw [List.getElem?_cons_zero] at h
          rw [← Option.some.inj h] at hq
          exact absurd hq (by decide)
        | succ i =>
          rw [List.getElem?_cons_succ] at h
          obtain ⟨u, h2, h3⟩ := mEnt_get (k + 2) i q hs.2 h hq
          exact ⟨u, List.mem_cons_of_mem _ (by rw [show k + (i + 1 + 1) = k + 2 + i by omega]; exact h2), h3⟩
    · simp only [mEnt, h1, if_false] at h
      rw [hc, if_neg h1, if_neg (by decide)]
      cases i with
      | zero =>
        rw [List.getElem?_cons_zero] at h
        rw [← Option.some.inj h]
        exact ⟨v, List.mem_cons_self, hs.1⟩
      | succ i =>
        rw [List.getElem?_cons_succ] at h
        obtain ⟨u, h2, h3⟩ := mEnt_get (k + 1) i q hs.2 h hq
        exact ⟨u, List.mem_cons_of_mem _ (by rw [show k + (i + 1) = k + 1 + i by omega]; exact h2), h3⟩
theorem mEnt_len {G : mG} : ∀ {as : List mV} {margs : List Value}, mRS G as margs → (lg_sl margs).length = (mEnt as).length
  | [], [], _ => rfl
  | [], _ :: _, h => h.elim
  | _ :: _, [], h => h.elim
  | a :: as, v :: margs, hs => by
    have hc := mRV_cat hs.1
    have ih := mEnt_len hs.2
    unfold lg_sl at ih ⊢
    rw [List.flatMap_cons, List.length_append, ih, hc]
    by_cases h1 : a.1 = 1
    · simp only [mEnt, h1, if_true, List.length_cons, List.length_nil]
      omega
    · simp only [mEnt, h1, if_false, List.length_cons, List.length_nil]
      rw [if_neg (by decide)]
      simp only [List.length_cons, List.length_nil]
      omega
theorem mEntry_RL {G : mG} {M : mM} {as : List mV} {margs : List Value} (hs : mRS G as margs) (hn : (mEnt as).length ≤ mLo M) : mRL G M (mEntry M as) ((lg_sl margs ++ List.replicate (mLo M - (lg_sl margs).length) Slot.unset).toArray) := by
  refine ⟨by unfold mEntry; simp; omega, lv_args 0 margs, lv_entry margs (by rw [mEnt_len hs]; exact hn), fun i q hi hq => ?_⟩
  unfold mEntry at hi
  by_cases hl : i < (mEnt as).length
  · rw [List.getElem?_append_left hl] at hi
    obtain ⟨v, h1, h2⟩ := mEnt_get 0 i q hs hi hq
    rw [Nat.zero_add] at h1
    exact ⟨v, h1, h2⟩
  · rw [List.getElem?_append_right (by omega)] at hi
    have := List.eq_of_mem_replicate (List.mem_of_getElem? hi)
    rw [this] at hq
    exact absurd hq (by decide)
theorem mJM_of {G : mG} {M : mM} {as : List mV} {h : mH} {r : mR} {L : List mV} (hL : mEntry M as = L) (hpl : plainName (mY M).cls = true) (hO : (mY M).cls = mO M) (hn : (mEnt as).length ≤ mLo M) (k : mJ G M 0 L [] h r) : mJM G M as h r := by
  subst hL
  refine ⟨k.1, ?_⟩
  have key : ∀ (p : Program) (e : Env) (s : State) (m : MethodId) (args : Array Value) (below : List Frame) (meth : Method) (c : Code) (s₁ : State), BodyLoose p (gL G) (mY M) (headSpec (mWS M) (mRm M h r)) (mB M) (mLo M) (mRt M) e s m args below meth c s₁ → c.maxLocals = mLo M → c.exceptionTable.toList = tableOf (mHh M) → mPc G as h args s →
      W p (gL G) e (headSpec (mWS M) (mRm M h r)).room s m args below meth c s.heap [] 0 0 (vx_MQ below (mQC G r) (mXC G r) args s (hpN r.2 - hpN h).toNat (hpS r.2 - hpS h).toNat (mA G)) (entryFrame m args (mLo M)) := by
    intro p e s m args below meth c s₁ B hml htab hP
    obtain ⟨g, henv, hH, margs, rfl, hs⟩ := hP
    rw [lg_entry_eq]
    have hts : ∀ w, mTB w → w.before margs.toArray s = true := fun w hw => atoms_spec (ws := mWS M) B.pre w (List.mem_cons_of_mem _ (mTL_in.mpr hw))
    have hown : s.vm.findClass (mO M) = some m.cls := by rw [← hO]; exact findClass_of_methodNamed B.named
    have k1 := k.1.1
    have k2 := k.1.2
    exact k.2 p e _ s m margs.toArray below meth c s.heap [] 0 0 _ _ _ [] ⟨B.exec, B.bytes, hml, B.returns, B.notSynchronized, htab, hown, (name_of_methodNamed B.named B.method).1, hts, henv, ⟨Nat.le_refl _, Nat.le_refl _⟩, g⟩ va_S.rf hH (mEntry_RL hs hn) trivial (by omega) (by omega) (Nat.le_refl _) (Nat.le_refl _)
  cases hh : mHh M with
  | nil =>
    refine vx_ofW (cc := mB M) (maxL := mLo M) (ret := mRt M) (ws' := mTL) hpl (by unfold mWS; rw [hh]) fun p e s m args below meth c s₁ B hml htab hP => ?_
    refine key p e s m args below meth c s₁ B hml ?_ hP
    rw [hh]
    cases hx : c.exceptionTable.toList with
    | nil => rfl
    | cons a b => exact (htab a (by rw [hx]; exact List.mem_cons_self)).elim
  | cons a b =>
    refine vx_ofWH (cc := mB M) (maxL := mLo M) (ret := mRt M) (hh := mHh M) (ws' := mTL) hpl (by unfold mWS; rw [hh]) fun p e s m args below meth c s₁ B hml hP => ?_
    refine key p e s m args below meth c s₁ B hml ?_ hP
    exact vx_table (x := mY M) B (atoms_spec (ws := mWS M) B.pre (Cond.codeWith (mY M) (mB M) (mLo M) (mRt M) (mHh M)) (by unfold mWS; rw [hh]; exact List.mem_cons_self))
