/-! THE LITTLE MACHINE'S ROWS ON THE HEAP -/
theorem mK_s {G : mG} {s : State} (g : GOK G) (h : mENV G s) : va_K (gD G) vwCl (mTy G) s := va_K.moved h.1.alike g.2.2.1
theorem mad_inj {G : mG} {y z : Int} (hy : 0 < y) (hz : 0 < z) (h : mad G y = mad G z) : y = z := by unfold mad at h; omega
theorem mA_ad (G : mG) (z : Int) : mA G (mad G z) := Nat.le_add_right _ _
theorem mA_up {G : mG} {s : State} (h : mENV G s) : ∀ q, s.heap.size ≤ q → mA G q := fun q hq => Nat.le_trans h.2.1 hq
/-- one cell as a world -/
theorem mP1 {D : va_G} {q : Nat × va_E} {H : Heap} (h : va_at D vwCl q H) : va_P D vwCl [q] H := by
  intro k p hk
  have hz : k < 1 := (List.getElem?_eq_some_iff.mp hk).1
  rw [show k = 0 by omega] at hk
  cases hk
  exact h
theorem mRE_congr {G : mG} {h h' : mH} {z : Int} {e : va_E} (hT : hpT h' z = hpT h z) (hL : hpL h' z = hpL h z) (hV : ∀ j, hpV h' z j = hpV h z j) (he : mRE G h z e) : mRE G h' z e := by
  unfold mRE at he ⊢
  rw [hT, hL]
  simp only [hV]
  exact he
theorem mRH_set {G : mG} {h h' : mH} {H H' : Heap} {z : Int} {e' : va_E} (hH : mRH G h H) (hz : hpT h z ≠ 0) (hsz : H'.size = H.size) (ho : ∀ q, q ≠ mad G z → H'[q]? = H[q]?) (hat : va_at (gD G) vwCl (mad G z, e') H') (hN : hpN h' = hpN h) (hT : ∀ y, hpT h' y = hpT h y) (hL : ∀ y, hpL h' y = hpL h y) (hV : ∀ y j, y ≠ z → hpV h' y j = hpV h y j) (hE : mRE G h' z e') : mRH G h' H' := by
  obtain ⟨h1, h2, E, h3⟩ := hH
  obtain ⟨F, hF⟩ : ∃ F : Int → va_E, ∀ y, F y = if y = z then e' else E y := ⟨_, fun _ => rfl⟩
  refine ⟨by rw [hsz, hN]; exact h1, by rw [hN]; exact h2, F, fun y hy => ?_⟩
  rw [hT] at hy
  obtain ⟨g1, g2, g3, g4⟩ := h3 y hy
  obtain ⟨z1, -, -, -⟩ := h3 z hz
  by_cases hyz : y = z
  · subst hyz
    refine ⟨g1, by rw [hN]; exact g2, ?_, ?_⟩
    · rw [hF, if_pos rfl]; exact hat
    · rw [hF, if_pos rfl]; exact hE
  · refine ⟨g1, by rw [hN]; exact g2, ?_, ?_⟩
    · rw [hF, if_neg hyz]
      exact g3.kept (ho _ (fun w => hyz (mad_inj g1 z1 w)))
    · rw [hF, if_neg hyz]
      exact mRE_congr (hT y) (hL y) (fun j => hV y j hyz) g4
theorem mRH_new {G : mG} {h h' : mH} {H H' : Heap} {e' : va_E} (hH : mRH G h H) (hsz : H'.size = H.size + 1) (ho : ∀ q, q < H.size → H'[q]? = H[q]?) (hN : hpN h' = hpN h + 1) (hT : ∀ y, y ≠ hpN h + 1 → hpT h' y = hpT h y) (hL : ∀ y, y ≠ hpN h + 1 → hpL h' y = hpL h y) (hV : ∀ y j, y ≠ hpN h + 1 → hpV h' y j = hpV h y j) (hat : hpT h' (hpN h + 1) ≠ 0 → va_at (gD G) vwCl (H.size, e') H') (hE : hpT h' (hpN h + 1) ≠ 0 → mRE G h' (hpN h + 1) e') : mRH G h' H' := by
  obtain ⟨h1, h2, E, h3⟩ := hH
  have hz : mad G (hpN h + 1) = H.size := by unfold mad; omega
  obtain ⟨F, hF⟩ : ∃ F : Int → va_E, ∀ y, F y = if y = hpN h + 1 then e' else E y := ⟨_, fun _ => rfl⟩
  refine ⟨by rw [hsz, hN]; omega, by omega, F, fun y hy => ?_⟩
  by_cases hyz : y = hpN h + 1
  · subst hyz
    refine ⟨by omega, by omega, ?_, ?_⟩
    · rw [hF, if_pos rfl, hz]; exact hat hy
    · rw [hF, if_pos rfl]; exact hE hy
  · rw [hT y hyz] at hy
    obtain ⟨g1, g2, g3, g4⟩ := h3 y hy
    refine ⟨g1, by omega, ?_, ?_⟩
    · rw [hF, if_neg hyz]
      exact g3.kept (ho _ g3.lt)
    · rw [hF, if_neg hyz]
      exact mRE_congr (hT y hyz) (hL y hyz) (fun j => hV y j hyz) g4
theorem mRH_o {G : mG} {h : mH} {H : Heap} {z : Int} {c : Nat} (hH : mRH G h H) (ht : hpT h z = c + 1) (hc : c < 19) : 0 < z ∧ ∃ (C : String) (T : u_T) (N : Nat) (fs : List Value), vwCl[c]? = some (C, T, N) ∧ va_at (gD G) vwCl (mad G z, .inr (c, fs)) H ∧ fs.length = N ∧ ∀ (k : Nat) (v : Value), fs[k]? = some v → mRV G (ftag (T k).2.2.1, hpV h z k) v := by
  obtain ⟨-, -, E, h3⟩ := hH
  obtain ⟨g1, -, g3, g4⟩ := h3 z (by omega)
  unfold mRE at g4
  rw [if_pos (by omega), ht, Nat.add_sub_cancel] at g4
  obtain ⟨C, T, N, fs, q1, q2, q3, q4⟩ := g4
  rw [q2] at g3
  exact ⟨g1, C, T, N, fs, q1, g3, q3, q4⟩
theorem mRH_i {G : mG} {h : mH} {H : Heap} {z : Int} {t : Nat} (hH : mRH G h H) (ht : hpT h z = t) (h5 : t = 21 ∨ t = 23 ∨ t = 24) : 0 < z ∧ ∃ (n : Nat) (f : Nat → Int32), va_at (gD G) vwCl (mad G z, .inl (gC G t, n, .inl f)) H ∧ n < 2147483648 ∧ hpL h z = n ∧ ∀ i : Nat, i < n → hpV h z i = (f i).toInt := by
  obtain ⟨-, -, E, h3⟩ := hH
  obtain ⟨g1, -, g3, g4⟩ := h3 z (by omega)
  unfold mRE at g4
  rw [if_neg (by omega), if_neg (by omega), if_neg (by omega), ht] at g4
  obtain ⟨-, n, f, q2, q3⟩ := g4
  rw [q2] at g3
  exact ⟨g1, n, f, g3, q3⟩
theorem mRH_l {G : mG} {h : mH} {H : Heap} {z : Int} (hH : mRH G h H) (ht : hpT h z = 22) : 0 < z ∧ ∃ (n : Nat) (f : Nat → Int64), va_at (gD G) vwCl (mad G z, .inl (gC G 22, n, .inr (.inl f))) H ∧ n < 2147483648 ∧ hpL h z = n ∧ ∀ i : Nat, i < n → hpV h z i = (f i).toInt := by
  obtain ⟨-, -, E, h3⟩ := hH
  obtain ⟨g1, -, g3, g4⟩ := h3 z (by omega)
  unfold mRE at g4
  rw [if_neg (by omega), if_pos ht] at g4
  obtain ⟨n, f, q2, q3⟩ := g4
  rw [q2] at g3
  exact ⟨g1, n, f, g3, q3⟩
theorem mRH_q {G : mG} {h : mH} {H : Heap} {z : Int} {t : Nat} (hH : mRH G h H) (ht : hpT h z = t) (h5 : t = 25 ∨ t = 26) : 0 < z ∧ ∃ (n : Nat) (f : Nat → Option Nat), va_at (gD G) vwCl (mad G z, .inl (gC G t, n, .inr (.inr (.inr (.inr f))))) H ∧ n < 2147483648 ∧ hpL h z = n ∧ ∀ i : Nat, i < n → mr G (hpV h z i) = va_rf (f i) := by
  obtain ⟨-, -, E, h3⟩ := hH
  obtain ⟨g1, -, g3, g4⟩ := h3 z (by omega)
  unfold mRE at g4
  rw [if_neg (by omega), if_neg (by omega), if_pos (by omega), ht] at g4
  obtain ⟨n, f, q2, q3⟩ := g4
  rw [q2] at g3
  exact ⟨g1, n, f, g3, q3⟩
theorem mIx {x : Int32} {n : Nat} (h : 0 ≤ x.toInt ∧ x.toInt < n) : vp_in x n ∧ x.toNatClampNeg < n ∧ ((x.toNatClampNeg : Nat) : Int) = x.toInt := by
  have h1 := i32_cl h.1
  exact ⟨i32_in.mpr h, by omega, h1⟩
theorem mTN_use {G : mG} {s : State} {args : Array Value} (g : GOK G) (henv : mENV G s) {w : Cond} (hw : mTN w) : w.before args s = true := by
  have h1 : va_Nw w (gS G) := by
    obtain ⟨-, -, -, -, -, -, -, -, -, -, -, -, -, g9⟩ := g
    exact g9 w hw
  obtain ⟨-, hk⟩ := hw
  cases w with
  | fieldLinkNest a b c d e f => exact va_Nw.use rfl (va_Nw.warmF henv.1 h1)
  | methodLinkNest a b c d => exact va_Nw.use rfl (va_Nw.warmM henv.1 h1)
  | _ => cases hk
/-- an entry of the class's table is that field, in the tables' words -/
def mFld (M : mM) (idx c k tg : Nat) : Prop := ∃ (C : String) (T : u_T) (N : Nat) (ty : Nat → FieldType), vwCl[c]? = some (C, T, N) ∧ c < 19 ∧ k < N ∧ ftag (T k).2.2.1 = tg ∧ (∀ w ∈ u_ws C T N, mTB w) ∧ (∀ j, j < N → parseFieldDescriptor (T j).2.2.1 = some (ty j)) ∧ (∀ a, a < N → ∀ b, b < N → a ≠ b → (T a).2.1 ≠ (T b).2.1) ∧
  (mTB (Cond.fieldLink (mO M) idx (T k).1 (T k).2.1 (T k).2.2.1) ∨ ∃ host, mTN (Cond.fieldLinkNest (mO M) idx (T k).1 (T k).2.1 (T k).2.2.1 host))
/-- .. and may be written here: not final, or this is the class's own constructor; of the kind tw -/
def mFldW (M : mM) (idx c k : Nat) (tw : FieldType) : Prop := ∃ (C : String) (T : u_T) (N : Nat), vwCl[c]? = some (C, T, N) ∧ ((T k).2.2.2 = false ∨ ((T k).2.2.2 = true ∧ (mY M).name = "<init>" ∧ (T k).1 = mO M ∧ mTB (Cond.fieldLink (mO M) idx (T k).1 (T k).2.1 (T k).2.2.1))) ∧ parseFieldDescriptor (T k).2.2.1 = some tw
section
variable {G : mG} {M : mM} {pc : Nat} {ls ls' st : List mV} {h : mH} {r : mR}
theorem j_getf {idx c k tg : Nat} {a : Int} {X : Option mR} (hd : decode (mB M) pc = .ok (.getfield idx, 3)) (hf : mFld M idx c k tg) (hr : chk (hpT h a = c + 1) X = some r) (kn : X = some r → mJ G M (pc + 3) ls ((tg, hpV h a k) :: st) h r) : mJ G M pc ls ((2, a) :: st) h r := by
  obtain ⟨ht, hr⟩ := chk_some hr
  obtain ⟨C, T, N, ty, f1, f2, f3, f4, f5, f6, f7, f8⟩ := hf
  subst f4
  refine j_step (fun p e R s m args below meth c9 H locs cells slots Q lsA mst hC hS hH hL hst hcl hsl kk => ?_) (kn hr)
  obtain ⟨hx, hb, hml, hr1, hlk, htb, hown, hnm, hts, henv, hR, g⟩ := hC
  obtain ⟨m1, rfl, hst1⟩ := mRS_r hst
  obtain ⟨ha, C', T', N', fs, q1, q2, q3, q4⟩ := mRH_o hH ht f2
  cases Option.some.inj (f1.symm.trans q1)
  rw [mr_pos ha]
  have hk : k < fs.length := by rw [q3]; exact f3
  have hv := q4 k _ (List.getElem?_eq_getElem hk)
  rcases f8 with f8 | ⟨host, f8⟩
  · exact va_get (Ts := u_ws C T N) hx hb (fun w hw => hts w (f5 w hw)) (fun w hw => hw) hown (mK_s g henv) (mP1 q2) 0 rfl f1 k f3 (hts _ f8) (fun x hx => hx) (List.getElem?_eq_getElem hk) hd (kk lsA _ hL ⟨hv, hst1⟩)
  · exact va_getN (Ts := u_ws C T N) hx hb (fun w hw => hts w (f5 w hw)) (fun w hw => hw) hown (mK_s g henv) (mP1 q2) 0 rfl f1 k f3 (mTN_use g henv f8) (fun x hx => hx) (List.getElem?_eq_getElem hk) hd (kk lsA _ hL ⟨hv, hst1⟩)
theorem j_iaload {a i : Int} {X : Option mR} (hd : decode (mB M) pc = .ok (.iaload, 1)) (hr : chk (hpT h a = 21) (chk (0 ≤ i ∧ i < hpL h a) X) = some r) (kn : X = some r → mJ G M (pc + 1) ls ((0, hpV h a i) :: st) h r) : mJ G M pc ls ((0, i) :: (2, a) :: st) h r := by
  obtain ⟨ht, hr⟩ := chk_some hr
  obtain ⟨hi, hr⟩ := chk_some hr
  refine j_step (fun p e R s m args below meth c9 H locs cells slots Q lsA mst hC hS hH hL hst hcl hsl kk => ?_) (kn hr)
  obtain ⟨hx, hb, hml, hr1, hlk, htb, hown, hnm, hts, henv, hR, g⟩ := hC
  obtain ⟨x, m1, rfl, rfl, hst1⟩ := mRS_i hst
  obtain ⟨m2, rfl, hst2⟩ := mRS_r hst1
  obtain ⟨ha, n, f, q1, q2, q3, q4⟩ := mRH_i hH ht (Or.inl rfl)
  rw [mr_pos ha]
  obtain ⟨i1, i2, i3⟩ := mIx (x := x) (n := n) (by omega)
  exact va_iald hx hb (mK_s g henv) (mP1 q1) 0 0 rfl rfl i1 hd (kk lsA _ hL ⟨by show mRV G _ (.int _); refine Prod.ext rfl ?_; show hpV h a x.toInt = _; rw [← i3, q4 _ i2], hst2⟩)
theorem j_laload {a i : Int} {X : Option mR} (hd : decode (mB M) pc = .ok (.laload, 1)) (hr : chk (hpT h a = 22) (chk (0 ≤ i ∧ i < hpL h a) X) = some r) (kn : X = some r → mJ G M (pc + 1) ls ((1, hpV h a i) :: st) h r) : mJ G M pc ls ((0, i) :: (2, a) :: st) h r := by
  obtain ⟨ht, hr⟩ := chk_some hr
  obtain ⟨hi, hr⟩ := chk_some hr
  refine j_step (fun p e R s m args below meth c9 H locs cells slots Q lsA mst hC hS hH hL hst hcl hsl kk => ?_) (kn hr)
  obtain ⟨hx, hb, hml, hr1, hlk, htb, hown, hnm, hts, henv, hR, g⟩ := hC
  obtain ⟨x, m1, rfl, rfl, hst1⟩ := mRS_i hst
  obtain ⟨m2, rfl, hst2⟩ := mRS_r hst1
  obtain ⟨ha, n, f, q1, q2, q3, q4⟩ := mRH_l hH ht
  rw [mr_pos ha]
  obtain ⟨i1, i2, i3⟩ := mIx (x := x) (n := n) (by omega)
  exact va_lald hx hb (mK_s g henv) (mP1 q1) 0 1 rfl rfl i1 hd (kk lsA _ hL ⟨by show mRV G _ (.long _); refine Prod.ext rfl ?_; show hpV h a x.toInt = _; rw [← i3, q4 _ i2], hst2⟩)
theorem j_baload {a i : Int} {X : Option mR} (hd : decode (mB M) pc = .ok (.baload, 1)) (hr : chk (hpT h a = 23) (chk (0 ≤ i ∧ i < hpL h a) X) = some r) (kn : X = some r → mJ G M (pc + 1) ls ((0, hpV h a i) :: st) h r) : mJ G M pc ls ((0, i) :: (2, a) :: st) h r := by
  obtain ⟨ht, hr⟩ := chk_some hr
  obtain ⟨hi, hr⟩ := chk_some hr
  refine j_step (fun p e R s m args below meth c9 H locs cells slots Q lsA mst hC hS hH hL hst hcl hsl kk => ?_) (kn hr)
  obtain ⟨hx, hb, hml, hr1, hlk, htb, hown, hnm, hts, henv, hR, g⟩ := hC
  obtain ⟨x, m1, rfl, rfl, hst1⟩ := mRS_i hst
  obtain ⟨m2, rfl, hst2⟩ := mRS_r hst1
  obtain ⟨ha, n, f, q1, q2, q3, q4⟩ := mRH_i hH ht (Or.inr (Or.inl rfl))
  rw [mr_pos ha]
  obtain ⟨i1, i2, i3⟩ := mIx (x := x) (n := n) (by omega)
  exact va_bald hx hb (mK_s g henv) (mP1 q1) 0 2 rfl rfl i1 hd (kk lsA _ hL ⟨by show mRV G _ (.int _); refine Prod.ext rfl ?_; show hpV h a x.toInt = _; rw [← i3, q4 _ i2], hst2⟩)
theorem j_zaload {a i : Int} {X : Option mR} (hd : decode (mB M) pc = .ok (.baload, 1)) (hr : chk (hpT h a = 24) (chk (0 ≤ i ∧ i < hpL h a) X) = some r) (kn : X = some r → mJ G M (pc + 1) ls ((0, hpV h a i) :: st) h r) : mJ G M pc ls ((0, i) :: (2, a) :: st) h r := by
  obtain ⟨ht, hr⟩ := chk_some hr
  obtain ⟨hi, hr⟩ := chk_some hr
  refine j_step (fun p e R s m args below meth c9 H locs cells slots Q lsA mst hC hS hH hL hst hcl hsl kk => ?_) (kn hr)
  obtain ⟨hx, hb, hml, hr1, hlk, htb, hown, hnm, hts, henv, hR, g⟩ := hC
  obtain ⟨x, m1, rfl, rfl, hst1⟩ := mRS_i hst
  obtain ⟨m2, rfl, hst2⟩ := mRS_r hst1
  obtain ⟨ha, n, f, q1, q2, q3, q4⟩ := mRH_i hH ht (Or.inr (Or.inr rfl))
  rw [mr_pos ha]
  obtain ⟨i1, i2, i3⟩ := mIx (x := x) (n := n) (by omega)
  exact va_zald hx hb (mK_s g henv) (mP1 q1) 0 3 rfl rfl i1 hd (kk lsA _ hL ⟨by show mRV G _ (.int _); refine Prod.ext rfl ?_; show hpV h a x.toInt = _; rw [← i3, q4 _ i2], hst2⟩)
theorem j_aaload {a i : Int} {t : Nat} {X : Option mR} (hd : decode (mB M) pc = .ok (.aaload, 1)) (ht0 : t = 25 ∨ t = 26) (hr : chk (hpT h a = t) (chk (0 ≤ i ∧ i < hpL h a) X) = some r) (kn : X = some r → mJ G M (pc + 1) ls ((2, hpV h a i) :: st) h r) : mJ G M pc ls ((0, i) :: (2, a) :: st) h r := by
  obtain ⟨ht, hr⟩ := chk_some hr
  obtain ⟨hi, hr⟩ := chk_some hr
  refine j_step (fun p e R s m args below meth c9 H locs cells slots Q lsA mst hC hS hH hL hst hcl hsl kk => ?_) (kn hr)
  obtain ⟨hx, hb, hml, hr1, hlk, htb, hown, hnm, hts, henv, hR, g⟩ := hC
  obtain ⟨x, m1, rfl, rfl, hst1⟩ := mRS_i hst
  obtain ⟨m2, rfl, hst2⟩ := mRS_r hst1
  obtain ⟨ha, n, f, q1, q2, q3, q4⟩ := mRH_q hH ht ht0
  rw [mr_pos ha]
  obtain ⟨i1, i2, i3⟩ := mIx (x := x) (n := n) (by omega)
  have hk := kk lsA (va_rf (f x.toNatClampNeg) :: m2) hL ⟨by rw [← q4 _ i2, i3]; exact mRV_ofr G _, hst2⟩
  rcases ht0 with rfl | rfl
  · exact va_aldq hx hb (mK_s g henv) (mP1 q1) 0 4 rfl rfl i1 hd hk
  · exact va_aldq hx hb (mK_s g henv) (mP1 q1) 0 5 rfl rfl i1 hd hk
theorem j_alen {a : Int} {X : Option mR} (hd : decode (mB M) pc = .ok (.arraylength, 1)) (hr : chk (21 ≤ hpT h a) X = some r) (kn : X = some r → mJ G M (pc + 1) ls ((0, hpL h a) :: st) h r) : mJ G M pc ls ((2, a) :: st) h r := by
  obtain ⟨ht, hr⟩ := chk_some hr
  refine j_step (fun p e R s m args below meth c9 H locs cells slots Q lsA mst hC hS hH hL hst hcl hsl kk => ?_) (kn hr)
  obtain ⟨hx, hb, hml, hr1, hlk, htb, hown, hnm, hts, henv, hR, g⟩ := hC
  obtain ⟨m1, rfl, hst1⟩ := mRS_r hst
  have key : ∀ n : Nat, n < 2147483648 → hpL h a = n → mRV G (0, hpL h a) (.int (Int32.ofNat n)) := fun n h1 h2 => by
    show _ = _
    refine Prod.ext rfl ?_
    show hpL h a = (nI n).toInt
    rw [nI_toInt (by omega), h2]
  obtain ⟨-, -, E, h3⟩ := id hH
  obtain ⟨g1, -, g3, g4⟩ := h3 a (by omega)
  rw [mr_pos g1]
  unfold mRE at g4
  rw [if_neg (by omega)] at g4
  by_cases h22 : hpT h a = 22
  · obtain ⟨-, n, f, q1, q2, q3, q4⟩ := mRH_l hH h22
    exact va_alen hx hb (mK_s g henv) (mP1 q1) 0 1 rfl rfl rfl hd (kk lsA _ hL ⟨key n q2 q3, hst1⟩)
  · rw [if_neg h22] at g4
    by_cases h25 : hpT h a = 25 ∨ hpT h a = 26
    · obtain ⟨-, n, f, q1, q2, q3, q4⟩ := mRH_q hH rfl h25
      rcases h25 with h25 | h25
      · rw [h25] at q1
        exact va_alen hx hb (mK_s g henv) (mP1 q1) 0 4 rfl rfl rfl hd (kk lsA _ hL ⟨key n q2 q3, hst1⟩)
      · rw [h25] at q1
        exact va_alen hx hb (mK_s g henv) (mP1 q1) 0 5 rfl rfl rfl hd (kk lsA _ hL ⟨key n q2 q3, hst1⟩)
    · rw [if_neg h25] at g4
      obtain ⟨-, n, f, q1, q2, q3, q4⟩ := mRH_i hH rfl g4.1
      rcases g4.1 with h25 | h25 | h25
      · rw [h25] at q1
        exact va_alen hx hb (mK_s g henv) (mP1 q1) 0 0 rfl rfl rfl hd (kk lsA _ hL ⟨key n q2 q3, hst1⟩)
      · rw [h25] at q1
        exact va_alen hx hb (mK_s g henv) (mP1 q1) 0 2 rfl rfl rfl hd (kk lsA _ hL ⟨key n q2 q3, hst1⟩)
      · rw [h25] at q1
        exact va_alen hx hb (mK_s g henv) (mP1 q1) 0 3 rfl rfl rfl hd (kk lsA _ hL ⟨key n q2 q3, hst1⟩)
/-- the script: its length, its ints -/
theorem j_slen {X : Option mR} (hd : decode (mB M) pc = .ok (.arraylength, 1)) (kn : mJ G M (pc + 1) ls ((0, (gLen G : Int)) :: st) h r) : mJ G M pc ls ((2, -1) :: st) h r := by
  refine j_step (fun p e R s m args below meth c9 H locs cells slots Q lsA mst hC hS hH hL hst hcl hsl kk => ?_) kn
  obtain ⟨hx, hb, hml, hr1, hlk, htb, hown, hnm, hts, henv, hR, g⟩ := hC
  obtain ⟨m1, rfl, hst1⟩ := mRS_r hst
  obtain ⟨g1, g2, g3, ⟨g4, g5, g6⟩, -⟩ := g
  have hbA : ¬ mA G (gB G) := Nat.not_le.mpr g5
  have hX : va_X (gB G) (gLen G) (gXs G) s s.heap := va_X.moved henv.1.alike (g4.kept (henv.2.2 _ g5))
  show W _ _ _ _ _ _ _ _ _ _ _ _ _ _ _ (F0 m pc lsA (.ref (gB G) :: m1))
  exact va_slen hx hb hX (Nat.lt_of_lt_of_le g5 henv.2.1) hbA hS hd (kk lsA _ hL ⟨by
    show _ = _
    refine Prod.ext rfl ?_
    show (gLen G : Int) = (nI (gLen G)).toInt
    rw [nI_toInt (by omega)], hst1⟩)
def gX (G : mG) (i : Int) : Int := (gXs G i.toNat).toInt
theorem j_sload {i : Int} {X : Option mR} (hd : decode (mB M) pc = .ok (.iaload, 1)) (hr : chk (0 ≤ i ∧ i < gLen G) X = some r) (kn : X = some r → mJ G M (pc + 1) ls ((0, gX G i) :: st) h r) : mJ G M pc ls ((0, i) :: (2, -1) :: st) h r := by
  obtain ⟨hi, hr⟩ := chk_some hr
  refine j_step (fun p e R s m args below meth c9 H locs cells slots Q lsA mst hC hS hH hL hst hcl hsl kk => ?_) (kn hr)
  obtain ⟨hx, hb, hml, hr1, hlk, htb, hown, hnm, hts, henv, hR, g⟩ := hC
  obtain ⟨x, m1, rfl, rfl, hst1⟩ := mRS_i hst
  obtain ⟨m2, rfl, hst2⟩ := mRS_r hst1
  obtain ⟨g1, g2, g3, ⟨g4, g5, g6⟩, -⟩ := g
  have hbA : ¬ mA G (gB G) := Nat.not_le.mpr g5
  have hX : va_X (gB G) (gLen G) (gXs G) s s.heap := va_X.moved henv.1.alike (g4.kept (henv.2.2 _ g5))
  obtain ⟨i1, i2, i3⟩ := mIx (n := gLen G) hi
  show W _ _ _ _ _ _ _ _ _ _ _ _ _ _ _ (F0 m pc lsA (.int x :: .ref (gB G) :: m2))
  exact va_sld hx hb hX (Nat.lt_of_lt_of_le g5 henv.2.1) hbA hS i1 hd (kk lsA _ hL ⟨by
    show _ = _
    refine Prod.ext rfl ?_
    show gX G x.toInt = _
    unfold gX
    rw [← i3]; rfl, hst2⟩)
theorem mLK_lt : ∀ q ∈ mLK, q.2.2.2 < 98 := by decide +kernel
/-- a literal -/
theorem j_ldcS {i k : Nat} {tx : String} (hd : decode (mB M) pc = .ok (.ldc i, 2)) (hm : (mO M, i, tx, k) ∈ mLK) (kn : mJ G M (pc + 2) ls ((2, -((k : Int) + 2)) :: st) h r) : mJ G M pc ls st h r := by
  refine j_step (fun p e R s m args below meth c9 H locs cells slots Q lsA mst hC hS hH hL hst hcl hsl kk => ?_) kn
  obtain ⟨hx, hb, hml, hr1, hlk, htb, hown, hnm, hts, henv, hR, g⟩ := hC
  obtain ⟨g1, g2, g3, g4, g5, -⟩ := g
  have hv := vk_R.warm henv.1 (g5 _ hm)
  refine va_ldcS hx hb hown hv hd (kk lsA _ hL ⟨?_, hst⟩)
  have h1 : mr G (-((k : Int) + 2)) = .ref (gK G k) := by
    rw [mr_neg (by omega)]
    unfold mlow
    have hk : k < 98 := mLK_lt _ hm
    rw [show (-(-((k : Int) + 2))).toNat = k + 2 by omega, if_neg (by omega), if_pos (by omega), Nat.add_sub_cancel]
  exact ⟨rfl, h1⟩
end
