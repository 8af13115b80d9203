/-! THE LITTLE MACHINE'S ROWS THAT MAKE CELLS -/
section
variable {G : mG} {M : mM} {pc : Nat} {ls ls' st : List mV} {h : mH} {r : mR}
theorem mNewArr {ty : FieldType} {t : Nat} {n : Int} {at9 : ArrayType} (hat : newarray.typeOf at9 = ty) (hd : decode (mB M) pc = .ok (.newarray at9, 2)) (hw : mTB (Cond.arrayClass ty)) (hk : ∃ k9 : Nat, (mTy G)[k9]? = some (gC G t, ty)) (hty : ∀ (c9 : ClassId) (s : State), va_RA s c9 ty → s.vm.findClass ("[" ++ ty.toString) = some c9) (hn : 0 ≤ n ∧ n ≤ 1000000) (hcb : componentBytes ty ≤ 8) (mk : Nat → va_E) (hmk : ∀ (N : Nat) (H' : Heap) (q : Nat), H'[q]? = some (arrV (gC G t) N (fun _ => defaultValue ty)) → va_at (gD G) vwCl (q, mk N) H') (hRE : ∀ N : Nat, (N : Int) = n → mRE G (halc h t n n) (hpN h + 1) (mk N)) (kn : mJ G M (pc + 2) ls ((2, hpN h + 1) :: st) (halc h t n n) r) : mJ G M pc ls ((0, n) :: st) h r := by
  subst hat
  have hnn : ((n.toNat : Nat) : Int) = n := by omega
  refine j_stepA (n := n.toNat) (fun p e R s m args below meth c9 H locs cells slots Q lsA mst hC hS hH hL hst hc1 hs1 kk => ?_) (halc_N _ _ _ _) (by rw [halc_S, hnn]) kn
  obtain ⟨hx, hb, hml, hr1, hlk, htb, hown, hnm, hts, henv, hR, g⟩ := hC
  obtain ⟨x, m1, rfl, hxn, hst1⟩ := mRS_i hst
  have hx0 : ¬ x < 0 := by rw [Int32.lt_iff_toInt_lt, i32_zero]; omega
  have hcl : x.toNatClampNeg = n.toNat := by have := i32_cl (x := x) (by omega); omega
  have hpos : (0 : Int) < hpN h + 1 := by have := hH.2.1; omega
  have hmad : mad G (hpN h + 1) = H.size := by have := hH.1; have := hH.2.1; unfold mad; omega
  have hbt : n.toNat * componentBytes (newarray.typeOf at9) ≤ 536870912 := Nat.le_trans (Nat.mul_le_mul (show n.toNat ≤ 1000000 by omega) hcb) (by decide)
  refine va_newaK hx hb (hts _ hw) (g := F0 m pc lsA (.int x :: m1)) rfl hd rfl hx0 hcl hbt hc1 hs1 rfl fun H' cA e1 e2 e3 e4 e5 => ?_
  obtain ⟨k9, hk9⟩ := hk
  have hcA : cA = gC G t := by
    have h1 := hty _ s ((mK_s g henv).2 k9 _ hk9).2
    exact Option.some.inj (e5.symm.trans h1)
  subst hcA
  refine kk H' lsA (.ref H.size :: m1) ⟨Nat.le_trans hS.1 (by omega), fun q h1 h2 => (e3 q (Nat.lt_of_lt_of_le h1 hS.1)).trans (hS.2.1 q h1 h2), hS.2.2⟩ ?_ hL ⟨⟨rfl, by rw [mr_pos hpos, hmad]⟩, hst1⟩
  refine mRH_new hH e2 e3 (halc_N _ _ _ _) (fun y hy => by rw [halc_T, if_neg hy]) (fun y hy => by rw [halc_L, if_neg hy]) (fun y j hy => by rw [halc_V, if_neg hy]) (fun _ => hmk _ _ _ e1) (fun _ => hRE _ hnn)
theorem j_newI {n : Int} {X : mH → Option mR} (hd : decode (mB M) pc = .ok (.newarray .int, 2)) (hw : mTB (Cond.arrayClass .int)) (hr : chk (0 ≤ n ∧ n ≤ 1000000) (wth (halc h 21 n n) X) = some r) (kn : ∀ h', X h' = some r → mJ G M (pc + 2) ls ((2, hpN h + 1) :: st) h' r) : mJ G M pc ls ((0, n) :: st) h r := by
  obtain ⟨hn, hr⟩ := chk_some hr
  refine mNewArr (t := 21) rfl hd hw ⟨0, rfl⟩ (fun c9 s h9 => h9) hn (by decide) (fun N => .inl (gC G 21, N, .inl (fun _ => 0))) (fun N H' q e => e) (fun N hN => ?_) (kn _ hr)
  unfold mRE
  rw [halc_T, halc_L, if_pos rfl, if_pos rfl, if_neg (by omega), if_neg (by omega), if_neg (by omega)]
  exact ⟨Or.inl rfl, N, _, rfl, by omega, hN.symm, fun i hi => by rw [halc_V, if_pos rfl]; rfl⟩
theorem j_newB {n : Int} {X : mH → Option mR} (hd : decode (mB M) pc = .ok (.newarray .byte, 2)) (hw : mTB (Cond.arrayClass .byte)) (hr : chk (0 ≤ n ∧ n ≤ 1000000) (wth (halc h 23 n n) X) = some r) (kn : ∀ h', X h' = some r → mJ G M (pc + 2) ls ((2, hpN h + 1) :: st) h' r) : mJ G M pc ls ((0, n) :: st) h r := by
  obtain ⟨hn, hr⟩ := chk_some hr
  refine mNewArr (t := 23) rfl hd hw ⟨2, rfl⟩ (fun c9 s h9 => h9) hn (by decide) (fun N => .inl (gC G 23, N, .inl (fun _ => 0))) (fun N H' q e => e) (fun N hN => ?_) (kn _ hr)
  unfold mRE
  rw [halc_T, halc_L, if_pos rfl, if_pos rfl, if_neg (by omega), if_neg (by omega), if_neg (by omega)]
  exact ⟨Or.inr (Or.inl rfl), N, _, rfl, by omega, hN.symm, fun i hi => by rw [halc_V, if_pos rfl]; rfl⟩
theorem j_newZ {n : Int} {X : mH → Option mR} (hd : decode (mB M) pc = .ok (.newarray .boolean, 2)) (hw : mTB (Cond.arrayClass .boolean)) (hr : chk (0 ≤ n ∧ n ≤ 1000000) (wth (halc h 24 n n) X) = some r) (kn : ∀ h', X h' = some r → mJ G M (pc + 2) ls ((2, hpN h + 1) :: st) h' r) : mJ G M pc ls ((0, n) :: st) h r := by
  obtain ⟨hn, hr⟩ := chk_some hr
  refine mNewArr (t := 24) rfl hd hw ⟨3, rfl⟩ (fun c9 s h9 => h9) hn (by decide) (fun N => .inl (gC G 24, N, .inl (fun _ => 0))) (fun N H' q e => e) (fun N hN => ?_) (kn _ hr)
  unfold mRE
  rw [halc_T, halc_L, if_pos rfl, if_pos rfl, if_neg (by omega), if_neg (by omega), if_neg (by omega)]
  exact ⟨Or.inr (Or.inr rfl), N, _, rfl, by omega, hN.symm, fun i hi => by rw [halc_V, if_pos rfl]; rfl⟩
theorem j_newJ {n : Int} {X : mH → Option mR} (hd : decode (mB M) pc = .ok (.newarray .long, 2)) (hw : mTB (Cond.arrayClass .long)) (hr : chk (0 ≤ n ∧ n ≤ 1000000) (wth (halc h 22 n n) X) = some r) (kn : ∀ h', X h' = some r → mJ G M (pc + 2) ls ((2, hpN h + 1) :: st) h' r) : mJ G M pc ls ((0, n) :: st) h r := by
  obtain ⟨hn, hr⟩ := chk_some hr
  refine mNewArr (t := 22) rfl hd hw ⟨1, rfl⟩ (fun c9 s h9 => h9) hn (by decide) (fun N => .inl (gC G 22, N, .inr (.inl (fun _ => 0)))) (fun N H' q e => e) (fun N hN => ?_) (kn _ hr)
  unfold mRE
  rw [halc_T, halc_L, if_pos rfl, if_pos rfl, if_neg (by omega), if_pos rfl]
  exact ⟨N, _, rfl, by omega, hN.symm, fun i hi => by rw [halc_V, if_pos rfl]; rfl⟩
/-- a row of references -/
theorem j_newQ {idx t k9 : Nat} {C : String} {n : Int} {X : mH → Option mR} (hd : decode (mB M) pc = .ok (.anewarray idx, 3)) (hcl : mTB (Cond.classLink (mO M) idx C)) (ht : t = 25 ∧ C = "NineBars$Box" ∨ t = 26 ∧ C = "NineBars$Tray") (hk : (mTy G)[k9]? = some (gC G t, .object C)) (hr : chk (0 ≤ n ∧ n ≤ 1000000) (wth (halc h t n n) X) = some r) (kn : ∀ h', X h' = some r → mJ G M (pc + 3) ls ((2, hpN h + 1) :: st) h' r) : mJ G M pc ls ((0, n) :: st) h r := by
  obtain ⟨hn, hr⟩ := chk_some hr
  have hnn : ((n.toNat : Nat) : Int) = n := by omega
  refine j_stepA (n := n.toNat) (fun p e R s m args below meth c9 H locs cells slots Q lsA mst hC hS hH hL hst hc1 hs1 kk => ?_) (halc_N _ _ _ _) (by rw [halc_S, hnn]) (kn _ hr)
  obtain ⟨hx, hb, hml, hr1, hlk, htb, hown, hnm, hts, henv, hR, g⟩ := hC
  obtain ⟨x, m1, rfl, hxn, hst1⟩ := mRS_i hst
  have hx0 : ¬ x < 0 := by rw [Int32.lt_iff_toInt_lt, i32_zero]; omega
  have hcl9 : x.toNatClampNeg = n.toNat := by have := i32_cl (x := x) (by omega); omega
  have hpos : (0 : Int) < hpN h + 1 := by have := hH.2.1; omega
  have hmad : mad G (hpN h + 1) = H.size := by have := hH.1; have := hH.2.1; unfold mad; omega
  have hao : va_AO C s := by
    rcases ht with ⟨-, e9⟩ | ⟨-, e9⟩
    · rw [e9]; exact va_AO.moved henv.1.alike g.2.2.2.2.2.2.2.2.2.1
    · rw [e9]; exact va_AO.moved henv.1.alike g.2.2.2.2.2.2.2.2.2.2.1
  have ht : t = 25 ∨ t = 26 := by omega
  refine W.anew hx hb hown (hts _ hcl) (va_AO.use hao) (g := F0 m pc lsA (.int x :: m1)) rfl hd rfl hx0 (by omega) hc1 (by rw [hcl9]; exact hs1) fun cA kA comp f1 f2 f3 f4 => ?_
  obtain ⟨kA2, comp2, k1, k2, k3, k4⟩ : va_RA s (gC G t) (.object C) := ((mK_s g henv).2 k9 _ hk).2
  have hcA : cA = gC G t := Option.some.inj (f1.symm.trans k4)
  subst hcA
  rw [hcl9]
  generalize hH1 : H.push ({ cls := gC G t, slots := Array.replicate n.toNat .null, vm := .none } : Cell) = H1
  have e2 : H1.size = H.size + 1 := by rw [← hH1, Array.size_push]
  have e1 : H1[H.size]? = some (arrV (gC G t) n.toNat (fun _ => .null)) := by rw [← hH1, Array.getElem?_push_size, ← arrV_new]
  have e3 : ∀ q : Nat, q < H.size → H1[q]? = H[q]? := fun q hq => by rw [← hH1, Array.getElem?_push, if_neg (Nat.ne_of_lt hq)]
  refine kk H1 lsA (.ref H.size :: m1) ⟨Nat.le_trans hS.1 (by omega), fun q h1 h2 => (e3 q (Nat.lt_of_lt_of_le h1 hS.1)).trans (hS.2.1 q h1 h2), hS.2.2⟩ ?_ hL ⟨⟨rfl, by rw [mr_pos hpos, hmad]⟩, hst1⟩
  refine mRH_new (e' := .inl (gC G t, n.toNat, .inr (.inr (.inr (.inr (fun _ => none)))))) hH e2 e3 (halc_N _ _ _ _) (fun y hy => by rw [halc_T, if_neg hy]) (fun y hy => by rw [halc_L, if_neg hy]) (fun y j hy => by rw [halc_V, if_neg hy]) (fun _ => ?_) (fun _ => ?_)
  · show H1[H.size]? = some (vp_cell _ _)
    rw [vp_cell_q]
    exact e1
  · unfold mRE
    rw [halc_T, halc_L, if_pos rfl, if_pos rfl, if_neg (by omega), if_neg (by omega), if_pos ht]
    exact ⟨n.toNat, _, rfl, by omega, hnn.symm, fun i hi => by rw [halc_V, if_pos rfl]; rfl⟩
/-- new -/
theorem j_new {idx c N : Nat} {C : String} {T : u_T} {ty : Nat → FieldType} {X : mH → Option mR} (hd : decode (mB M) pc = .ok (.new idx, 3)) (hc : vwCl[c]? = some (C, T, N)) (hc2 : c < 19) (hcl : mTB (Cond.classLink (mO M) idx C)) (hins : mTB (Cond.instantiable C N)) (hini : mTB (Cond.initialized C)) (hws : ∀ w ∈ u_ws C T N, mTB w) (hty : ∀ j, j < N → parseFieldDescriptor (T j).2.2.1 = some (ty j)) (hz : ∀ j, j < N → mRV G (ftag (T j).2.2.1, 0) (defaultValue (ty j)))
    (hr : wth (halc h (c + 1) 0 N) X = some r) (kn : ∀ h', X h' = some r → mJ G M (pc + 3) ls ((2, hpN h + 1) :: st) h' r) : mJ G M pc ls st h r := by
  refine j_stepA (n := N) (fun p e R s m args below meth c9 H locs cells slots Q lsA mst hC hS hH hL hst hc1 hs1 kk => ?_) (halc_N _ _ _ _) (halc_S _ _ _ _) (kn _ hr)
  obtain ⟨hx, hb, hml, hr1, hlk, htb, hown, hnm, hts, henv, hR, g⟩ := hC
  have hpos : (0 : Int) < hpN h + 1 := by have := hH.2.1; omega
  have hmad : mad G (hpN h + 1) = H.size := by have := hH.1; have := hH.2.1; unfold mad; omega
  have hK := mK_s g henv
  have hKn := hK.1 c _ hc
  have hin : ∀ w ∈ u_ws C T N, w.before args s = true := fun w hw => hts w (hws w hw)
  refine W.newcK hx hb hown (hts _ hcl) (hts _ hins) (hts _ hini) (g := F0 m pc lsA mst) rfl hd hc1 hs1 hKn.2.1 rfl fun H1 kC hkC e1 e2 e3 => ?_
  refine kk H1 lsA (.ref H.size :: mst) ⟨Nat.le_trans hS.1 (by omega), fun q h1 h2 => (e3 q (Nat.lt_of_lt_of_le h1 hS.1)).trans (hS.2.1 q h1 h2), hS.2.2⟩ ?_ hL ⟨⟨rfl, by rw [mr_pos hpos, hmad]⟩, hst⟩
  refine mRH_new (e' := .inr (c, (List.range N).map (fun j => defaultValue (ty j)))) hH e2 e3 (halc_N _ _ _ _) (fun y hy => by rw [halc_T, if_neg hy]) (fun y hy => by rw [halc_L, if_neg hy]) (fun y j hy => by rw [halc_V, if_neg hy]) (fun _ => ?_) (fun _ => ?_)
  · refine ⟨_, hc, (u_born ty hin (fun w hw => hw) hKn hkC e1 hty).to fun j hj => ?_⟩
    have hj2 : j < N := hj
    show _ = ((List.range N).map (fun j => defaultValue (ty j))).getD j .null
    rw [List.getD_eq_getElem?_getD, List.getElem?_map, List.getElem?_range hj2]
    rfl
  · unfold mRE
    rw [halc_T, if_pos rfl, if_pos (by omega), Nat.add_sub_cancel]
    refine ⟨C, T, N, _, hc, rfl, by simp, fun j u hj => ?_⟩
    rw [halc_V, if_pos rfl]
    rw [List.getElem?_map] at hj
    by_cases hj2 : j < N
    · rw [List.getElem?_range hj2] at hj
      rw [← Option.some.inj hj]
      exact hz j hj2
    · rw [List.getElem?_eq_none (by simp; omega)] at hj
      cases hj
theorem j_aastore {t k9 c C9 : Nat} {i a v : Int} {rc : vw_C} {X : mH → Option mR} (hd : decode (mB M) pc = .ok (.aastore, 1)) (ht0 : t = 25 ∨ t = 26) (hk : (mTy G)[k9]? = some (gC G t, .object rc.1)) (hc : vwCl[c]? = some rc) (hc2 : c < 19) (hr : chk (hpT h a = t) (chk (0 ≤ i ∧ i < hpL h a) (chk (hpT h v = c + 1) (wth (hput h a i v) X))) = some r) (kn : ∀ h', X h' = some r → mJ G M (pc + 1) ls st h' r) : mJ G M pc ls ((2, v) :: (0, i) :: (2, a) :: st) h r := by
  obtain ⟨ht, hr⟩ := chk_some hr
  obtain ⟨hi, hr⟩ := chk_some hr
  obtain ⟨hv, hr⟩ := chk_some hr
  refine j_stepH (fun p e R s m args below meth c9 H locs cells slots Q lsA mst hC hS hH hL hst kk => ?_) (hput_N _ _ _ _) (hput_S _ _ _ _) (kn _ hr)
  obtain ⟨hx, hb, hml, hr1, hlk, htb, hown, hnm, hts, henv, hR, g⟩ := hC
  obtain ⟨m1, rfl, hst1⟩ := mRS_r hst
  obtain ⟨x, m2, rfl, rfl, hst2⟩ := mRS_i hst1
  obtain ⟨m3, rfl, hst3⟩ := mRS_r hst2
  obtain ⟨ha, n, f, q1, q2, q3, q4⟩ := mRH_q hH ht ht0
  obtain ⟨hv0, C, T, N, fs, v1, v2, v3, v4⟩ := mRH_o hH hv hc2
  rw [mr_pos ha, mr_pos hv0]
  obtain ⟨i1, i2, i3⟩ := mIx (x := x) (n := n) (by omega)
  have hK := mK_s g henv
  have h0 : ¬ x < 0 := fun q => i1 (Or.inl q)
  obtain ⟨r', hr', cellV, g1, g2, g3, -⟩ := v2
  have hcls := (hK.1 c rc hc).2
  obtain ⟨kA, comp, k1, k2, k3, -⟩ : va_RA s (gC G t) (.object rc.1) := (hK.2 k9 _ hk).2
  have hcomp : comp = (gD G).1 c := Option.some.inj (k3.symm.trans hcls.1)
  subst hcomp
  obtain ⟨kC, hkC, -⟩ := hcls.2
  refine W.aast hx hb q1 (fun q h => by cases h) (fun h => by cases h) k1 k2 rfl hkC ⟨h0, by show _ < (arrV _ _ _).slots.size; rw [arrV_size]; exact i2⟩ g1 (fun q h => by rw [g3] at h; cases h) (by rw [g2]; exact hkC) (by rw [g2]; exact va_assign hcls) rfl rfl hd fun H1 e1 e2 e3 => ?_
  refine kk H1 _ lsA m3 (hS.put e2 e3 (mA_ad G a)) ?_ hL hst3
  refine mRH_set hH (by omega) e2 e3 (e' := .inl (gC G t, n, .inr (.inr (.inr (.inr (va_up f x.toNatClampNeg (some (mad G v)))))))) ?_ (hput_N _ _ _ _) (fun y => rfl) (fun y => rfl) (fun y j hy => hput_Vn hy) ?_
  · show H1[mad G a]? = some (vp_cell _ _)
    rw [e1, vp_cell_q, vp_cell_q, arrV_store]
    congr 2
    funext q
    by_cases hq : q = x.toNatClampNeg
    · subst hq; simp [updV, va_up, va_rf]
    · simp [updV, va_up, hq]
  · unfold mRE
    rw [hput_T, hput_L, if_neg (by omega), if_neg (by omega), if_pos (by omega), ht]
    refine ⟨n, _, rfl, q2, q3, fun j hj => ?_⟩
    rw [hput_V]
    by_cases hjk : j = x.toNatClampNeg
    · subst hjk
      rw [if_pos ⟨rfl, i3⟩, mr_pos hv0]
      simp [va_up, va_rf]
    · rw [if_neg (fun w => hjk (by have := w.2; omega)), q4 j hj]
      simp [va_up, hjk]
end
