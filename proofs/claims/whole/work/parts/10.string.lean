/-! THE LITTLE MACHINE: the literals' letters -/
section
variable {G : mG} {M My : mM} {pc : Nat} {ls st : List mV} {h : mH} {r : mR}
theorem mWd {G : mG} {s : State} (g : GOK G) (henv : mENV G s) : vk_S 10 mLn mBy (gK G) (gW G) (mA G) s s.heap := by
  obtain ⟨-, -, -, -, -, g6, -⟩ := g
  exact vk_S.moved henv.1.alike (g6.kept (fun q hq hA => henv.2.2 q (by unfold mA at hA; omega)))
theorem mr_lit (G : mG) {k : Nat} (hk : k < 98) : mr G (-((k : Int) + 2)) = .ref (gK G k) := by
  rw [mr_neg (by omega)]
  unfold mlow
  rw [show (-(-((k : Int) + 2))).toNat = k + 2 by omega, if_neg (by omega), if_pos (by omega), Nat.add_sub_cancel]
theorem mr_low (G : mG) (k : Nat) : mr G (-((k : Int) + 100)) = .ref (gW G k) := by
  rw [mr_neg (by omega)]
  unfold mlow
  rw [show (-(-((k : Int) + 100))).toNat = k + 100 by omega, if_neg (by omega), if_neg (by omega), Nat.add_sub_cancel]
theorem mR1 {G : mG} {z : Int} {q : Nat} {mst : List Value} {st : List mV} (hq : mr G z = .ref q) (h : mRS G ((2, z) :: st) mst) : ∃ m2, mst = .ref q :: m2 ∧ mRS G st m2 := by
  obtain ⟨m2, rfl, h2⟩ := mRS_r h
  exact ⟨m2, by rw [hq], h2⟩
/-- a literal's letters -/
theorem j_litV {idx k : Nat} (hd : decode (mB M) pc = .ok (.getfield idx, 3)) (hk : k < 10) (hl : mTB (Cond.fieldLink (mO M) idx "java/lang/String" "value" "[B")) (kn : mJ G M (pc + 3) ls ((2, -((k : Int) + 100)) :: st) h r) : mJ G M pc ls ((2, -((k : Int) + 2)) :: st) h r := by
  refine j_step (fun p e R s m args below meth c9 H locs cells slots Q lsA mst hC hS hH hL hst hcl hsl kk => ?_) kn
  obtain ⟨hx, hb, hml, hr1, hlk, htb, hown, hnm, hts, henv, hR, g⟩ := hC
  obtain ⟨m1, rfl, hst1⟩ := mR1 (mr_lit G (by omega)) hst
  exact vk_getf hx hb ((mWd g henv).1 k hk).2.2.1 hS hown (hts _ hl) (fun x hx => hx) hd (kk lsA _ hL ⟨⟨rfl, mr_low G k⟩, hst1⟩)
theorem j_litC {idx k : Nat} (hd : decode (mB M) pc = .ok (.getfield idx, 3)) (hk : k < 10) (hl : mTB (Cond.fieldLink (mO M) idx "java/lang/String" "coder" "B")) (kn : mJ G M (pc + 3) ls ((0, 0) :: st) h r) : mJ G M pc ls ((2, -((k : Int) + 2)) :: st) h r := by
  refine j_step (fun p e R s m args below meth c9 H locs cells slots Q lsA mst hC hS hH hL hst hcl hsl kk => ?_) kn
  obtain ⟨hx, hb, hml, hr1, hlk, htb, hown, hnm, hts, henv, hR, g⟩ := hC
  obtain ⟨m1, rfl, hst1⟩ := mR1 (mr_lit G (by omega)) hst
  exact vk_getf hx hb ((mWd g henv).1 k hk).2.1 hS hown (hts _ hl) (fun x hx => hx) hd (kk lsA _ hL ⟨rfl, hst1⟩)
theorem j_compact {idx : Nat} (hd : decode (mB M) pc = .ok (.getstatic idx, 3)) (hl : mTB (Cond.fieldLink (mO M) idx "java/lang/String" "COMPACT_STRINGS" "Z")) (kn : mJ G M (pc + 3) ls ((0, 1) :: st) h r) : mJ G M pc ls st h r := by
  refine j_step (fun p e R s m args below meth c9 H locs cells slots Q lsA mst hC hS hH hL hst hcl hsl kk => ?_) kn
  obtain ⟨hx, hb, hml, hr1, hlk, htb, hown, hnm, hts, henv, hR, g⟩ := hC
  have g' := g
  obtain ⟨-, -, -, -, -, -, -, g8, -⟩ := g'
  have hZ := va_Z.moved henv.1.alike (g8.kept (fun q hq hA => henv.2.2 q (by unfold mA at hA; omega)))
  exact va_gets hx hb hZ hS hown (hts _ hl) (fun x hx => hx) hd (kk lsA _ hL ⟨rfl, hst⟩)
theorem j_litL {k : Nat} (hd : decode (mB M) pc = .ok (.arraylength, 1)) (hk : k < 10) (kn : mJ G M (pc + 1) ls ((0, (mLn.getD k 0 : Nat)) :: st) h r) : mJ G M pc ls ((2, -((k : Int) + 100)) :: st) h r := by
  refine j_step (fun p e R s m args below meth c9 H locs cells slots Q lsA mst hC hS hH hL hst hcl hsl kk => ?_) kn
  obtain ⟨hx, hb, hml, hr1, hlk, htb, hown, hnm, hts, henv, hR, g⟩ := hC
  obtain ⟨m1, rfl, hst1⟩ := mR1 (mr_low G k) hst
  have hle : ∀ k9 : Nat, k9 < 10 → mLn.getD k9 0 < 100 := by decide +kernel
  exact va_tlen hx hb ((mWd g henv).1 k hk).2.2.2 hS rfl hd (kk lsA _ hL ⟨by
    refine Prod.ext rfl ?_
    show _ = (nI _).toInt
    have := hle k hk
    rw [nI_toInt (by omega)], hst1⟩)
theorem j_litB {k : Nat} {i : Int} {X : Option mR} (hd : decode (mB M) pc = .ok (.baload, 1)) (hk : k < 10) (hr : chk (0 ≤ i ∧ i < (mLn.getD k 0 : Nat)) X = some r) (kn : X = some r → mJ G M (pc + 1) ls ((0, ((mBy.getD k []).getD i.toNat 0).toInt) :: st) h r) : mJ G M pc ls ((0, i) :: (2, -((k : Int) + 100)) :: st) h r := by
  obtain ⟨hi, hr⟩ := chk_some hr
  refine j_step (fun p e R s m args below meth c9 H locs cells slots Q lsA mst hC hS hH hL hst hcl hsl kk => ?_) (kn hr)
  obtain ⟨hx, hb, hml, hr1, hlk, htb, hown, hnm, hts, henv, hR, g⟩ := hC
  obtain ⟨x, m1, rfl, rfl, hst1⟩ := mRS_i hst
  obtain ⟨m2, rfl, hst2⟩ := mR1 (mr_low G k) hst1
  obtain ⟨i1, i2, i3⟩ := mIx (n := mLn.getD k 0) hi
  refine va_tb hx hb ((mWd g henv).1 k hk).2.2.2 hS i1 rfl hd (kk lsA _ hL ⟨?_, hst2⟩)
  refine Prod.ext rfl ?_
  show _ = ((mBy.getD k []).getD x.toNatClampNeg 0).toInt
  rw [show x.toNatClampNeg = x.toInt.toNat by rw [← i3]; rfl]
theorem i32_i2c (x : Int32) : (x.toUInt32 % 65536).toInt32.toInt = x.toInt % 65536 := by
  have h1 : (x.toUInt32 % 65536).toInt32.toInt = (((x.toUInt32 % 65536).toBitVec.toInt) : Int) := rfl
  have h2 : x.toInt = x.toUInt32.toBitVec.toInt := rfl
  have h3 : (x.toUInt32 % 65536).toBitVec = x.toUInt32.toBitVec % 65536#32 := rfl
  rw [h1, h2, h3, BitVec.toInt_eq_toNat_bmod, BitVec.toInt_eq_toNat_bmod, BitVec.toNat_umod, show (65536#32).toNat = 65536 from rfl, Int.bmod_def, Int.bmod_def]
  have := x.toUInt32.toBitVec.isLt
  split <;> split <;> omega
theorem j_i2c {a : Int} (hd : decode (mB M) pc = .ok (.i2c, 1)) (k : mJ G M (pc + 1) ls ((0, a % 65536) :: st) h r) : mJ G M pc ls ((0, a) :: st) h r := by
  refine j_step (fun p e R s m args below meth c H locs cells slots Q lsA mst hC hS hH hL hst hcl hsl kk => ?_) k
  obtain ⟨hx, hb, hml, hr, hlk, htb, hown, hnm, hts, henv, hR⟩ := hC
  obtain ⟨x, m1, rfl, rfl, hst1⟩ := mRS_i hst
  exact lv_i2c hx hb hd rfl (kk lsA _ hL ⟨(by show mRV G _ (.int _); exact Prod.ext rfl (i32_i2c x).symm), hst1⟩)
/-- a method of a literal -/
theorem mRunK {idx n k : Nat} {as : List mV} (hd : decode (mB M) pc = .ok (.invokevirtual idx, 3)) (hc : mCal M My n) (hh : mHh My = []) (hv : mTB (Cond.methodLink (mO M) idx (mY My)) ∧ mTB (Cond.instanceMethod (mY My)) ∧ mTB (Cond.selects (mY My).cls (mY My) (mY My)) ∧ (mY My).cls = "java/lang/String") (hn : as.length = n) (hw : mwt st ≤ 8) (hk : k < 10) : mRun G M My pc ls (as.reverse ++ (2, -((k : Int) + 2)) :: st) ((2, -((k : Int) + 2)) :: as) st h := by
  intro p e R s m args below meth c9 H locs cells slots lsA mst r1 hC hS hH hL hst hM q1 q2
  obtain ⟨hx, hb, hml, hr1, hlk, htb, hown, hnm, hts, henv, hR, g⟩ := hC
  obtain ⟨m1, m2, rfl, hs1, hs2⟩ := mRS_app hst
  obtain ⟨m3, rfl, hs3⟩ := mRS_r hs2
  obtain ⟨v1, v2, v3, v4⟩ := hv
  rw [mr_lit G (by omega)]
  have hAs : mRS G as m1.reverse := by have := mRS_rev hs1; rwa [List.reverse_reverse] at this
  obtain ⟨cell, w1, w2, w3⟩ := vk_recv (mWd g henv) hk hS
  obtain ⟨k1, k2, k3, k4, k5, k6⟩ := hc
  rw [hh] at k1
  have hc9 : mCal M My n := ⟨by rw [hh]; exact k1, k2, k3, k4, k5, k6⟩
  refine ⟨m3, (Value.ref (gK G k) :: m1.reverse).toArray, hs3, ?_⟩
  refine vx_runV (Ts := []) (own := mO M) (C := (mY My).cls) (b := gK G k) (As := m1.reverse) (ws := mWS My) (rm := mRm My h r1) (Pc := mPc G ((2, -((k : Int) + 2)) :: as) h) (index := idx) (n := n) (bytes := mB My) (maxL := mLo My) (ret := mRt My) ⟨hx, hb, rfl, hown, fun w hw => by cases hw⟩ hM.2 ⟨⟨rfl, rfl, (mRoomOK (h1 := h) (h2 := h) k5 k6 hR).1, (mRoomOK (h1 := h) (h2 := h) k5 k6 hR).2, mWS_ok hts hc9, ?_, hts _ k1, hts _ k2, k3, mNum k4, hts _ v1⟩, hts _ v2, hts _ v3⟩ ⟨mPc_blind _ _ _, ⟨cell, w1, w2, by rw [v4]; exact w3⟩, mPc_at g henv hS hH ⟨⟨rfl, by rw [mr_lit G (by omega)]⟩, hAs⟩⟩ rfl (by rw [mRS_len hAs, hn]) (by show lsA.size = _; rw [hml, mRL_sz hL]) (by show _ = _ ++ _; rw [List.reverse_reverse]) (by show 2 * 0 + _ ≤ 8; rw [mRS_wt hs3]; omega) hd ⟨q1, q2⟩
  unfold mWS
  rw [hh]
  exact List.mem_cons_self
end
