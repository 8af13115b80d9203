/-! THE LITTLE MACHINE: calls, throws, catching -/
def bndT (tg : Nat) (x : Option mR) (k : Int → mH → Option mR) : Option mR := match x with
  | none => none
  | some ((t, v), h) => if t = 4 then some ((4, v), h) else if t = tg then k v h else none
theorem bndT_some {tg : Nat} {x : Option mR} {k : Int → mH → Option mR} {r : mR} (h : bndT tg x k = some r) : ∃ (v : Int) (h1 : mH), (x = some ((4, v), h1) ∧ r = ((4, v), h1)) ∨ (tg ≠ 4 ∧ x = some ((tg, v), h1) ∧ k v h1 = some r) := by
  unfold bndT at h
  cases x with
  | none => cases h
  | some r1 =>
    obtain ⟨⟨t, v⟩, h1⟩ := r1
    refine ⟨v, h1, ?_⟩
    by_cases ht : t = 4
    · subst ht
      simp only [if_true] at h
      exact Or.inl ⟨rfl, (Option.some.inj h).symm⟩
    · simp only [ht, if_false] at h
      by_cases ht2 : t = tg
      · subst ht2
        simp only [if_true] at h
        exact Or.inr ⟨ht, rfl, h⟩
      · simp only [ht2, if_false] at h
        cases h
theorem mRS_app {G : mG} : ∀ {xs ys : List mV} {ms : List Value}, mRS G (xs ++ ys) ms → ∃ m1 m2, ms = m1 ++ m2 ∧ mRS G xs m1 ∧ mRS G ys m2
  | [], ys, ms, h => ⟨[], ms, rfl, trivial, h⟩
  | x :: xs, ys, [], h => h.elim
  | x :: xs, ys, v :: ms, h => by
    obtain ⟨m1, m2, e, h1, h2⟩ := mRS_app (xs := xs) h.2
    exact ⟨v :: m1, m2, by rw [e]; rfl, ⟨h.1, h1⟩, h2⟩
theorem mRS_cat {G : mG} : ∀ {xs ys : List mV} {m1 m2 : List Value}, mRS G xs m1 → mRS G ys m2 → mRS G (xs ++ ys) (m1 ++ m2)
  | [], _, [], _, _, h => h
  | [], _, _ :: _, _, h, _ => h.elim
  | _ :: _, _, [], _, h, _ => h.elim
  | _ :: _, _, _ :: _, _, h, h2 => ⟨h.1, mRS_cat h.2 h2⟩
theorem mRS_rev {G : mG} : ∀ {xs : List mV} {ms : List Value}, mRS G xs ms → mRS G xs.reverse ms.reverse
  | [], [], _ => trivial
  | [], _ :: _, h => h.elim
  | _ :: _, [], h => h.elim
  | x :: xs, v :: ms, h => by
    rw [List.reverse_cons, List.reverse_cons]
    exact mRS_cat (mRS_rev h.2) ⟨h.1, trivial⟩
theorem mRS_len {G : mG} : ∀ {xs : List mV} {ms : List Value}, mRS G xs ms → ms.length = xs.length
  | [], [], _ => rfl
  | [], _ :: _, h => h.elim
  | _ :: _, [], h => h.elim
  | _ :: _, _ :: _, h => by rw [List.length_cons, List.length_cons, mRS_len h.2]
/-- an entry of the class's table is that method -/
def mCal (M My : mM) (n : Nat) : Prop := (match mHh My with
    | [] => mTB (Cond.code (mY My) (mB My) (mLo My) (mRt My))
    | hh => mTB (Cond.codeWith (mY My) (mB My) (mLo My) (mRt My) hh)) ∧ mTB (Cond.initialized (mY My).cls) ∧ ((mY My).cls ≠ "java/lang/invoke/MethodHandle" ∧ (mY My).cls ≠ "java/lang/invoke/VarHandle") ∧ (parseMethodDescriptor (mY My).desc).map (fun d => d.parameters.length) = some n ∧ mDp My < mDp M ∧ mLo My ≤ 60
def mCaV (M My : mM) (idx c : Nat) : Prop := mTB (Cond.methodLink (mO M) idx (mY My)) ∧ mTB (Cond.instanceMethod (mY My)) ∧ mTB (Cond.selects (mY My).cls (mY My) (mY My)) ∧ c < 19 ∧ (∃ (T : u_T) (N : Nat), vwCl[c]? = some ((mY My).cls, T, N))
def mCaS (M My : mM) (idx : Nat) : Prop := mTB (Cond.methodLink (mO M) idx (mY My)) ∧ mTB (Cond.static (mY My))
def mCaI (M My : mM) (idx : Nat) : Prop := (mTB (Cond.methodLink (mO M) idx (mY My)) ∨ ∃ host, mTN (Cond.methodLinkNest (mO M) idx (mY My) host)) ∧ mTB (Cond.instanceMethod (mY My)) ∧ (mY My).name = "<init>"
def mCaN (M My : mM) (idx : Nat) : Prop := (∃ host, mTN (Cond.methodLinkNest (mO M) idx (mY My) host)) ∧ mTB (Cond.static (mY My))
theorem mTB_warm {args : Array Value} {s : State} (hts : ∀ w, mTB w → w.before args s = true) {w : Cond} (hw : mTB w) : ∀ (a' : Array Value) (U : State), s.WarmedH U.vm → w.before a' U = true := fun a' U hW => word_at hW (good_of_word hw.2) (hts w hw)
theorem mWS_ok {args : Array Value} {s : State} {M My : mM} {n : Nat} (hts : ∀ w, mTB w → w.before args s = true) (hc : mCal M My n) : ∀ w ∈ mWS My, ∀ (a' : Array Value) (U : State), s.WarmedH U.vm → w.before a' U = true := by
  intro w hw
  unfold mWS at hw
  rcases List.mem_cons.mp hw with e | e
  · have h1 := hc.1
    cases hh : mHh My with
    | nil => rw [hh] at e h1; rw [e]; exact mTB_warm hts h1
    | cons a b => rw [hh] at e h1; rw [e]; exact mTB_warm hts h1
  · exact mTB_warm hts (mTL_in.mp e)
theorem mPc_blind (G : mG) (as : List mV) (h : mH) : FrameBlind (mPc G as h) := fun a U g mk hp => hp
theorem mPc_at {G : mG} {s : State} {H : Heap} {locs : List Loc} {as : List mV} {h : mH} {margs : List Value} (g : GOK G) (henv : mENV G s) (hS : va_S (mA G) s.heap H locs) (hH : mRH G h H) (hs : mRS G as margs) : ∀ U : State, U.heap = H → s.WarmedH U.vm → mPc G as h margs.toArray U := by
  intro U hU hW
  refine ⟨g, ⟨State.WarmedH.trans henv.1 hW, by rw [hU]; exact Nat.le_trans henv.2.1 hS.1, fun q hq => ?_⟩, by rw [hU]; exact hH, margs, rfl, hs⟩
  rw [hU, hS.2.1 q (Nat.lt_of_lt_of_le hq henv.2.1) (Nat.not_le.mpr hq)]
  exact henv.2.2 q hq
theorem mMet {l : Launch} {y : MethodName} {ws : List Cond} {rm : Room} {Pc : Array Value → State → Prop} {G : mG} {r : mR} {mc ms : Nat} {free : Addr → Prop} (hM : vx_Met l y ws rm Pc (mQC G r) (mXC G r) mc ms free) (hr : r.1.1 ≠ 4) : Met l y ws rm Pc (mQC G r) mc ms free := by
  intro p e h1 h2 h3 s m args below h4 h5 h6 h7
  obtain ⟨n, o, q1, q2, q3, q4⟩ := hM p e h1 h2 h3 s m args below h4 h5 h6 h7
  refine ⟨n, o, q1, q2, q3, ?_⟩
  rcases q4 with q4 | ⟨q, -, E, ce, L, q5, -⟩
  · exact q4
  · exact absurd (by rw [q5.1]) hr
section
variable {G : mG} {M My : mM} {pc : Nat} {ls st : List mV} {h : mH} {r : mR}
/-- what a call's row gives -/
def mRun (G : mG) (M My : mM) (pc : Nat) (ls stk as st : List mV) (h : mH) : Prop :=
  ∀ (p : Program) (e : Env) (R : Room) (s : State) (m : MethodId) (args : Array Value) (below : List Frame) (meth : Method) (c : Code) (H : Heap) (locs : List Loc) (cells slots : Nat) (lsA : Array Slot) (mst : List Value) (r1 : mR),
    mCX G M p R s m args meth c → va_S (mA G) s.heap H locs → mRH G h H → mRL G M ls lsA → mRS G stk mst → mJM G My as h r1 → cells + (hpN r1.2 - hpN h).toNat ≤ R.cells → slots + (hpS r1.2 - hpS h).toNat ≤ R.slots →
    ∃ (rest : List Value) (a9 : Array Value), mRS G st rest ∧ vx_Run p (gL G) e R s m args below meth c H locs cells slots (hpN r1.2 - hpN h).toNat (hpS r1.2 - hpS h).toNat (F0 m pc lsA mst) rest (mQC G r1 a9) (mXC G r1) (mA G)
theorem j_callG {tg : Nat} {stk as : List mV} {cl : Option mR} {X : Int → mH → Option mR} {P : Int → List mV} (hrun : mRun G M My pc ls stk as st h) (hP : ∀ v, P v = if tg = 3 then st else (tg, v) :: st) (hh : mHh M = []) (hr : bndT tg cl X = some r) (hcl : ∀ r1, cl = some r1 → mJM G My as h r1) (kn : ∀ v h1, X v h1 = some r → mJ G M (pc + 3) ls (P v) h1 r) : mJ G M pc ls stk h r := by
  obtain ⟨v, h1, ⟨e1, e2⟩ | ⟨e1, e2, e3⟩⟩ := bndT_some hr
  · have hM := hcl _ e1
    subst e2
    refine ⟨hM.1, fun p e R s m args below meth c H locs cells slots mc ms lsA mst hC hS hH hL hst q1 q2 q3 q4 => ?_⟩
    obtain ⟨m1, m2⟩ := hM.1
    dsimp only at m1 m2 q1 q2
    obtain ⟨rest, a9, hrest, hrun⟩ := hrun p e R s m args below meth c H locs cells slots lsA mst _ hC hS hH hL hst hM (by dsimp only; omega) (by dsimp only; omega)
    obtain ⟨hx, hb, hml, hr1, hlk, htb, hown, hnm, hts, henv, hR, g⟩ := hC
    intro T hT X9
    rcases hrun T hT X9 with ⟨v0, st₀, t, T', L, h0, X', hL', e4, e5, ⟨⟨v9, hv, hp, hb9⟩, hF⟩, st9⟩ | ⟨q, st₀, t, T', L, E, ce, h0, X', hL', e4, e5, hXC, hce, hcv, hcl9, st9⟩
    · exfalso
      unfold mRO at hp
      split at hp
      · exact absurd (show (4 : Nat) = 3 from hp) (by decide)
      · exact absurd (show (4 : Nat) < 3 from mRV_tag hp) (by decide)
    · obtain ⟨k1, k2, k3⟩ := vx_keep h0 e4 hS (fun q _ z => z) (fun q z => z) hL' hXC.2.2.2
      have hcE : c.exceptionTable.toList = [] := by rw [htb, hh]; rfl
      have hout := vx_out (p := p) (l := gL G) (e := e) (R := R) (s := s) (m := m) (args := args) (below := below) (meth := meth) (c := c) (H := T'.heap) (locs := locs ++ L) (cells := cells + (hpN h1 - hpN h).toNat) (slots := slots + (hpS h1 - hpS h).toNat) (Qc := mQC G ((4, v), h1)) (XC := mXC G ((4, v), h1)) (mc := mc) (ms := ms) (free := mA G) (ls := lsA) (rest := rest) (pc := pc) (E := E) (ce := ce) (q := q) (fun x hx => by rw [hcE] at hx; cases hx) hlk (by rw [e4]; exact hce) hcv hcl9 (fun t9 ht9 _ => ⟨hXC.1, hXC.2.1, by rw [ht9, e4]; exact hXC.2.2.1, k3.F ht9⟩) k3.2.2 (by omega) (by omega)
      obtain ⟨t2, a1, b1⟩ := hout T' rfl X'
      exact ⟨t2, st9.trans a1, b1⟩
  · have hM := hcl _ e2
    have k := kn v h1 e3
    refine ⟨⟨Int.le_trans hM.1.1 k.1.1, Int.le_trans hM.1.2 k.1.2⟩, fun p e R s m args below meth c H locs cells slots mc ms lsA mst hC hS hH hL hst q1 q2 q3 q4 => ?_⟩
    obtain ⟨m1, m2⟩ := hM.1
    obtain ⟨m3, m4⟩ := k.1
    dsimp only at m1 m2
    obtain ⟨rest, a9, hrest, hrun⟩ := hrun p e R s m args below meth c H locs cells slots lsA mst _ hC hS hH hL hst hM (by dsimp only; omega) (by dsimp only; omega)
    intro T hT X9
    rcases hrun T hT X9 with ⟨v0, st₀, t, T', L, h0, X', hL', e4, e5, ⟨⟨v9, hv, hp, hb9⟩, hF⟩, st9⟩ | ⟨q, st₀, t, T', L, E, ce, h0, X', hL', e4, e5, hXC, hce, hcv, hcl9, st9⟩
    · cases hv
      obtain ⟨k1, k2, k3⟩ := vx_keep h0 e4 hS (fun q _ z => z) (fun q z => z) hL' hF
      have hk := k.2 p e R s m args below meth c T'.heap (locs ++ L) (cells + (hpN h1 - hpN h).toNat) (slots + (hpS h1 - hpS h).toNat) mc ms lsA (v0.toList ++ rest) hC k3 (by rw [e4]; exact hb9) hL (by
        rw [hP]
        cases v0 with
        | none =>
          have : tg = 3 := hp
          rw [if_pos this]
          exact hrest
        | some u =>
          have hu : mRV G (tg, v) u := hp
          have ht3 := mRV_tag hu
          rw [if_neg (by show ¬ tg = 3; have : tg < 3 := ht3; omega)]
          exact ⟨hu, hrest⟩) (by omega) (by omega) q3 q4
      obtain ⟨t2, a1, b1⟩ := hk T' rfl X'
      exact ⟨t2, st9 t2 a1, b1⟩
    · exfalso
      have := hXC.1
      exact e1 (Prod.mk.inj this).1
theorem mRoomOK {R : Room} {h1 h2 : mH} {r1 : mR} (hc : mDp My < mDp M) (hl : mLo My ≤ 60) (hR : 20 + 2 * mDp M ≤ R.frames ∧ 300 + 100 * mDp M ≤ R.locals) : (mRm My h1 r1).frames + 1 ≤ R.frames ∧ 8 + (mLo My + 11) + (mRm My h1 r1).locals ≤ R.locals := by
  unfold mRm
  dsimp only
  omega
theorem mNum {n : Nat} {d : String} (h2 : (parseMethodDescriptor d).map (fun d => d.parameters.length) = some n) : ∀ sig, parseMethodDescriptor d = some sig → n = sig.parameters.length := fun sig h => by
  rw [h] at h2
  exact (Option.some.inj h2).symm
/-- a method of an object -/
theorem mRunV {idx n c : Nat} {a : Int} {as : List mV} (hd : decode (mB M) pc = .ok (.invokevirtual idx, 3)) (hc : mCal M My n) (hh : mHh My = []) (hv : mCaV M My idx c) (hn : as.length = n) (hw : mwt st ≤ 8) (ha : hpT h a = c + 1) : mRun G M My pc ls (as.reverse ++ (2, a) :: st) ((2, a) :: as) st h := by
  intro p e R s m args below meth c9 H locs cells slots lsA mst r1 hC hS hH hL hst hM q1 q2
  obtain ⟨hx, hb, hml, hr1, hlk, htb, hown, hnm, hts, henv, hR, g⟩ := hC
  obtain ⟨m1, m2, rfl, hs1, hs2⟩ := mRS_app hst
  obtain ⟨m3, rfl, hs3⟩ := mRS_r hs2
  obtain ⟨v1, v2, v3, v4, T, N, v5⟩ := hv
  obtain ⟨ha0, C, T', N', fs, z1, z2, z3, z4⟩ := mRH_o hH ha v4
  cases Option.some.inj (v5.symm.trans z1)
  rw [mr_pos ha0]
  have hAs : mRS G as m1.reverse := by have := mRS_rev hs1; rwa [List.reverse_reverse] at this
  have hcls := ((mK_s g henv).1 c _ v5).2
  obtain ⟨r0, w1, cell, w2, w3, w4, -⟩ := z2
  obtain ⟨k1, k2, k3, k4, k5, k6⟩ := hc
  rw [hh] at k1
  have hc9 : mCal M My n := ⟨by rw [hh]; exact k1, k2, k3, k4, k5, k6⟩
  refine ⟨m3, (Value.ref (mad G a) :: m1.reverse).toArray, hs3, ?_⟩
  refine vx_runV (Ts := []) (own := mO M) (C := (mY My).cls) (b := mad G a) (As := m1.reverse) (ws := mWS My) (rm := mRm My h r1) (Pc := mPc G ((2, a) :: as) h) (index := idx) (n := n) (bytes := mB My) (maxL := mLo My) (ret := mRt My) ⟨hx, hb, rfl, hown, fun w hw => by cases hw⟩ hM.2 ⟨⟨rfl, rfl, (mRoomOK (h1 := h) (h2 := h) k5 k6 hR).1, (mRoomOK (h1 := h) (h2 := h) k5 k6 hR).2, mWS_ok hts hc9, ?_, hts _ k1, hts _ k2, k3, mNum k4, hts _ v1⟩, hts _ v2, hts _ v3⟩ ⟨mPc_blind _ _ _, ⟨cell, w2, by rw [w4]; rfl, by rw [w3]; exact hcls.1⟩, mPc_at g henv hS hH ⟨⟨rfl, by rw [mr_pos ha0]⟩, hAs⟩⟩ rfl (by rw [mRS_len hAs, hn]) (by show lsA.size = _; rw [hml, mRL_sz hL]) (by show _ = _ ++ _; rw [List.reverse_reverse]) (by show 2 * 0 + _ ≤ 8; rw [mRS_wt hs3]; omega) hd ⟨q1, q2⟩
  unfold mWS
  rw [hh]
  exact List.mem_cons_self
theorem mRunS {idx n : Nat} {as : List mV} (hd : decode (mB M) pc = .ok (.invokestatic idx, 3)) (hc : mCal M My n) (hh : mHh My = []) (hv : mCaS M My idx) (hn : as.length = n) (hw : mwt st ≤ 8) : mRun G M My pc ls (as.reverse ++ st) as st h := by
  intro p e R s m args below meth c9 H locs cells slots lsA mst r1 hC hS hH hL hst hM q1 q2
  obtain ⟨hx, hb, hml, hr1, hlk, htb, hown, hnm, hts, henv, hR, g⟩ := hC
  obtain ⟨m1, m3, rfl, hs1, hs3⟩ := mRS_app hst
  obtain ⟨v1, v2⟩ := hv
  have hAs : mRS G as m1.reverse := by have := mRS_rev hs1; rwa [List.reverse_reverse] at this
  obtain ⟨k1, k2, k3, k4, k5, k6⟩ := hc
  rw [hh] at k1
  have hc9 : mCal M My n := ⟨by rw [hh]; exact k1, k2, k3, k4, k5, k6⟩
  refine ⟨m3, (m1.reverse).toArray, hs3, ?_⟩
  refine vx_runS (Ts := []) (own := mO M) (As := m1.reverse) (ws := mWS My) (rm := mRm My h r1) (Pc := mPc G as h) (index := idx) (n := n) (bytes := mB My) (maxL := mLo My) (ret := mRt My) ⟨hx, hb, rfl, hown, fun w hw => by cases hw⟩ hM.2 ⟨⟨rfl, rfl, (mRoomOK (h1 := h) (h2 := h) k5 k6 hR).1, (mRoomOK (h1 := h) (h2 := h) k5 k6 hR).2, mWS_ok hts hc9, ?_, hts _ k1, hts _ k2, k3, mNum k4, hts _ v1⟩, hts _ v2⟩ ⟨mPc_blind _ _ _, mPc_at g henv hS hH hAs⟩ rfl (by rw [mRS_len hAs, hn]) (by show lsA.size = _; rw [hml, mRL_sz hL]) (by show _ = _ ++ _; rw [List.reverse_reverse]) (by show 2 * 0 + _ ≤ 8; rw [mRS_wt hs3]; omega) hd ⟨q1, q2⟩
  unfold mWS
  rw [hh]
  exact List.mem_cons_self
/-- a row of a callee that returns -/
theorem mRun_of {p : Program} {e : Env} {R : Room} {s : State} {m : MethodId} {args : Array Value} {below : List Frame} {meth : Method} {c : Code} {H : Heap} {locs : List Loc} {cells slots mc ms : Nat} {g : JFrame} {rest : List Value} {Qa : State → Outcome → State → Prop} {XC : String → State → State → Prop} {free : Addr → Prop} {l : Launch} (h9 : va_Run p l e R s m args below meth c H locs cells slots mc ms g rest Qa free) : vx_Run p l e R s m args below meth c H locs cells slots mc ms g rest Qa XC free := fun T hT X => Or.inl (h9 T hT X)
def mNoX (G : mG) (My : mM) (as : List mV) (h : mH) : Prop := ∀ r1, mJM G My as h r1 → r1.1.1 ≠ 4
/-- the same, of callees that are known to return -/
def mRunR (G : mG) (M My : mM) (pc : Nat) (ls stk as st : List mV) (h : mH) : Prop :=
  ∀ (p : Program) (e : Env) (R : Room) (s : State) (m : MethodId) (args : Array Value) (below : List Frame) (meth : Method) (c : Code) (H : Heap) (locs : List Loc) (cells slots : Nat) (lsA : Array Slot) (mst : List Value) (r1 : mR), r1.1.1 ≠ 4 →
    mCX G M p R s m args meth c → va_S (mA G) s.heap H locs → mRH G h H → mRL G M ls lsA → mRS G stk mst → mJM G My as h r1 → cells + (hpN r1.2 - hpN h).toNat ≤ R.cells → slots + (hpS r1.2 - hpS h).toNat ≤ R.slots →
    ∃ (rest : List Value) (a9 : Array Value), mRS G st rest ∧ va_Run p (gL G) e R s m args below meth c H locs cells slots (hpN r1.2 - hpN h).toNat (hpS r1.2 - hpS h).toNat (F0 m pc lsA mst) rest (mQC G r1 a9) (mA G)
def bndR (tg : Nat) (x : Option mR) (k : Int → mH → Option mR) : Option mR := match x with
  | none => none
  | some ((t, v), h) => if t = tg then k v h else none
theorem bndR_some {tg : Nat} {x : Option mR} {k : Int → mH → Option mR} {r : mR} (h : bndR tg x k = some r) : ∃ (v : Int) (h1 : mH), x = some ((tg, v), h1) ∧ k v h1 = some r := by
  unfold bndR at h
  cases x with
  | none => cases h
  | some r1 =>
    obtain ⟨⟨t, v⟩, h1⟩ := r1
    refine ⟨v, h1, ?_⟩
    by_cases ht2 : t = tg
    · subst ht2
      simp only [if_true] at h
      exact ⟨rfl, h⟩
    · simp only [ht2, if_false] at h
      cases h
theorem j_callR {tg : Nat} {stk as : List mV} {cl : Option mR} {X : Int → mH → Option mR} {P : Int → List mV} (htg : tg ≠ 4) (hrun : mRunR G M My pc ls stk as st h) (hP : ∀ v, P v = if tg = 3 then st else (tg, v) :: st) (hr : bndR tg cl X = some r) (hcl : ∀ r1, cl = some r1 → mJM G My as h r1) (kn : ∀ v h1, X v h1 = some r → mJ G M (pc + 3) ls (P v) h1 r) : mJ G M pc ls stk h r := by
  obtain ⟨v, h1, e2, e3⟩ := bndR_some hr
  have hM := hcl _ e2
  have k := kn v h1 e3
  refine ⟨⟨Int.le_trans hM.1.1 k.1.1, Int.le_trans hM.1.2 k.1.2⟩, fun p e R s m args below meth c H locs cells slots mc ms lsA mst hC hS hH hL hst q1 q2 q3 q4 => ?_⟩
  obtain ⟨m1, m2⟩ := hM.1
  obtain ⟨m3, m4⟩ := k.1
  dsimp only at m1 m2
  obtain ⟨rest, a9, hrest, hrun⟩ := hrun p e R s m args below meth c H locs cells slots lsA mst _ htg hC hS hH hL hst hM (by dsimp only; omega) (by dsimp only; omega)
  intro T hT X9
  obtain ⟨v0, st₀, t, T', L, h0, X', hL', e4, e5, ⟨⟨v9, hv, hp, hb9⟩, hF⟩, st9⟩ := hrun T hT X9
  cases hv
  obtain ⟨k1, k2, k3⟩ := vx_keep h0 e4 hS (fun q _ z => z) (fun q z => z) hL' hF
  have hk := k.2 p e R s m args below meth c T'.heap (locs ++ L) (cells + (hpN h1 - hpN h).toNat) (slots + (hpS h1 - hpS h).toNat) mc ms lsA (v0.toList ++ rest) hC k3 (by rw [e4]; exact hb9) hL (by
    rw [hP]
    cases v0 with
    | none =>
      have : tg = 3 := hp
      rw [if_pos this]
      exact hrest
    | some u =>
      have hu : mRV G (tg, v) u := hp
      have ht3 := mRV_tag hu
      rw [if_neg (by show ¬ tg = 3; have : tg < 3 := ht3; omega)]
      exact ⟨hu, hrest⟩) (by omega) (by omega) q3 q4
  obtain ⟨t2, a1, b1⟩ := hk T' rfl X'
  exact ⟨t2, st9 t2 a1, b1⟩
/-- a constructor -/
theorem mRunI {idx n : Nat} {a : Int} {as : List mV} (hd : decode (mB M) pc = .ok (.invokespecial idx, 3)) (hc : mCal M My n) (hh : mHh My = []) (hret : mRt My = none) (hv : mCaI M My idx) (hn : as.length = n) (hw : mwt st ≤ 8) (ha : 0 < a) : mRunR G M My pc ls (as.reverse ++ (2, a) :: st) ((2, a) :: as) st h := by
  intro p e R s m args below meth c9 H locs cells slots lsA mst r1 hr4 hC hS hH hL hst hM q1 q2
  obtain ⟨hx, hb, hml, hr1, hlk, htb, hown, hnm, hts, henv, hR, g⟩ := hC
  obtain ⟨m1, m2, rfl, hs1, hs2⟩ := mRS_app hst
  obtain ⟨m3, rfl, hs3⟩ := mRS_r hs2
  obtain ⟨v1, v2, v3⟩ := hv
  rw [mr_pos ha]
  have hAs : mRS G as m1.reverse := by have := mRS_rev hs1; rwa [List.reverse_reverse] at this
  obtain ⟨k1, k2, k3, k4, k5, k6⟩ := hc
  rw [hh] at k1
  have hc9 : mCal M My n := ⟨by rw [hh]; exact k1, k2, k3, k4, k5, k6⟩
  have hin : Cond.code (mY My) (mB My) (mLo My) none ∈ mWS My := by unfold mWS; rw [hh, hret]; exact List.mem_cons_self
  rw [hret] at k1
  refine ⟨m3, (Value.ref (mad G a) :: m1.reverse).toArray, hs3, ?_⟩
  rcases v1 with v1 | ⟨host, v1⟩
  · exact va_runI (Ts := []) (own := mO M) (b := mad G a) (As := m1.reverse) (ws := mWS My) (rm := mRm My h r1) (Pc := mPc G ((2, a) :: as) h) (index := idx) (n := n) (bytes := mB My) (maxL := mLo My) ⟨hx, hb, rfl, hown, fun w hw => by cases hw⟩ (mMet hM.2 hr4) ⟨⟨rfl, rfl, (mRoomOK (h1 := h) (h2 := h) k5 k6 hR).1, (mRoomOK (h1 := h) (h2 := h) k5 k6 hR).2, mWS_ok hts hc9, hin, hts _ k1, hts _ k2, k3, mNum k4, hts _ v1⟩, v3, hts _ v2⟩ ⟨mPc_blind _ _ _, mPc_at g henv hS hH ⟨⟨rfl, by rw [mr_pos ha]⟩, hAs⟩⟩ rfl (by rw [mRS_len hAs, hn]) (by show lsA.size = _; rw [hml, mRL_sz hL]) (by show _ = _ ++ _; rw [List.reverse_reverse]) (by show 2 * 0 + _ ≤ 8; rw [mRS_wt hs3]; omega) hd ⟨q1, q2⟩
  · exact va_runIN (Ts := []) (own := mO M) (host := host) (b := mad G a) (As := m1.reverse) (ws := mWS My) (rm := mRm My h r1) (Pc := mPc G ((2, a) :: as) h) (index := idx) (n := n) (bytes := mB My) (maxL := mLo My) ⟨hx, hb, rfl, hown, fun w hw => by cases hw⟩ (mMet hM.2 hr4) ⟨⟨⟨rfl, rfl, (mRoomOK (h1 := h) (h2 := h) k5 k6 hR).1, (mRoomOK (h1 := h) (h2 := h) k5 k6 hR).2, mWS_ok hts hc9, hin⟩, hts _ k1, hts _ k2, k3, mNum k4, mTN_use g henv v1⟩, v3, hts _ v2⟩ ⟨mPc_blind _ _ _, mPc_at g henv hS hH ⟨⟨rfl, by rw [mr_pos ha]⟩, hAs⟩⟩ rfl (by rw [mRS_len hAs, hn]) (by show lsA.size = _; rw [hml, mRL_sz hL]) (by show _ = _ ++ _; rw [List.reverse_reverse]) (by show 2 * 0 + _ ≤ 8; rw [mRS_wt hs3]; omega) hd ⟨q1, q2⟩
/-- a nest mate's static method -/
theorem mRunN {idx n : Nat} {as : List mV} (hd : decode (mB M) pc = .ok (.invokestatic idx, 3)) (hc : mCal M My n) (hh : mHh My = []) (hv : mCaN M My idx) (hn : as.length = n) (hw : mwt st ≤ 8) : mRunR G M My pc ls (as.reverse ++ st) as st h := by
  intro p e R s m args below meth c9 H locs cells slots lsA mst r1 hr4 hC hS hH hL hst hM q1 q2
  obtain ⟨hx, hb, hml, hr1, hlk, htb, hown, hnm, hts, henv, hR, g⟩ := hC
  obtain ⟨m1, m3, rfl, hs1, hs3⟩ := mRS_app hst
  obtain ⟨⟨host, v1⟩, v2⟩ := hv
  have hAs : mRS G as m1.reverse := by have := mRS_rev hs1; rwa [List.reverse_reverse] at this
  obtain ⟨k1, k2, k3, k4, k5, k6⟩ := hc
  rw [hh] at k1
  have hc9 : mCal M My n := ⟨by rw [hh]; exact k1, k2, k3, k4, k5, k6⟩
  have hin : Cond.code (mY My) (mB My) (mLo My) (mRt My) ∈ mWS My := by unfold mWS; rw [hh]; exact List.mem_cons_self
  refine ⟨m3, (m1.reverse).toArray, hs3, ?_⟩
  exact va_runSN (Ts := []) (own := mO M) (host := host) (As := m1.reverse) (ws := mWS My) (rm := mRm My h r1) (Pc := mPc G as h) (index := idx) (n := n) (bytes := mB My) (maxL := mLo My) (ret := mRt My) ⟨hx, hb, rfl, hown, fun w hw => by cases hw⟩ (mMet hM.2 hr4) ⟨⟨⟨rfl, rfl, (mRoomOK (h1 := h) (h2 := h) k5 k6 hR).1, (mRoomOK (h1 := h) (h2 := h) k5 k6 hR).2, mWS_ok hts hc9, hin⟩, hts _ k1, hts _ k2, k3, mNum k4, mTN_use g henv v1⟩, hts _ v2, trivial⟩ ⟨mPc_blind _ _ _, mPc_at g henv hS hH hAs⟩ rfl (by rw [mRS_len hAs, hn]) (by show lsA.size = _; rw [hml, mRL_sz hL]) (by show _ = _ ++ _; rw [List.reverse_reverse]) (by show 2 * 0 + _ ≤ 8; rw [mRS_wt hs3]; omega) hd ⟨q1, q2⟩
/-- a static method with a table -/
theorem mRunW {idx n : Nat} {as : List mV} (hd : decode (mB M) pc = .ok (.invokestatic idx, 3)) (hc : mCal M My n) (hh : mHh My ≠ []) (hv : mCaS M My idx) (hn : as.length = n) (hw : mwt st ≤ 8) : mRunR G M My pc ls (as.reverse ++ st) as st h := by
  intro p e R s m args below meth c9 H locs cells slots lsA mst r1 hr4 hC hS hH hL hst hM q1 q2
  obtain ⟨hx, hb, hml, hr1, hlk, htb, hown, hnm, hts, henv, hR, g⟩ := hC
  obtain ⟨m1, m3, rfl, hs1, hs3⟩ := mRS_app hst
  obtain ⟨v1, v2⟩ := hv
  have hAs : mRS G as m1.reverse := by have := mRS_rev hs1; rwa [List.reverse_reverse] at this
  have hc9 := hc
  obtain ⟨k1, k2, k3, k4, k5, k6⟩ := hc
  have k1' : mTB (Cond.codeWith (mY My) (mB My) (mLo My) (mRt My) (mHh My)) := by
    cases hq : mHh My with
    | nil => exact absurd hq hh
    | cons a b => rw [hq] at k1; exact k1
  have hin : Cond.codeWith (mY My) (mB My) (mLo My) (mRt My) (mHh My) ∈ mWS My := by
    unfold mWS
    cases hq : mHh My with
    | nil => exact absurd hq hh
    | cons a b => exact List.mem_cons_self
  refine ⟨m3, (m1.reverse).toArray, hs3, ?_⟩
  exact vx_runSW (Ts := []) (own := mO M) (As := m1.reverse) (ws := mWS My) (rm := mRm My h r1) (Pc := mPc G as h) (index := idx) (n := n) (bytes := mB My) (maxL := mLo My) (ret := mRt My) (hh := mHh My) ⟨hx, hb, rfl, hown, fun w hw => by cases hw⟩ (mMet hM.2 hr4) ⟨⟨rfl, rfl, (mRoomOK (h1 := h) (h2 := h) k5 k6 hR).1, (mRoomOK (h1 := h) (h2 := h) k5 k6 hR).2, mWS_ok hts hc9, hin⟩, hts _ k1', hts _ k2, k3, mNum k4, hts _ v1, hts _ v2⟩ ⟨mPc_blind _ _ _, mPc_at g henv hS hH hAs⟩ rfl (by rw [mRS_len hAs, hn]) (by show lsA.size = _; rw [hml, mRL_sz hL]) (by show _ = _ ++ _; rw [List.reverse_reverse]) (by show 2 * 0 + _ ≤ 8; rw [mRS_wt hs3]; omega) hd ⟨q1, q2⟩
end
