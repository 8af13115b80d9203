/-! THE LITTLE MACHINE'S ROWS THAT WRITE, MAKE, LEAVE -/
def wth (x : mH) (k : mH → Option mR) : Option mR := k x
def wtv (x : Int) (k : Int → Option mR) : Option mR := k x
theorem hput_N (h : mH) (z i v : Int) : hpN (hput h z i v) = hpN h := rfl
theorem hput_S (h : mH) (z i v : Int) : hpS (hput h z i v) = hpS h := rfl
theorem hput_T (h : mH) (z i v y : Int) : hpT (hput h z i v) y = hpT h y := rfl
theorem hput_L (h : mH) (z i v y : Int) : hpL (hput h z i v) y = hpL h y := rfl
theorem hput_V (h : mH) (z i v y j : Int) : hpV (hput h z i v) y j = if y = z ∧ j = i then v else hpV h y j := rfl
theorem hput_Vn {h : mH} {z i v y j : Int} (hy : y ≠ z) : hpV (hput h z i v) y j = hpV h y j := by rw [hput_V, if_neg (fun w => hy w.1)]
theorem hcpy_N (h : mH) (a sp d dp n : Int) : hpN (hcpy h a sp d dp n) = hpN h := rfl
theorem hcpy_S (h : mH) (a sp d dp n : Int) : hpS (hcpy h a sp d dp n) = hpS h := rfl
theorem hcpy_T (h : mH) (a sp d dp n y : Int) : hpT (hcpy h a sp d dp n) y = hpT h y := rfl
theorem hcpy_L (h : mH) (a sp d dp n y : Int) : hpL (hcpy h a sp d dp n) y = hpL h y := rfl
theorem hcpy_V (h : mH) (a sp d dp n y j : Int) : hpV (hcpy h a sp d dp n) y j = if y = d ∧ dp ≤ j ∧ j < dp + n then hpV h a (sp + (j - dp)) else hpV h y j := rfl
theorem halc_N (h : mH) (t : Nat) (l s : Int) : hpN (halc h t l s) = hpN h + 1 := rfl
theorem halc_S (h : mH) (t : Nat) (l s : Int) : hpS (halc h t l s) = hpS h + s := rfl
theorem halc_T (h : mH) (t : Nat) (l s y : Int) : hpT (halc h t l s) y = if y = hpN h + 1 then t else hpT h y := rfl
theorem halc_L (h : mH) (t : Nat) (l s y : Int) : hpL (halc h t l s) y = if y = hpN h + 1 then l else hpL h y := rfl
theorem halc_V (h : mH) (t : Nat) (l s y j : Int) : hpV (halc h t l s) y j = if y = hpN h + 1 then 0 else hpV h y j := rfl
/-- a step that changes the heap, making no cell -/
def mStepH (G : mG) (M : mM) (pc pc' : Nat) (ls ls' st st' : List mV) (h h' : mH) : Prop :=
  ∀ (p : Program) (e : Env) (R : Room) (s : State) (m : MethodId) (args : Array Value) (below : List Frame) (meth : Method) (c : Code) (H : Heap) (locs : List Loc) (cells slots : Nat) (Q : State → Prop) (lsA : Array Slot) (mst : List Value),
    mCX G M p R s m args meth c → va_S (mA G) s.heap H locs → mRH G h H → mRL G M ls lsA → mRS G st mst →
    (∀ H' locs' lsB mst', va_S (mA G) s.heap H' locs' → mRH G h' H' → mRL G M ls' lsB → mRS G st' mst' → W p (gL G) e R s m args below meth c H' locs' cells slots Q (F0 m pc' lsB mst')) → W p (gL G) e R s m args below meth c H locs cells slots Q (F0 m pc lsA mst)
theorem j_stepH {G : mG} {M : mM} {pc pc' : Nat} {ls ls' st st' : List mV} {h h' : mH} {r : mR} (P : mStepH G M pc pc' ls ls' st st' h h') (hN : hpN h' = hpN h) (hS : hpS h' = hpS h) (k : mJ G M pc' ls' st' h' r) : mJ G M pc ls st h r :=
  ⟨⟨by rw [← hN]; exact k.1.1, by rw [← hS]; exact k.1.2⟩, fun p e R s m args below meth c H locs cells slots mc ms lsA mst hC hS0 hH hL hst h1 h2 h3 h4 =>
    P p e R s m args below meth c H locs cells slots _ lsA mst hC hS0 hH hL hst fun H' locs' lsB mst' g0 g1 g2 g3 => k.2 p e R s m args below meth c H' locs' cells slots mc ms lsB mst' hC g0 g1 g2 g3 (by rw [hN]; exact h1) (by rw [hS]; exact h2) h3 h4⟩
/-- a step that makes a cell of so many slots -/
def mStepA (G : mG) (M : mM) (pc pc' : Nat) (ls ls' st st' : List mV) (h h' : mH) (n : Nat) : Prop :=
  ∀ (p : Program) (e : Env) (R : Room) (s : State) (m : MethodId) (args : Array Value) (below : List Frame) (meth : Method) (c : Code) (H : Heap) (locs : List Loc) (cells slots : Nat) (Q : State → Prop) (lsA : Array Slot) (mst : List Value),
    mCX G M p R s m args meth c → va_S (mA G) s.heap H locs → mRH G h H → mRL G M ls lsA → mRS G st mst → cells + 1 ≤ R.cells → slots + n ≤ R.slots →
    (∀ H' lsB mst', va_S (mA G) s.heap H' locs → mRH G h' H' → mRL G M ls' lsB → mRS G st' mst' → W p (gL G) e R s m args below meth c H' locs (cells + 1) (slots + n) Q (F0 m pc' lsB mst')) → W p (gL G) e R s m args below meth c H locs cells slots Q (F0 m pc lsA mst)
theorem j_stepA {G : mG} {M : mM} {pc pc' : Nat} {ls ls' st st' : List mV} {h h' : mH} {r : mR} {n : Nat} (P : mStepA G M pc pc' ls ls' st st' h h' n) (hN : hpN h' = hpN h + 1) (hS : hpS h' = hpS h + n) (k : mJ G M pc' ls' st' h' r) : mJ G M pc ls st h r :=
  ⟨⟨by have := k.1.1; omega, by have := k.1.2; omega⟩, fun p e R s m args below meth c H locs cells slots mc ms lsA mst hC hS0 hH hL hst h1 h2 h3 h4 =>
    P p e R s m args below meth c H locs cells slots _ lsA mst hC hS0 hH hL hst (by have := k.1.1; omega) (by have := k.1.2; omega) fun H' lsB mst' g0 g1 g2 g3 => k.2 p e R s m args below meth c H' locs (cells + 1) (slots + n) mc ms lsB mst' hC g0 g1 g2 g3 (by omega) (by omega) h3 h4⟩
theorem va_S_set {A : Nat → Prop} {H0 H H1 : Heap} {locs : List Loc} {a k : Nat} (h : va_S A H0 H locs) (z : H1.size = H.size) (oq : ∀ q : Nat, q ≠ a → H1[q]? = H[q]?) (ha : A a) : va_S A H0 H1 (locs ++ [⟨a, k⟩]) := h.put z oq ha
section
variable {G : mG} {M : mM} {pc : Nat} {ls ls' st : List mV} {h : mH} {r : mR}
theorem j_istoreW {i : Nat} {a : Int} {X : Int → Option mR} {L : Int → List mV} (hd : decode (mB M) pc = .ok (.istore i, 2)) (he : ∀ x, lst1 ls i (0, x) = L x) (hr : wtv a X = some r) (k : ∀ x, X x = some r → mJ G M (pc + 2) (L x) st h r) (hi : i < ls.length := by exact Nat.le_of_ble_eq_true rfl) : mJ G M pc ls ((0, a) :: st) h r := j_istore hd (he a) (k a hr) hi
theorem j_istoreW_n {i : Fin 4} {a : Int} {X : Int → Option mR} {L : Int → List mV} (hd : decode (mB M) pc = .ok (.istore_n i, 1)) (he : ∀ x, lst1 ls (i : Nat) (0, x) = L x) (hr : wtv a X = some r) (k : ∀ x, X x = some r → mJ G M (pc + 1) (L x) st h r) (hi : (i : Nat) < ls.length := by exact Nat.le_of_ble_eq_true rfl) : mJ G M pc ls ((0, a) :: st) h r := j_istore_n hd (he a) (k a hr) hi
theorem j_lstoreW {i : Nat} {a : Int} {X : Int → Option mR} {L : Int → List mV} (hd : decode (mB M) pc = .ok (.lstore i, 2)) (he : ∀ x, lst2 ls i (1, x) = L x) (hr : wtv a X = some r) (k : ∀ x, X x = some r → mJ G M (pc + 2) (L x) st h r) (hi : i + 1 < ls.length := by exact Nat.le_of_ble_eq_true rfl) : mJ G M pc ls ((1, a) :: st) h r := j_lstore hd (he a) (k a hr) hi
theorem j_lstoreW_n {i : Fin 4} {a : Int} {X : Int → Option mR} {L : Int → List mV} (hd : decode (mB M) pc = .ok (.lstore_n i, 1)) (he : ∀ x, lst2 ls (i : Nat) (1, x) = L x) (hr : wtv a X = some r) (k : ∀ x, X x = some r → mJ G M (pc + 1) (L x) st h r) (hi : (i : Nat) + 1 < ls.length := by exact Nat.le_of_ble_eq_true rfl) : mJ G M pc ls ((1, a) :: st) h r := j_lstore_n hd (he a) (k a hr) hi
theorem j_astoreW {i : Nat} {a : Int} {X : Int → Option mR} {L : Int → List mV} (hd : decode (mB M) pc = .ok (.astore i, 2)) (he : ∀ x, lst1 ls i (2, x) = L x) (hr : wtv a X = some r) (k : ∀ x, X x = some r → mJ G M (pc + 2) (L x) st h r) (hi : i < ls.length := by exact Nat.le_of_ble_eq_true rfl) : mJ G M pc ls ((2, a) :: st) h r := j_astore hd (he a) (k a hr) hi
theorem j_astoreW_n {i : Fin 4} {a : Int} {X : Int → Option mR} {L : Int → List mV} (hd : decode (mB M) pc = .ok (.astore_n i, 1)) (he : ∀ x, lst1 ls (i : Nat) (2, x) = L x) (hr : wtv a X = some r) (k : ∀ x, X x = some r → mJ G M (pc + 1) (L x) st h r) (hi : (i : Nat) < ls.length := by exact Nat.le_of_ble_eq_true rfl) : mJ G M pc ls ((2, a) :: st) h r := j_astore_n hd (he a) (k a hr) hi
theorem j_iincW {i : Nat} {n a : Int} {X : Int → Option mR} {L : Int → List mV} (hd : decode (mB M) pc = .ok (.iinc i n, 3)) (hl : ls[i]? = some (0, a)) (he : ∀ x, lst1 ls i (0, x) = L x) (hr : wtv (w32 (a + n)) X = some r) (k : ∀ x, X x = some r → mJ G M (pc + 3) (L x) st h r) (hi : i < ls.length := by exact Nat.le_of_ble_eq_true rfl) (hn : -2147483648 ≤ n ∧ n < 2147483648 := by decide) : mJ G M pc ls st h r := j_iinc hd hl (he _) (k _ hr) hi hn
/-- putfield -/
theorem j_put0 {idx c k tg : Nat} {a v : Int} {tw : FieldType} {h' : mH} (hd : decode (mB M) pc = .ok (.putfield idx, 3)) (hf : mFld M idx c k tg) (hw : mFldW M idx c k tw) (ht : hpT h a = c + 1) (hfit : ∀ val, mRV G (tg, v) val → narrow tw val = val ∧ fits tw val = true) (he : hput h a k v = h') (kn : mJ G M (pc + 3) ls st h' r) : mJ G M pc ls ((tg, v) :: (2, a) :: st) h r := by
  obtain ⟨C, T, N, ty, f1, f2, f3, f4, f5, f6, f7, f8⟩ := hf
  obtain ⟨C2, T2, N2, w1, w2, w3⟩ := hw
  cases Option.some.inj (f1.symm.trans w1)
  subst he
  refine j_stepH (fun p e R s m args below meth c9 H locs cells slots Q lsA mst hC hS hH hL hst kk => ?_) (hput_N _ _ _ _) (hput_S _ _ _ _) kn
  obtain ⟨hx, hb, hml, hr1, hlk, htb, hown, hnm, hts, henv, hR, g⟩ := hC
  obtain ⟨val, m1, rfl, hval, hst1⟩ := mRS_c hst
  obtain ⟨m2, rfl, hst2⟩ := mRS_r hst1
  obtain ⟨ha, C', T', N', fs, q1, q2, q3, q4⟩ := mRH_o hH ht f2
  cases Option.some.inj (f1.symm.trans q1)
  rw [mr_pos ha]
  have hK := mK_s g henv
  have hin : ∀ w ∈ u_ws C T N, w.before args s = true := fun w hw => hts w (f5 w hw)
  have hap := va_apart (own := mO M) (Ts := u_ws C T N) hin (fun w hw => hw) ty f6 f7 hK f1
  obtain ⟨r0, h1, cell, z1, z2, z3, z4⟩ := q2
  have hr0 : r0 = (C, T, N) := Option.some.inj (h1.symm.trans f1)
  subst hr0
  obtain ⟨hSl, hfc, kC, hkC, hkind⟩ := hK.1 c _ f1
  obtain ⟨cf, kf, fi, f, hi, hsl⟩ := hSl k f3
  have hlay := hin _ (u_in_lay f3)
  have hst9 := (u_facts hfc hkC (u_lays (ws := u_ws C T N) hin (fun w hw => hw) f3) hi).1
  obtain ⟨hn9, hf9⟩ := hfit val hval
  have hk : k < fs.length := by rw [q3]; exact f3
  have fin : ∀ (H' : Heap) (locs' : List Loc), H'[mad G a]? = some (cell.setSlot f.slot val) → H'.size = H.size → (∀ q, q ≠ mad G a → H'[q]? = H[q]?) → locs' = locs ++ [⟨mad G a, f.slot⟩] → W p (gL G) e R s m args below meth c9 H' locs' cells slots Q (F0 m (pc + 3) lsA m2) := by
    intro H' locs' e1 e2 e3 e4
    subst e4
    rw [hsl] at e1
    refine kk H' _ lsA m2 (hS.put e2 e3 (mA_ad G a)) ?_ hL hst2
    refine mRH_set hH (by omega) e2 e3 (e' := .inr (c, fs.set k val)) ⟨_, f1, t_OB.to (V := updV (vp_V fs) k val) ⟨_, e1, z2, z3, t_set z4 hap f3 val⟩ (fun j _ => vp_updV_set hk val j)⟩ (hput_N _ _ _ _) (fun y => rfl) (fun y => rfl) (fun y j hy => hput_Vn hy) ?_
    unfold mRE
    rw [hput_T, if_pos (by omega), ht, Nat.add_sub_cancel]
    refine ⟨C, T, N, _, f1, rfl, by rw [List.length_set]; exact q3, fun j u hj => ?_⟩
    rw [hput_V]
    by_cases hjk : j = k
    · subst hjk
      rw [List.getElem?_set_self hk] at hj
      rw [if_pos ⟨rfl, rfl⟩, ← Option.some.inj hj, f4]
      exact hval
    · rw [List.getElem?_set_ne (Ne.symm hjk)] at hj
      rw [if_neg (fun w => hjk (by have := w.2; omega))]
      exact q4 j u hj
  rcases w2 with w2 | ⟨w2, w4, w5, w6⟩
  · unfold u_lay at hlay
    rw [if_neg (by rw [w2]; decide)] at hlay
    have h6 := u_store hfc hkC hkind hlay hi w3 hn9 hf9
    rcases f8 with f8 | ⟨host, f8⟩
    · exact W.putK hx hb (f := f) ⟨hown, hts _ f8, ⟨_, _, _, hi⟩, hst9⟩ (by rw [z2]; exact h6) z1 z3 (by rw [hsl]; exact k2_hasslot (z4 k f3)) rfl rfl hd fun H' e1 e2 e3 => fin H' _ e1 e2 e3 rfl
    · exact va_WputK hx hb (f := f) hown (mTN_use g henv f8) hi hst9 (by rw [z2]; exact h6) z1 z3 (by rw [hsl]; exact k2_hasslot (z4 k f3)) rfl rfl hd fun H' e1 e2 e3 => fin H' _ e1 e2 e3 rfl
  · unfold u_lay at hlay
    rw [if_pos w2] at hlay
    have hcf : m.cls = cf := by
      obtain ⟨_, _, c', _, _, _, -, -, hf', -, -, -, hown2, -⟩ := Cond.laysFinal_spec hlay
      have e1 : c' = cf := by have := hi.symm.trans hf'; simp at this; exact this.1.symm
      rw [w5] at hown2
      rw [← e1]; exact Option.some.inj (hown.symm.trans hown2)
    have h6 := u_fits hfc hkC hkind (Or.inr hlay) hi w3 hn9 hf9
    exact W.putFinK hx hb hown (hts _ w6) hi hst9 hcf (hnm.trans w4) (by rw [z2]; exact h6) z1 z3 (by rw [hsl]; exact k2_hasslot (z4 k f3)) rfl rfl hd fun H' e1 e2 e3 => fin H' _ e1 e2 e3 rfl
theorem j_puti {idx c k : Nat} {a v : Int} {X : mH → Option mR} (hd : decode (mB M) pc = .ok (.putfield idx, 3)) (hf : mFld M idx c k 0) (hw : mFldW M idx c k .int) (hr : chk (hpT h a = c + 1) (wth (hput h a k v) X) = some r) (kn : ∀ h', X h' = some r → mJ G M (pc + 3) ls st h' r) : mJ G M pc ls ((0, v) :: (2, a) :: st) h r := by
  obtain ⟨ht, hr⟩ := chk_some hr
  refine j_put0 hd hf hw ht (fun val hv => ?_) rfl (kn _ hr)
  obtain ⟨x, rfl, -⟩ := mRV_i hv
  exact ⟨rfl, rfl⟩
theorem mr_isref (G : mG) (v : Int) : mr G v = .null ∨ ∃ q, mr G v = .ref q := by
  unfold mr
  split
  · exact Or.inl rfl
  · split
    · exact Or.inr ⟨_, rfl⟩
    · exact Or.inr ⟨_, rfl⟩
theorem j_puta {idx c k : Nat} {a v : Int} {tw : FieldType} {X : mH → Option mR} (hd : decode (mB M) pc = .ok (.putfield idx, 3)) (hf : mFld M idx c k 2) (hw : mFldW M idx c k tw) (htw : (∃ n, tw = .object n) ∨ ∃ t, tw = .array t) (hr : chk (hpT h a = c + 1) (wth (hput h a k v) X) = some r) (kn : ∀ h', X h' = some r → mJ G M (pc + 3) ls st h' r) : mJ G M pc ls ((2, v) :: (2, a) :: st) h r := by
  obtain ⟨ht, hr⟩ := chk_some hr
  refine j_put0 hd hf hw ht (fun val hv => ?_) rfl (kn _ hr)
  rw [mRV_r hv]
  rcases htw with ⟨n, rfl⟩ | ⟨t, rfl⟩ <;> rcases mr_isref G v with e | ⟨q, e⟩ <;> rw [e] <;> exact ⟨rfl, rfl⟩
theorem j_putz {idx c k : Nat} {a v : Int} {X : mH → Option mR} (hd : decode (mB M) pc = .ok (.putfield idx, 3)) (hf : mFld M idx c k 0) (hw : mFldW M idx c k .boolean) (hr : chk (hpT h a = c + 1) (chk (v = 0 ∨ v = 1) (wth (hput h a k v) X)) = some r) (kn : ∀ h', X h' = some r → mJ G M (pc + 3) ls st h' r) : mJ G M pc ls ((0, v) :: (2, a) :: st) h r := by
  obtain ⟨ht, hr⟩ := chk_some hr
  obtain ⟨hv, hr⟩ := chk_some hr
  refine j_put0 hd hf hw ht (fun val hval => ?_) rfl (kn _ hr)
  obtain ⟨x, rfl, hx⟩ := mRV_i hval
  have : x = 0 ∨ x = 1 := by
    rcases hv with h0 | h0
    · left; rw [← Int32.toInt_inj, hx, h0]; rfl
    · right; rw [← Int32.toInt_inj, hx, h0]; rfl
  rcases this with rfl | rfl <;> exact ⟨rfl, rfl⟩
theorem mSZ (cA : ClassId) (n : Nat) (f : Nat → Value) : (arrV cA n f).slots.size = n := arrV_size cA n f
/-- an int row's place is written -/
theorem j_iastore {a i v : Int} {X : mH → Option mR} (hd : decode (mB M) pc = .ok (.iastore, 1)) (hr : chk (hpT h a = 21) (chk (0 ≤ i ∧ i < hpL h a) (wth (hput h a i v) X)) = some r) (kn : ∀ h', X h' = some r → mJ G M (pc + 1) ls st h' r) : mJ G M pc ls ((0, v) :: (0, i) :: (2, a) :: st) h r := by
  obtain ⟨ht, hr⟩ := chk_some hr
  obtain ⟨hi, hr⟩ := chk_some hr
  refine j_stepH (fun p e R s m args below meth c9 H locs cells slots Q lsA mst hC hS hH hL hst kk => ?_) (hput_N _ _ _ _) (hput_S _ _ _ _) (kn _ hr)
  obtain ⟨hx, hb, hml, hr1, hlk, htb, hown, hnm, hts, henv, hR, g⟩ := hC
  obtain ⟨y, m1, rfl, rfl, hst1⟩ := mRS_i hst
  obtain ⟨x, m2, rfl, rfl, hst2⟩ := mRS_i hst1
  obtain ⟨m3, rfl, hst3⟩ := mRS_r hst2
  obtain ⟨ha, n, f, q1, q2, q3, q4⟩ := mRH_i hH ht (Or.inl rfl)
  rw [mr_pos ha]
  obtain ⟨i1, i2, i3⟩ := mIx (x := x) (n := n) (by omega)
  have hK := mK_s g henv
  refine W.iast hx hb q1 ((hK.2 0 _ rfl).1 n (fun j => .int (f j))) (fun q => by cases q) (by show ¬ (x < 0 ∨ (arrV _ _ _).slots.size ≤ _); rw [arrV_size]; exact i1) rfl rfl hd fun H1 e1 e2 e3 => ?_
  refine kk H1 _ lsA m3 (hS.put e2 e3 (mA_ad G a)) ?_ hL hst3
  refine mRH_set hH (by omega) e2 e3 (e' := .inl (gC G 21, n, .inl (upd f x.toNatClampNeg y))) ?_ (hput_N _ _ _ _) (fun y => rfl) (fun y => rfl) (fun y j hy => hput_Vn hy) ?_
  · show H1[mad G a]? = some (vp_cell _ _)
    rw [e1, vp_cell_i, vp_cell_i, arrV_store]
    congr 2
    funext q
    by_cases hq : q = x.toNatClampNeg
    · subst hq; simp [updV, upd]
    · simp [updV, upd, hq]
  · unfold mRE
    rw [hput_T, hput_L, if_neg (by omega), if_neg (by omega), if_neg (by omega), ht]
    refine ⟨Or.inl rfl, n, _, rfl, q2, q3, fun j hj => ?_⟩
    rw [hput_V]
    by_cases hjk : j = x.toNatClampNeg
    · subst hjk
      rw [if_pos ⟨rfl, i3⟩]
      simp [upd]
    · rw [if_neg (fun w => hjk (by have := w.2; omega)), q4 j hj]
      simp [upd, hjk]
theorem j_lastore {a i v : Int} {X : mH → Option mR} (hd : decode (mB M) pc = .ok (.lastore, 1)) (hr : chk (hpT h a = 22) (chk (0 ≤ i ∧ i < hpL h a) (wth (hput h a i v) X)) = some r) (kn : ∀ h', X h' = some r → mJ G M (pc + 1) ls st h' r) : mJ G M pc ls ((1, v) :: (0, i) :: (2, a) :: st) h r := by
  obtain ⟨ht, hr⟩ := chk_some hr
  obtain ⟨hi, hr⟩ := chk_some hr
  refine j_stepH (fun p e R s m args below meth c9 H locs cells slots Q lsA mst hC hS hH hL hst kk => ?_) (hput_N _ _ _ _) (hput_S _ _ _ _) (kn _ hr)
  obtain ⟨hx, hb, hml, hr1, hlk, htb, hown, hnm, hts, henv, hR, g⟩ := hC
  obtain ⟨y, m1, rfl, rfl, hst1⟩ := mRS_l hst
  obtain ⟨x, m2, rfl, rfl, hst2⟩ := mRS_i hst1
  obtain ⟨m3, rfl, hst3⟩ := mRS_r hst2
  obtain ⟨ha, n, f, q1, q2, q3, q4⟩ := mRH_l hH ht
  rw [mr_pos ha]
  obtain ⟨i1, i2, i3⟩ := mIx (x := x) (n := n) (by omega)
  have hK := mK_s g henv
  refine W.last hx hb q1 ((hK.2 1 _ rfl).1 n (fun j => .long (f j))) (fun q => by cases q) (by show ¬ (x < 0 ∨ (arrV _ _ _).slots.size ≤ _); rw [arrV_size]; exact i1) rfl rfl hd fun H1 e1 e2 e3 => ?_
  refine kk H1 _ lsA m3 (hS.put e2 e3 (mA_ad G a)) ?_ hL hst3
  refine mRH_set hH (by omega) e2 e3 (e' := .inl (gC G 22, n, .inr (.inl (vp_updL f x.toNatClampNeg y)))) ?_ (hput_N _ _ _ _) (fun y => rfl) (fun y => rfl) (fun y j hy => hput_Vn hy) ?_
  · show H1[mad G a]? = some (vp_cell _ _)
    rw [e1, vp_cell_l, vp_cell_l, arrV_store]
    congr 2
    funext q
    by_cases hq : q = x.toNatClampNeg
    · subst hq; simp [updV, vp_updL]
    · simp [updV, vp_updL, hq]
  · unfold mRE
    rw [hput_T, hput_L, if_neg (by omega), if_pos ht]
    refine ⟨n, _, rfl, q2, q3, fun j hj => ?_⟩
    rw [hput_V]
    by_cases hjk : j = x.toNatClampNeg
    · subst hjk
      rw [if_pos ⟨rfl, i3⟩]
      simp [vp_updL]
    · rw [if_neg (fun w => hjk (by have := w.2; omega)), q4 j hj]
      simp [vp_updL, hjk]
theorem j_bastore {a i v : Int} {X : mH → Option mR} (hd : decode (mB M) pc = .ok (.bastore, 1)) (hr : chk (hpT h a = 23) (chk (0 ≤ i ∧ i < hpL h a) (wth (hput h a i (w8 v)) X)) = some r) (kn : ∀ h', X h' = some r → mJ G M (pc + 1) ls st h' r) : mJ G M pc ls ((0, v) :: (0, i) :: (2, a) :: st) h r := by
  obtain ⟨ht, hr⟩ := chk_some hr
  obtain ⟨hi, hr⟩ := chk_some hr
  refine j_stepH (fun p e R s m args below meth c9 H locs cells slots Q lsA mst hC hS hH hL hst kk => ?_) (hput_N _ _ _ _) (hput_S _ _ _ _) (kn _ hr)
  obtain ⟨hx, hb, hml, hr1, hlk, htb, hown, hnm, hts, henv, hR, g⟩ := hC
  obtain ⟨y, m1, rfl, rfl, hst1⟩ := mRS_i hst
  obtain ⟨x, m2, rfl, rfl, hst2⟩ := mRS_i hst1
  obtain ⟨m3, rfl, hst3⟩ := mRS_r hst2
  obtain ⟨ha, n, f, q1, q2, q3, q4⟩ := mRH_i hH ht (Or.inr (Or.inl rfl))
  rw [mr_pos ha]
  obtain ⟨i1, i2, i3⟩ := mIx (x := x) (n := n) (by omega)
  have hK := mK_s g henv
  refine W.bast hx hb q1 ((hK.2 2 _ rfl).1 n (fun j => .int (f j))) (fun q => by cases q) (by show ¬ (x < 0 ∨ (arrV _ _ _).slots.size ≤ _); rw [arrV_size]; exact i1) rfl rfl hd fun H1 e1 e2 e3 => ?_
  refine kk H1 _ lsA m3 (hS.put e2 e3 (mA_ad G a)) ?_ hL hst3
  refine mRH_set hH (by omega) e2 e3 (e' := .inl (gC G 23, n, .inl (upd f x.toNatClampNeg y.toInt8.toInt32))) ?_ (hput_N _ _ _ _) (fun y => rfl) (fun y => rfl) (fun y j hy => hput_Vn hy) ?_
  · show H1[mad G a]? = some (vp_cell _ _)
    rw [e1, vp_cell_i, vp_cell_i, arrV_store]
    congr 2
    funext q
    by_cases hq : q = x.toNatClampNeg
    · subst hq; simp [updV, upd, narrow]
    · simp [updV, upd, hq]
  · unfold mRE
    rw [hput_T, hput_L, if_neg (by omega), if_neg (by omega), if_neg (by omega), ht]
    refine ⟨Or.inr (Or.inl rfl), n, _, rfl, q2, q3, fun j hj => ?_⟩
    rw [hput_V]
    by_cases hjk : j = x.toNatClampNeg
    · subst hjk
      rw [if_pos ⟨rfl, i3⟩]
      simp only [upd, if_true]
      exact (i32_i2b y).symm
    · rw [if_neg (fun w => hjk (by have := w.2; omega)), q4 j hj]
      simp [upd, hjk]
theorem j_zastore {a i v : Int} {X : mH → Option mR} (hd : decode (mB M) pc = .ok (.bastore, 1)) (hr : chk (hpT h a = 24) (chk (0 ≤ i ∧ i < hpL h a) (chk (v = 0 ∨ v = 1) (wth (hput h a i v) X))) = some r) (kn : ∀ h', X h' = some r → mJ G M (pc + 1) ls st h' r) : mJ G M pc ls ((0, v) :: (0, i) :: (2, a) :: st) h r := by
  obtain ⟨ht, hr⟩ := chk_some hr
  obtain ⟨hi, hr⟩ := chk_some hr
  obtain ⟨hv, hr⟩ := chk_some hr
  refine j_stepH (fun p e R s m args below meth c9 H locs cells slots Q lsA mst hC hS hH hL hst kk => ?_) (hput_N _ _ _ _) (hput_S _ _ _ _) (kn _ hr)
  obtain ⟨hx, hb, hml, hr1, hlk, htb, hown, hnm, hts, henv, hR, g⟩ := hC
  obtain ⟨y, m1, rfl, hy, hst1⟩ := mRS_i hst
  obtain ⟨x, m2, rfl, rfl, hst2⟩ := mRS_i hst1
  obtain ⟨m3, rfl, hst3⟩ := mRS_r hst2
  obtain ⟨ha, n, f, q1, q2, q3, q4⟩ := mRH_i hH ht (Or.inr (Or.inr rfl))
  rw [mr_pos ha]
  obtain ⟨i1, i2, i3⟩ := mIx (x := x) (n := n) (by omega)
  have hK := mK_s g henv
  have hy1 : narrow .boolean (.int y) = .int y := by
    have : y = 0 ∨ y = 1 := by
      rcases hv with h0 | h0
      · left; rw [← Int32.toInt_inj, hy, h0]; rfl
      · right; rw [← Int32.toInt_inj, hy, h0]; rfl
    rcases this with rfl | rfl <;> rfl
  refine W.zast hx hb q1 ((hK.2 3 _ rfl).1 n (fun j => .int (f j))) (fun q => by cases q) (by show ¬ (x < 0 ∨ (arrV _ _ _).slots.size ≤ _); rw [arrV_size]; exact i1) rfl rfl hd fun H1 e1 e2 e3 => ?_
  rw [hy1] at e1
  refine kk H1 _ lsA m3 (hS.put e2 e3 (mA_ad G a)) ?_ hL hst3
  refine mRH_set hH (by omega) e2 e3 (e' := .inl (gC G 24, n, .inl (upd f x.toNatClampNeg y))) ?_ (hput_N _ _ _ _) (fun y => rfl) (fun y => rfl) (fun y j hy => hput_Vn hy) ?_
  · show H1[mad G a]? = some (vp_cell _ _)
    rw [e1, vp_cell_i, vp_cell_i, arrV_store]
    congr 2
    funext q
    by_cases hq : q = x.toNatClampNeg
    · subst hq; simp [updV, upd]
    · simp [updV, upd, hq]
  · unfold mRE
    rw [hput_T, hput_L, if_neg (by omega), if_neg (by omega), if_neg (by omega), ht]
    refine ⟨Or.inr (Or.inr rfl), n, _, rfl, q2, q3, fun j hj => ?_⟩
    rw [hput_V]
    by_cases hjk : j = x.toNatClampNeg
    · subst hjk
      rw [if_pos ⟨rfl, i3⟩]
      simp [upd, hy]
    · rw [if_neg (fun w => hjk (by have := w.2; omega)), q4 j hj]
      simp [upd, hjk]
end
