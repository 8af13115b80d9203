/-! FACTS THAT FIT -/
theorem i64_ofInt (z : Int) : (Int64.ofInt z).toInt = w64 z := by rw [Int64.toInt_ofInt, ← w64_bmod]
theorem qland1 (x : Int) : qland x 1 = x % 2 := by
  unfold qland
  have e : ((Int64.ofInt x &&& Int64.ofInt 1)).toBitVec = BitVec.ofInt 64 (x % 2) := by
    show (BitVec.ofInt 64 x &&& 1#64) = _
    apply BitVec.eq_of_toNat_eq
    rw [BitVec.toNat_and, BitVec.toNat_ofInt, BitVec.toNat_ofInt]
    rw [show (1#64).toNat = 1 by decide, Nat.and_one_is_mod]
    omega
  show BitVec.toInt _ = _
  rw [e, BitVec.toInt_ofInt]
  exact Int.bmod_eq_of_le (by omega) (by omega)
theorem qlshr1 {a : Int} (ha : -9223372036854775808 ≤ a) (ha2 : a < 9223372036854775808) : qlshr a 1 = a / 2 := by
  unfold qlshr
  show ((Int64.ofInt a).toBitVec.sshiftRight' (((Int32.ofInt 1).toInt64 &&& 63).toBitVec.smod 64)).toInt = _
  rw [BitVec.sshiftRight', BitVec.toInt_sshiftRight, show (((Int32.ofInt 1).toInt64 &&& 63).toBitVec.smod 64).toNat = 1 by decide +kernel, Int.shiftRight_eq_div_pow]
  rw [show (Int64.ofInt a).toBitVec.toInt = a from ?_]
  · norm_cast
  · show (Int64.ofInt a).toInt = a
    rw [i64_ofInt, w64_id ha ha2]
abbrev tF : Type := (Int → Int) × Int
def fA (S : tF) (ok : Bool) (code : Int) : tF := if ok = true then (u1 S.1 S.2 code, S.2 + 1) else S
def fOK (t : tT) (N : Int → Int) (m : Nat) (c nt a : Int) : Bool := allN (fun i => (decide (dg t (N i / 2) c = a) == decide (nt = 0)) == decide (N i % 2 = 1)) m
def fnt (t : tT) (c k : Int) : Int := if k < pl t c then 0 else 1
def fI (t : tT) (N : Int → Int) (m : Nat) (c : Int) (S : tF) : Nat → tF
  | 0 => S
  | k + 1 => fA (fI t N m c S k) (fOK t N m c (fnt t c k) (k - fnt t c k * pl t c)) (100 * c + 10 * fnt t c k + (k - fnt t c k * pl t c))
def fC (t : tT) (N : Int → Int) (m : Nat) (b : Int) : Nat → tF
  | 0 => (fun _ => 0, 0)
  | c + 1 => if (c : Int) = b then fC t N m b c else fI t N m c (fC t N m b c) (2 * pl t c).toNat
def fFS (t : tT) (N : Int → Int) (m : Nat) (b : Int) : tF := fC t N m b (nb t).toNat
theorem fA_rng (S : tF) (ok : Bool) (code : Int) : S.2 ≤ (fA S ok code).2 ∧ (fA S ok code).2 ≤ S.2 + 1 := by
  unfold fA; split
  · show S.2 ≤ S.2 + 1 ∧ S.2 + 1 ≤ S.2 + 1; omega
  · omega
theorem fI_rng (t : tT) (N : Int → Int) (m : Nat) (c : Int) (S : tF) : ∀ k : Nat, S.2 ≤ (fI t N m c S k).2 ∧ (fI t N m c S k).2 ≤ S.2 + k
  | 0 => by show S.2 ≤ S.2 ∧ S.2 ≤ S.2 + ((0 : Nat) : Int); omega
  | k + 1 => by
    have h1 := fI_rng t N m c S k
    have h2 := fA_rng (fI t N m c S k) (fOK t N m c (fnt t c k) (k - fnt t c k * pl t c)) (100 * c + 10 * fnt t c k + (k - fnt t c k * pl t c))
    rw [fI]; push_cast; omega
theorem fC_rng {t : tT} (W : WS t) (N : Int → Int) (m : Nat) (b : Int) : ∀ c : Nat, (c : Int) ≤ nb t → 0 ≤ (fC t N m b c).2 ∧ (fC t N m b c).2 ≤ 8 * c
  | 0, _ => by show (0 : Int) ≤ 0 ∧ (0 : Int) ≤ 8 * ((0 : Nat) : Int); omega
  | c + 1, h => by
    have h1 := fC_rng W N m b c (by omega)
    have h2 := fI_rng t N m c (fC t N m b c) (2 * pl t c).toNat
    have h3 := W.2.2.2.2.2.1 c (by omega) (by omega)
    rw [fC]; split
    · push_cast; omega
    · push_cast; omega
/-- a fact's number -/
def fcd (t : tT) (x : Int) : Prop := 0 ≤ x ∧ x < 900 ∧ x / 100 < nb t ∧ x % 10 < pl t (x / 100) ∧ (x / 10 % 10 = 0 ∨ x / 10 % 10 = 1)
def FV (t : tT) (S : tF) : Prop := 0 ≤ S.2 ∧ ∀ j, 0 ≤ j → j < S.2 → fcd t (S.1 j)
theorem fA_V {t : tT} {S : tF} (V : FV t S) {ok : Bool} {x : Int} (h : fcd t x) : FV t (fA S ok x) := by
  unfold fA; split
  · refine ⟨by show 0 ≤ S.2 + 1; have := V.1; omega, fun j g0 g1 => ?_⟩
    have g1 : j < S.2 + 1 := g1
    show fcd t (u1 S.1 S.2 x j)
    by_cases e : j = S.2
    · rw [e, u1_eq]; exact h
    · rw [u1_ne e]; exact V.2 j g0 (by omega)
  · exact V
theorem fcd_of {t : tT} (W : WS t) {c k : Int} (h0 : 0 ≤ c) (h1 : c < nb t) (g0 : 0 ≤ k) (g1 : k < 2 * pl t c) : fcd t (100 * c + 10 * fnt t c k + (k - fnt t c k * pl t c)) ∧ (100 * c + 10 * fnt t c k + (k - fnt t c k * pl t c)) / 100 = c ∧ (100 * c + 10 * fnt t c k + (k - fnt t c k * pl t c)) / 10 % 10 = fnt t c k ∧ (100 * c + 10 * fnt t c k + (k - fnt t c k * pl t c)) % 10 = k - fnt t c k * pl t c := by
  have hp := W.2.2.2.2.2.1 c h0 h1
  have hn := W.1
  have e : ∃ y, fnt t c k * pl t c = y ∧ (0 ≤ k - y ∧ k - y < pl t c) ∧ (fnt t c k = 0 ∨ fnt t c k = 1) := by
    unfold fnt; split
    · exact ⟨0, by omega, by omega, Or.inl rfl⟩
    · exact ⟨pl t c, by omega, by omega, Or.inr rfl⟩
  obtain ⟨y, e1, e2, e3⟩ := e
  rw [e1]
  have e4 : (100 * c + 10 * fnt t c k + (k - y)) / 100 = c := by omega
  refine ⟨⟨by omega, by omega, by omega, ?_, by omega⟩, e4, by omega, by omega⟩
  rw [e4]; omega
theorem fI_V {t : tT} (W : WS t) {N : Int → Int} {m : Nat} {c : Int} (h0 : 0 ≤ c) (h1 : c < nb t) {S : tF} (V : FV t S) : ∀ k : Nat, (k : Int) ≤ 2 * pl t c → FV t (fI t N m c S k)
  | 0, _ => V
  | k + 1, h => fA_V (fI_V W h0 h1 V k (by omega)) (fcd_of W h0 h1 (by omega) (by omega)).1
theorem fC_V {t : tT} (W : WS t) {N : Int → Int} {m : Nat} {b : Int} : ∀ c : Nat, (c : Int) ≤ nb t → FV t (fC t N m b c)
  | 0, _ => ⟨Int.le_refl _, fun j g0 g1 => absurd (show j < 0 from g1) (by omega)⟩
  | c + 1, h => by
    rw [fC]; split
    · exact fC_V W c (by omega)
    · have := W.2.2.2.2.2.1 c (by omega) (by omega)
      exact fI_V W (by omega) (by omega) (fC_V W c (by omega)) _ (by omega)
def FQ (M : aM) (S : tF) : Prop := M 71 3 = S.2 ∧ ∀ j, 0 ≤ j → j < S.2 → M 72 j = S.1 j
abbrev FT : aM → aM → Prop := Fs [72, 73, 74] 71 [3, 4, 5]
section
variable {h : mH} {c : Int} {p L : Int → Int} {M : aM} {E : Int → tT}
theorem KS.ft {M M' : aM} {L : Int → Int} {t : tT} (K : KS E M L t) (F : FT M M') : KS E M' L t := K.keep (fun v hv => F.1 v (by
  simp only [List.mem_cons, List.not_mem_nil, or_false, not_or]
  unfold kO at hv; omega) (by unfold kO at hv; omega)) (fun _ _ => rfl)
theorem FT.r {M M' : aM} (F : FT M M') : Fr cA M M' := fun v hv => F.1 v (fun q => hv (by
  simp only [List.mem_cons, List.not_mem_nil, or_false] at q
  rcases q with rfl | rfl | rfl <;> decide)) (fun q => hv (by subst q; decide))
theorem s_Fits_isAsTold (A : At h c p L M) {t : tT} (K : KS E M L t) {τ k a : Int} (hk : TK τ k a) {m : Nat} (hm : M k 2 = m) (hm2 : m ≤ 40) (hN : ∀ i, 0 ≤ i → i < (m : Int) → 0 ≤ M a i ∧ M a i < 2 * nS t) {d nt x : Int} (h0 : 0 ≤ d) (h1 : d < nb t) (hnt : nt = 0 ∨ nt = 1) : f_Fits_isAsTold h 71 5 k d nt x = some ((0, b2i (fOK t (M a) m d nt x)), h) := by
  have B := BH.of5 A K.R
  have T := A.tk hk
  have hS := nS_rng K.W
  unfold f_Fits_isAsTold
  refine loop_r (F := fun n (b : Int) => f_Fits_isAsTold_L3 5 k d nt x n h b) (P := fun o => o = some ((0, b2i (fOK t (M a) m d nt x)), h)) (fun i b => b = (i : Int) ∧ fOK t (M a) i d nt x = true) m (fun i hi b hb n => ?_) (fun b hb n => ?_) (i := 0) (b := 0) ⟨rfl, rfl⟩ (by omega) (by omega)
  · obtain ⟨rfl, hb⟩ := hb
    have hN1 := hN i (by omega) (by omega)
    show f_Fits_isAsTold_L3 5 k d nt x (n + 1) h i = _ ∨ ∃ b', _ ∧ f_Fits_isAsTold_L3 5 k d nt x (n + 1) h i = _
    rw [f_Fits_isAsTold_L3]
    simp only [T]
    rw [chk_t trivial, hm, if_neg (by omega), chk_t trivial, chk_t trivial, chk_t (by omega), wtv, chk_t B.T, qlshr1 (by omega) (by omega), w32_id (by omega) (by omega), s_Box_placeOf B K.W (by omega) (by omega) h0 h1, bndT_ok (by decide)]
    have stop : ((decide (dg t (M a i / 2) d = x) == decide (nt = 0)) == decide (M a i % 2 = 1)) = false → (0 : Int) = b2i (fOK t (M a) m d nt x) := fun q => by
      cases g : fOK t (M a) m d nt x
      · rfl
      · have := allN_iff.mp g i (by omega) (by omega)
        rw [q] at this; cases this
    have next : ((decide (dg t (M a i / 2) d = x) == decide (nt = 0)) == decide (M a i % 2 = 1)) = true → fOK t (M a) (i + 1) d nt x = true := fun q => by
      have e : fOK t (M a) (i + 1) d nt x = (fOK t (M a) i d nt x && ((decide (dg t (M a i / 2) d = x) == decide (nt = 0)) == decide (M a i % 2 = 1))) := rfl
      rw [e, hb, q]; rfl
    unfold f_Fits_isAsTold_J41 f_Fits_isAsTold_J57 f_Fits_isAsTold_J72 f_Fits_isAsTold_J80
    rw [qland1]
    simp only [qlcmp_eq]
    by_cases e1 : dg t (M a i / 2) d = x <;> by_cases e2 : M a i % 2 = 1 <;> rcases hnt with e3 | e3 <;> subst e3
    all_goals simp (decide := true) only [e1, e2, if_true, if_false]
    all_goals first
      | (left; rw [chk_t (by decide)]; exact congrArg (fun z : Int => (some ((0, z), h) : Option mR)) (stop (by simp [e1, e2])))
      | (right; rw [wtv, w32_n i (by omega)]; exact ⟨_, ⟨rfl, next (by simp [e1, e2])⟩, rfl⟩)
  · obtain ⟨rfl, hb⟩ := hb
    show f_Fits_isAsTold_L3 5 k d nt x (n + 1) h _ = _
    rw [f_Fits_isAsTold_L3]
    simp only [T]
    rw [chk_t trivial, hm, if_pos (by omega), chk_t (by decide), hb]; rfl
theorem s_Fits_facts {K0 : mH → Option mR} (A : At h c p L M) {t : tT} (K : KS E M L t) {τ k a : Int} (hk : TK τ k a) {m : Nat} (hm : M k 2 = m) (hm2 : m ≤ 40) (hN : ∀ i, 0 ≤ i → i < (m : Int) → 0 ≤ M a i ∧ M a i < 2 * nS t) {b d : Int} (h0 : 0 ≤ d) (h1 : d < nb t) (hbd : d ≠ b) {S : tF} (Q : FQ M S) (hS0 : 0 ≤ S.2) (hS : S.2 ≤ 8 * d) :
    ∃ h' M', f_Fits_find_L20 K0 71 5 k b d 1000000 h 0 = K0 h' ∧ At h' c p L M' ∧ FT M M' ∧ FQ M' (fI t (M a) m d S (2 * pl t d).toNat) := by
  have hp := K.W.2.2.2.2.2.1 d h0 h1
  have hn := K.W.1
  have hkr := hk.rg
  refine loop_r (F := fun n (x : mH × Int) => f_Fits_find_L20 K0 71 5 k b d n x.1 x.2) (P := fun o => ∃ h' M', o = K0 h' ∧ At h' c p L M' ∧ FT M M' ∧ FQ M' (fI t (M a) m d S (2 * pl t d).toNat)) (fun i x => x.2 = (i : Int) ∧ ∃ M', At x.1 c p L M' ∧ FT M M' ∧ FQ M' (fI t (M a) m d S i)) (2 * pl t d).toNat (fun i hi x hx n => ?_) (fun x hx n => ?_) (i := 0) (b := (h, 0)) ⟨rfl, M, A, Fs.rf _ _ _ _, Q⟩ (by omega) (by omega)
  · obtain ⟨h2, r⟩ := x
    obtain ⟨hr_, M2, A2_, F2, Q2⟩ := hx
    have hr : r = (i : Int) := hr_
    have A2 : At h2 c p L M2 := A2_
    clear hr_ A2_
    subst hr
    right
    have K2 := K.ft F2
    have B2 := BH.of5 A2 K2.R
    have C2 := A2.fi
    have e6 := B2.V6 d h0 h1
    have ek : M2 k = M k := F2.1 k (by simp; omega) (by omega)
    have ea : M2 a = M a := F2.1 a (by simp; omega) (by omega)
    have hI := fI_rng t (M a) m d S i
    have j57 : ∀ nt : Int, nt = fnt t d i → (nt = 0 ∨ nt = 1) → ∃ b' : mH × Int, (b'.2 = ((i + 1 : Nat) : Int) ∧ ∃ M', At b'.1 c p L M' ∧ FT M M' ∧ FQ M' (fI t (M a) m d S (i + 1))) ∧ f_Fits_find_J57 (f_Fits_find_L20 K0 71 5 k b d n) 71 5 k d i nt h2 = f_Fits_find_L20 K0 71 5 k b d n b'.1 b'.2 := by
      intro nt hnt hn2
      have e0 : w32 ((i : Int) - w32 (nt * pl t d)) = i - fnt t d i * pl t d := by
        rw [← hnt]
        rcases hn2 with e | e
        · rw [e, Int.zero_mul, w32_id (x := 0) (by decide) (by decide), w32_id (by omega) (by omega)]
        · rw [e, Int.one_mul, w32_id (x := pl t d) (by omega) (by omega), w32_id (by omega) (by omega)]
      unfold f_Fits_find_J57
      rw [chk_t B2.T, chk_t B2.T6, chk_t (by rw [B2.L6]; omega), wtv, e6, e0]
      simp only [C2]
      rw [chk_t trivial, s_Fits_isAsTold A2 K2 hk (by rw [ek]; exact hm) hm2 (by rw [ea]; exact hN) h0 h1 hn2, bndT_ok (by decide), ea]
      have hcd := (fcd_of K.W h0 h1 (show (0 : Int) ≤ i by omega) (show (i : Int) < 2 * pl t d by omega)).1
      have hf : fI t (M a) m d S (i + 1) = fA (fI t (M a) m d S i) (fOK t (M a) m d nt (i - fnt t d i * pl t d)) (100 * d + 10 * nt + (i - fnt t d i * pl t d)) := by rw [fI, hnt]
      rw [hf]
      rw [← hnt] at hcd ⊢
      cases g : fOK t (M a) m d nt (i - nt * pl t d)
      · rw [if_pos (by decide)]
        refine ⟨(h2, ((i + 1 : Nat) : Int)), ⟨rfl, M2, A2, F2, ?_⟩, ?_⟩
        · unfold fA; rw [if_neg (by decide)]; exact Q2
        · unfold f_Fits_find_J134; rw [wtv, w32_n i (by omega)]
      · have A3 := A2.aput (v := 72) (fI t (M a) m d S i).2 (100 * d + 10 * nt + (i - nt * pl t d)) (by decide) (by decide) (by decide) (by decide +kernel) (by decide) (by decide)
        have C3 := A3.fi
        have A4 := A3.fput (v := 71) (i := 3) ((fI t (M a) m d S i).2 + 1) (by decide) (by decide) (by decide) (by decide +kernel) (by decide)
        rw [if_neg (by decide)]
        simp only [C2]
        rw [chk_t trivial, chk_t trivial, chk_t (by decide), Q2.1, if_neg (by omega), chk_t trivial, chk_t trivial, chk_t trivial, chk_t (by omega)]
        have e9 : w32 (w32 (w32 (100 * d) + w32 (10 * nt)) + ((i : Int) - nt * pl t d)) = 100 * d + 10 * nt + (i - nt * pl t d) := by
          have := hcd.1
          have := hcd.2.1
          rw [w32_id (x := 100 * d) (by omega) (by omega), w32_id (x := 10 * nt) (by omega) (by omega), w32_id (x := 100 * d + 10 * nt) (by omega) (by omega), w32_id (by omega) (by omega)]
        rw [e9, wth]
        simp only [C3]
        rw [chk_t trivial, chk_t trivial, mup_fn (by decide), Q2.1, w32_id (by omega) (by omega), wth]
        refine ⟨(_, ((i + 1 : Nat) : Int)), ⟨rfl, _, A4, (F2.pu (by decide) (by decide)).ps (by decide), ?_⟩, ?_⟩
        · unfold fA
          rw [if_pos rfl]
          refine ⟨mup_eq _ _ _ _, fun j g0 g1 => ?_⟩
          have g1 : j < (fI t (M a) m d S i).2 + 1 := g1
          rw [mup_fn (by decide)]
          show mup M2 72 (fI t (M a) m d S i).2 _ 72 j = u1 (fI t (M a) m d S i).1 (fI t (M a) m d S i).2 _ j
          by_cases e : j = (fI t (M a) m d S i).2
          · rw [e, mup_eq, u1_eq]
          · rw [mup_ne (Or.inr e), u1_ne e]; exact Q2.2 j g0 (by omega)
        · unfold f_Fits_find_J134; rw [wtv, w32_n i (by omega)]; rfl
    show ∃ b' : mH × Int, _ ∧ f_Fits_find_L20 K0 71 5 k b d (n + 1) h2 i = _
    rw [f_Fits_find_L20, if_neg hbd, chk_t B2.T, chk_t B2.T6, chk_t (by rw [B2.L6]; omega), e6, w32_id (by omega) (by omega), if_neg (by omega), chk_t B2.T, chk_t B2.T6, chk_t (by rw [B2.L6]; omega)]
    by_cases e : pl t d ≤ i
    · rw [if_pos e]; exact j57 1 (by unfold fnt; rw [if_neg (by omega)]) (Or.inr rfl)
    · rw [if_neg e]; exact j57 0 (by unfold fnt; rw [if_pos (by omega)]) (Or.inl rfl)
  · obtain ⟨h2, r⟩ := x
    obtain ⟨hr_, M2, A2_, F2, Q2⟩ := hx
    have hr : r = ((2 * pl t d).toNat : Int) := hr_
    have A2 : At h2 c p L M2 := A2_
    clear hr_ A2_
    subst hr
    have K2 := K.ft F2
    have B2 := BH.of5 A2 K2.R
    have e6 := B2.V6 d h0 h1
    refine ⟨h2, M2, ?_, A2, F2, Q2⟩
    show f_Fits_find_L20 K0 71 5 k b d (n + 1) h2 _ = _
    rw [f_Fits_find_L20, if_neg hbd, chk_t B2.T, chk_t B2.T6, chk_t (by rw [B2.L6]; omega), e6, w32_id (by omega) (by omega), if_pos (by omega)]
theorem s_Fits_find (A : At h c p L M) {t : tT} (K : KS E M L t) {τ k a : Int} (hk : TK τ k a) {m : Nat} (hm : M k 2 = m) (hm2 : m ≤ 40) (hN : ∀ i, 0 ≤ i → i < (m : Int) → 0 ≤ M a i ∧ M a i < 2 * nS t) (b : Int) :
    ∃ h' M', f_Fits_find h 71 5 k b = some ((3, 0), h') ∧ At h' c p L M' ∧ FT M M' ∧ FQ M' (fFS t (M a) m b) := by
  have hn := K.W.1
  have hkr := hk.rg
  have C := A.fi
  have A1 := A.fput (v := 71) (i := 3) 0 (by decide) (by decide) (by decide) (by decide +kernel) (by decide)
  unfold f_Fits_find
  simp only [C]
  rw [chk_t trivial, wth]
  refine loop_r (F := fun n (x : mH × Int) => f_Fits_find_L8 71 5 k b n x.1 x.2) (P := fun o => ∃ h' M', o = some ((3, 0), h') ∧ At h' c p L M' ∧ FT M M' ∧ FQ M' (fFS t (M a) m b)) (fun d x => x.2 = (d : Int) ∧ ∃ M', At x.1 c p L M' ∧ FT M M' ∧ FQ M' (fC t (M a) m b d)) (nb t).toNat (fun d hd x hx n => ?_) (fun x hx n => ?_) (i := 0) (b := (hput h 71 3 0, 0)) ⟨rfl, _, A1, (Fs.rf _ _ _ _).ps (by decide), mup_eq _ _ _ _, fun j g0 g1 => absurd (show j < 0 from g1) (by omega)⟩ (by omega) (by omega)
  · obtain ⟨h2, r⟩ := x
    obtain ⟨hr_, M2, A2_, F2, Q2⟩ := hx
    have hr : r = (d : Int) := hr_
    have A2 : At h2 c p L M2 := A2_
    clear hr_ A2_
    subst hr
    right
    have K2 := K.ft F2
    have B2 := BH.of5 A2 K2.R
    have ek : M2 k = M k := F2.1 k (by simp; omega) (by omega)
    have ea : M2 a = M a := F2.1 a (by simp; omega) (by omega)
    have hc := fC_rng K.W (M a) m b d (by omega)
    show ∃ b' : mH × Int, _ ∧ f_Fits_find_L8 71 5 k b (n + 1) h2 d = _
    rw [f_Fits_find_L8, chk_t B2.T, B2.s2, if_neg (by omega)]
    by_cases e : (d : Int) = b
    · refine ⟨(h2, ((d + 1 : Nat) : Int)), ⟨rfl, M2, A2, F2, by rw [fC, if_pos e]; exact Q2⟩, ?_⟩
      rw [show (1000000 : Nat) = 999999 + 1 from rfl, f_Fits_find_L20, if_pos e]
      unfold f_Fits_find_J140
      rw [wtv, w32_n d (by omega)]
    · obtain ⟨h3, M3, f3, A3, F3, Q3⟩ := s_Fits_facts (K0 := fun h1 => f_Fits_find_J140 (f_Fits_find_L8 71 5 k b n) d h1) A2 K2 hk (by rw [ek]; exact hm) hm2 (by rw [ea]; exact hN) (b := b) (d := d) (by omega) (by omega) e Q2 hc.1 hc.2
      rw [f3]
      refine ⟨(h3, ((d + 1 : Nat) : Int)), ⟨rfl, M3, A3, F2.tr F3, by rw [fC, if_neg e]; rw [ea] at Q3; exact Q3⟩, ?_⟩
      show f_Fits_find_J140 _ _ h3 = _
      unfold f_Fits_find_J140
      rw [wtv, w32_n d (by omega)]
  · obtain ⟨h2, r⟩ := x
    obtain ⟨hr_, M2, A2_, F2, Q2⟩ := hx
    have hr : r = ((nb t).toNat : Int) := hr_
    have A2 : At h2 c p L M2 := A2_
    clear hr_ A2_
    subst hr
    have K2 := K.ft F2
    have B2 := BH.of5 A2 K2.R
    refine ⟨h2, M2, ?_, A2, F2, Q2⟩
    show f_Fits_find_L8 71 5 k b (n + 1) h2 _ = _
    rw [f_Fits_find_L8, chk_t B2.T, B2.s2, if_pos (by omega)]
/-- numbers that tell of stands -/
def abN (t : tT) (N : Int → Int) (m : Nat) : Bool := allN (fun i => decide (0 ≤ N i) && decide (N i < 2 * nS t)) m
theorem s_Tray_allBelow (A : At h c p L M) {τ k a : Int} (hk : TK τ k a) {m : Nat} (hm : M k 2 = m) (hm2 : m ≤ 40) (t : tT) : f_Tray_allBelow h k (2 * nS t) = some ((0, b2i (abN t (M a) m)), h) := by
  have T := A.tk hk
  unfold f_Tray_allBelow
  refine loop_r (F := fun n (b : Int) => f_Tray_allBelow_L2 k (2 * nS t) n h b) (P := fun o => o = some ((0, b2i (abN t (M a) m)), h)) (fun i b => b = (i : Int) ∧ abN t (M a) i = true) m (fun i hi b hb n => ?_) (fun b hb n => ?_) (i := 0) (b := 0) ⟨rfl, rfl⟩ (by omega) (by omega)
  · obtain ⟨rfl, hb⟩ := hb
    show f_Tray_allBelow_L2 k (2 * nS t) (n + 1) h i = _ ∨ ∃ b', _ ∧ f_Tray_allBelow_L2 k (2 * nS t) (n + 1) h i = _
    rw [f_Tray_allBelow_L2]
    simp only [T]
    rw [chk_t trivial, hm, if_neg (by omega), chk_t trivial, chk_t trivial, chk_t (by omega)]
    have stop : (decide (0 ≤ M a i) && decide (M a i < 2 * nS t)) = false → (0 : Int) = b2i (abN t (M a) m) := fun q => by
      cases g : abN t (M a) m
      · rfl
      · have := allN_iff.mp g i (by omega) (by omega)
        rw [q] at this; cases this
    by_cases e1 : M a i < 0
    · left
      rw [if_pos (qlcmp_lt.mpr e1), chk_t (by decide), stop (by rw [decide_eq_false (by omega)]; rfl)]
    · rw [if_neg (fun q => e1 (qlcmp_lt.mp q)), chk_t trivial, chk_t trivial, chk_t (by omega)]
      by_cases e2 : M a i < 2 * nS t
      · right
        rw [if_pos (qlcmp_lt.mpr e2), wtv, w32_n i (by omega)]
        refine ⟨_, ⟨rfl, ?_⟩, rfl⟩
        have e : abN t (M a) (i + 1) = (abN t (M a) i && (decide (0 ≤ M a i) && decide (M a i < 2 * nS t))) := rfl
        rw [e, hb, decide_eq_true (show 0 ≤ M a i by omega), decide_eq_true e2]; rfl
      · left
        rw [if_neg (fun q => e2 (qlcmp_lt.mp q)), chk_t (by decide), stop (by rw [decide_eq_false e2, Bool.and_false])]
  · obtain ⟨rfl, hb⟩ := hb
    show f_Tray_allBelow_L2 k (2 * nS t) (n + 1) h _ = _
    rw [f_Tray_allBelow_L2]
    simp only [T]
    rw [chk_t trivial, hm, if_pos (by omega), chk_t (by decide), hb]; rfl
theorem CR_fits (A : At h c p L M) {t : tT} (K : KS E M L t) {w τ : Int} (hw : -2147483648 ≤ w ∧ w < 2147483648) (hm : 0 ≤ τ → τ < 4 → -1 ≤ M (33 + 2 * τ) 2 ∧ M (33 + 2 * τ) 2 ≤ 40) {k : Int → mH → Option mR} {v : mV}
    (hv : nS t ≤ 20000 → ∀ h1 M1, At h1 c p L M1 → KS E M1 L t → FT M M1 → FQ M1 (fFS t (M (34 + 2 * τ)) (M (33 + 2 * τ) 2).toNat (w / 2)) → CR c M1 E t (k 0 h1) v) :
    CR c M E t (bndT 3 (f_Nb_findFits h 1 w τ) k) (if (0 ≤ w / 2 ∧ w / 2 < nb t) ∧ 0 ≤ τ ∧ τ < 4 then (if M (33 + 2 * τ) 2 ≠ -1 ∧ nS t ≤ 20000 then (if abN t (M (34 + 2 * τ)) (M (33 + 2 * τ) 2).toNat = true then v else (4, xA)) else (4, xS)) else (4, xN)) := by
  have B := BH.of5 A K.R
  have C := A.nb
  have hS := nS_rng K.W
  unfold f_Nb_findFits
  simp only [C]
  rw [qshr_eq hw.1 hw.2 (by decide) (by decide), show (2 : Int) ^ (1 : Int).toNat = 2 from rfl, chk_t trivial, s_Nb_needBar A K]
  by_cases g : 0 ≤ w / 2 ∧ w / 2 < nb t
  · rw [if_pos g, bndT_ok (by decide)]
    simp only [C]
    rw [chk_t trivial]
    rcases s_Nb_needTray A τ with ⟨g1, e⟩ | ⟨g1, e⟩
    · rw [e, bndT_ex, bndT_ex, if_neg (fun q => g1 q.2)]; exact CR_ex A K
    · have hm := hm g1.1 g1.2
      have hk := TK.of g1.1 g1.2
      have T := A.tk hk
      rw [e, if_pos (show (0 ≤ w / 2 ∧ w / 2 < nb t) ∧ 0 ≤ τ ∧ τ < 4 from ⟨g, g1⟩)]
      by_cases g2 : M (33 + 2 * τ) 2 = -1
      · rw [if_pos g2, bndT_ex, bndT_ex, if_neg (fun q => q.1 g2)]; exact CR_ex A K
      · rw [if_neg g2, bndT_ok (by decide)]
        simp only [C]
        rw [chk_t trivial, s_Nb_needFew A K]
        by_cases g3 : nS t ≤ 20000
        · have hmn : M (33 + 2 * τ) 2 = ((M (33 + 2 * τ) 2).toNat : Int) := by omega
          rw [if_pos g3, bndT_ok (by decide), if_pos (show M (33 + 2 * τ) 2 ≠ -1 ∧ nS t ≤ 20000 from ⟨g2, g3⟩)]
          simp only [C]
          rw [chk_t trivial, chk_t B.T, s_Box_standCount B K.W, bndT_ok (by decide)]
          simp only [T]
          rw [chk_t trivial, w64_id (by omega) (by omega), s_Tray_allBelow A hk hmn (by omega) t, bndT_ok (by decide)]
          cases g4 : abN t (M (34 + 2 * τ)) (M (33 + 2 * τ) 2).toNat
          · rw [if_pos (by decide), if_neg (by decide), bndT_ex]; exact CR_ex A K
          · have hN : ∀ i, 0 ≤ i → i < ((M (33 + 2 * τ) 2).toNat : Int) → 0 ≤ M (34 + 2 * τ) i ∧ M (34 + 2 * τ) i < 2 * nS t := fun i q0 q1 => by
              have := allN_iff.mp g4 i q0 q1
              simp only [Bool.and_eq_true, decide_eq_true_eq] at this; exact this
            obtain ⟨h1, M1, f1, A1, F1, Q1⟩ := s_Fits_find A K hk hmn (by omega) hN (w / 2)
            have D := A.fi
            rw [if_neg (by decide), if_pos rfl]
            simp only [C, D]
            rw [chk_t trivial, chk_t trivial, chk_t trivial, f1, bndT_ok (by decide), bndT_ok (by decide)]
            exact CR_mv F1.r (hv g3 h1 M1 A1 (K.ft F1) F1 Q1)
        · rw [if_neg g3, bndT_ex, bndT_ex, if_neg (fun q => g3 q.2)]; exact CR_ex A K
  · rw [if_neg g, bndT_ex, bndT_ex, if_neg (fun q => g q.1)]; exact CR_ex A K
def fiV (S : tF) (k : Int) : Int := if k = -1 then S.2 else if 0 ≤ k ∧ k < S.2 then S.1 k else -1
theorem c_fits (A : At h c p L M) {t : tT} (K : KS E M L t) {w τ : Int} (k : Int) (hw : -2147483648 ≤ w ∧ w < 2147483648) (hm : 0 ≤ τ → τ < 4 → -1 ≤ M (33 + 2 * τ) 2 ∧ M (33 + 2 * τ) 2 ≤ 40) :
    CR c M E t (f_Nb_fits h 1 w τ k) (if (0 ≤ w / 2 ∧ w / 2 < nb t) ∧ 0 ≤ τ ∧ τ < 4 then (if M (33 + 2 * τ) 2 ≠ -1 ∧ nS t ≤ 20000 then (if abN t (M (34 + 2 * τ)) (M (33 + 2 * τ) 2).toNat = true then (0, fiV (fFS t (M (34 + 2 * τ)) (M (33 + 2 * τ) 2).toNat (w / 2)) k) else (4, xA)) else (4, xS)) else (4, xN)) := by
  have C := A.nb
  unfold f_Nb_fits
  simp only [C]
  rw [chk_t trivial]
  refine CR_fits A K hw hm (fun hS2 h1 M1 A1 K1 F1 Q1 => ?_)
  have C1 := A1.nb
  have D1 := A1.fi
  have hc := fC_rng K.W (M (34 + 2 * τ)) (M (33 + 2 * τ) 2).toNat (w / 2) (nb t).toNat (by have := K.W.1; omega)
  have hc2 : (fFS t (M (34 + 2 * τ)) (M (33 + 2 * τ) 2).toNat (w / 2)).2 ≤ 72 := by
    have := K.W.1
    have := hc.2
    show (fC _ _ _ _ _).2 ≤ 72
    omega
  generalize fFS t (M (34 + 2 * τ)) (M (33 + 2 * τ) 2).toNat (w / 2) = S at Q1 hc2
  unfold fiV
  simp only [C1, D1]
  by_cases g : k = -1
  · rw [if_pos g, if_pos g, chk_t trivial, chk_t trivial, Q1.1]; exact CR_ok A1 K1
  · rw [if_neg g, if_neg g]
    unfold f_Nb_fits_J46
    by_cases g1 : k < 0
    · rw [if_pos g1, if_neg (by omega)]; exact CR_ok A1 K1
    · rw [if_neg g1, chk_t trivial, chk_t trivial, Q1.1]
      by_cases g2 : S.2 ≤ k
      · rw [if_pos g2, if_neg (by omega)]; exact CR_ok A1 K1
      · rw [if_neg g2, if_pos (by omega), chk_t trivial, chk_t trivial, chk_t trivial, chk_t (by omega), Q1.2 k (by omega) (by omega)]
        exact CR_ok A1 K1
end
