/-! LINES TO KEEP, in the class -/
def wln (t : tT) (S : tB) (z : Int) (i : Nat) : Int := lnx t S (wlk t S z i)
def ldV (t : tT) (S : tB) (z : Int) (i : Nat) (v : Int) : Nat → Int
  | 0 => nF t (wlk t S z i) v
  | m + 1 => if ldV t S z i v m = -1 then -1 else nF t (ldV t S z i v m) (wln t S z (i + 1 + m))
def ldT (t : tT) (x y : Int) : Bool := anyN (fun w => gs t x w && decide (x + sf t w = y)) (nK t)
def kcQ (t : tT) (S : tB) (z : Int) (i m : Nat) (v : Int) : Bool := decide (ldV t S z i v m ≠ -1) && ldT t (ldV t S z i v m) (wlk t S z (i + 1 + m + 1))
def kc (t : tT) (S : tB) (z : Int) (i m : Nat) : Int := cnN (kcQ t S z i m) 18
abbrev tK : Type := Int × Int × Int
def kJ (t : tT) (S : tB) (z : Int) (i : Nat) (K : tK) : Nat → tK
  | 0 => K
  | m + 1 => if (kJ t S z i K m).1 < kc t S z i m then (kc t S z i m, (i : Int), ((i + 1 + m : Nat) : Int)) else kJ t S z i K m
def kI (t : tT) (S : tB) (z : Int) (len : Nat) : Nat → tK
  | 0 => (0, -1, -1)
  | i + 1 => kJ t S z i (kI t S z len i) (len - (i + 1))
abbrev FK : aM → aM → Prop := Fs [68, 69, 70] 67 [3, 4, 5, 6]
theorem nF_rng {t : tT} (W : WS t) {s v : Int} (h0 : 0 ≤ s) (h1 : s < nS t) : nF t s v = -1 ∨ (gs t s v = true ∧ nF t s v = s + sf t v ∧ 0 ≤ nF t s v ∧ nF t s v < nS t ∧ 0 ≤ v ∧ v < 2 * nb t) := by
  by_cases e : nF t s v = -1
  · exact Or.inl e
  · right
    have := th_rng W h0 h1 e
    have h2 := gs_to W h0 h1 this.1
    have e2 : nF t s v = s + sf t v := this.2.1
    exact ⟨this.1, e2, by omega, by omega, h2.1.1, h2.1.2⟩
theorem ldV_rng {t : tT} (W : WS t) {S : tB} {z : Int} {i : Nat} {v : Int} (h : 0 ≤ wlk t S z i ∧ wlk t S z i < nS t) : ∀ m, ldV t S z i v m = -1 ∨ (0 ≤ ldV t S z i v m ∧ ldV t S z i v m < nS t)
  | 0 => by
    rcases nF_rng W (v := v) h.1 h.2 with e | e
    · exact Or.inl e
    · exact Or.inr ⟨e.2.2.1, e.2.2.2.1⟩
  | m + 1 => by
    rw [ldV]
    rcases ldV_rng W (v := v) h m with e | e
    · rw [if_pos e]; exact Or.inl rfl
    · rw [if_neg (by omega)]
      rcases nF_rng W (v := wln t S z (i + 1 + m)) e.1 e.2 with e2 | e2
      · exact Or.inl e2
      · exact Or.inr ⟨e2.2.2.1, e2.2.2.2.1⟩
section
variable {h : mH} {c : Int} {p L : Int → Int} {M : aM} {E : Int → tT} {t : tT}
theorem GP.fk {M M' : aM} {L : Int → Int} (G : GP M M L t) (F : FK M M') : GP M' M' L t := G.fr (fun v hv => F.1 v (by
  simp only [List.mem_cons, List.not_mem_nil, or_false] at hv ⊢; omega) (by
  simp only [List.mem_cons, List.not_mem_nil, or_false] at hv; omega)) (fun _ _ => rfl)
theorem KS.fk {M M' : aM} {L : Int → Int} (K : KS E M L t) (F : FK M M') : KS E M' L t := K.keep (fun v hv => F.1 v (by
  simp only [List.mem_cons, List.not_mem_nil, or_false, not_or]
  unfold kO at hv; omega) (by unfold kO at hv; omega)) (fun _ _ => rfl)
theorem FK.r {M M' : aM} (F : FK M M') : Fr cA M M' := fun v hv => F.1 v (fun q => hv (by
  simp only [List.mem_cons, List.not_mem_nil, or_false] at q
  rcases q with rfl | rfl | rfl <;> decide)) (fun q => hv (by subst q; decide))
theorem s_goes (A : At h c p L M) (W : WS t) (G : GP M M L t) {s : Int} (v : Int) (hs : s = -1 ∨ (0 ≤ s ∧ s < nS t)) : f_Graph_goesFrom h 41 s v = some ((0, b2i (decide (s ≠ -1) && decide (nF t s v ≠ -1))), h) := by
  rw [s_Graph_goesFrom A W G.1 G.2.1]
  congr 4
  rcases hs with e | e
  · rw [e]; rfl
  · rw [decide_eq_true e.1, decide_eq_true e.2, decide_eq_true (show s ≠ -1 by omega), Bool.true_and, Bool.true_and]
    by_cases hv : 0 ≤ v ∧ v < 2 * nb t
    · rw [decide_eq_true hv.1, decide_eq_true hv.2, gm_gs W hv.1 hv.2, Bool.true_and]
      show gs t s v = _
      unfold nF th
      by_cases g : go t false X0 (wS t) s v = true
      · have hg := gs_to W e.1 e.2 g
        rw [if_pos g, decide_eq_true (by omega)]; exact g
      · rw [if_neg g]; exact Bool.eq_false_iff.mpr g
    · have : ¬ (nF t s v ≠ -1) := by
        rcases nF_rng W (v := v) e.1 e.2 with q | q
        · exact fun q2 => q2 q
        · omega
      rw [decide_eq_false this]
      by_cases g : 0 ≤ v
      · rw [decide_eq_false (show ¬ v < 2 * nb t from fun q => hv ⟨g, q⟩)]; simp
      · rw [decide_eq_false g]; simp
theorem s_behind (A : At h c p L M) (W : WS t) (hS2 : nS t ≤ 20000) (G : GP M M L t) {s v : Int} (h0 : 0 ≤ s) (h1 : s < nS t) (hv : nF t s v ≠ -1) : f_Graph_behind h 41 s v = some ((0, nF t s v), h) := by
  rcases nF_rng W (v := v) h0 h1 with e | e
  · exact absurd e hv
  · rw [s_Graph_behind A W G.1 (by omega), if_pos ⟨e.2.2.2.2.1, e.2.2.2.2.2⟩, e.2.1]
theorem s_leads (A : At h c p L M) (W : WS t) (hS2 : nS t ≤ 20000) (G : GP M M L t) {s : Int} (y : Int) (h0 : 0 ≤ s) (h1 : s < nS t) : f_Graph_leads h 41 s y = some ((0, b2i (ldT t s y)), h) := by
  have hk := nK_rng W
  have D := A.gr
  unfold f_Graph_leads
  refine loop_r (F := fun n (b : Int) => f_Graph_leads_L2 41 s y n h b) (P := fun o => o = some ((0, b2i (ldT t s y)), h)) (fun i b => b = (i : Int) ∧ anyN (fun w => gs t s w && decide (s + sf t w = y)) i = false) (nK t) (fun i hi b hb n => ?_) (fun b hb n => ?_) (i := 0) (b := 0) ⟨rfl, rfl⟩ (by omega) (by omega)
  · obtain ⟨rfl, hb⟩ := hb
    have e4 : M 42 i = sf t i := G.1.2.1 i (by omega) (by omega)
    have hsf := GS_42 W G.1 i (by omega)
    rw [e4] at hsf
    have next : (gs t s i && decide (s + sf t i = y)) = false → f_Graph_leads_J33 (f_Graph_leads_L2 41 s y n) i h = f_Graph_leads_L2 41 s y n h ((i + 1 : Nat) : Int) ∧ anyN (fun w => gs t s w && decide (s + sf t w = y)) (i + 1) = false := fun q => by
      refine ⟨?_, ?_⟩
      · unfold f_Graph_leads_J33; rw [wtv, w32_n i (by omega)]
      · rw [anyN, hb]; exact q
    show f_Graph_leads_L2 41 s y (n + 1) h i = _ ∨ ∃ b', _ ∧ f_Graph_leads_L2 41 s y (n + 1) h i = _
    rw [f_Graph_leads_L2]
    simp only [D]
    rw [chk_t trivial, G.1.1.2.1, if_neg (by omega), chk_t trivial, chk_t trivial, chk_t (by omega), e4, w32_id (by omega) (by omega)]
    by_cases g : s + sf t i = y
    · rw [if_pos g, chk_t trivial, s_goes A W G i (Or.inr ⟨h0, h1⟩), bndT_ok (by decide), decide_eq_true (show s ≠ -1 by omega), Bool.true_and]
      by_cases g2 : nF t s i = -1
      · right
        have hgs : gs t s i = false := by
          cases q : gs t s i
          · rfl
          · have := gs_to W h0 h1 q
            unfold nF th at g2
            rw [if_pos q] at g2; omega
        obtain ⟨n1, n2⟩ := next (by rw [hgs]; rfl)
        rw [decide_eq_false (fun q => q g2), if_pos (by decide), n1]
        exact ⟨_, ⟨rfl, n2⟩, rfl⟩
      · left
        rcases nF_rng W (v := (i : Int)) h0 h1 with e | e
        · exact absurd e g2
        · rw [decide_eq_true g2, if_neg (by decide), chk_t (by decide)]
          have : ldT t s y = true := anyN_iff.mpr ⟨i, by omega, by omega, by rw [e.1, decide_eq_true g]; rfl⟩
          rw [this]; rfl
    · right
      obtain ⟨n1, n2⟩ := next (by rw [decide_eq_false g, Bool.and_false])
      rw [if_neg g, n1]
      exact ⟨_, ⟨rfl, n2⟩, rfl⟩
  · obtain ⟨rfl, hb⟩ := hb
    show f_Graph_leads_L2 41 s y (n + 1) h _ = _
    rw [f_Graph_leads_L2]
    simp only [D]
    rw [chk_t trivial, G.1.1.2.1, if_pos (by omega), chk_t (by decide)]
    have : ldT t s y = false := hb
    rw [this]; rfl
/-- the verse as it is taken -/
def VQ (M : aM) (t : tT) (S : tB) (z : Int) (len : Nat) : Prop := M 67 3 = len ∧ (∀ i : Nat, i < len → M 68 i = wln t S z i) ∧ ∀ i : Nat, i ≤ len → M 69 i = wlk t S z i
theorem s_takeVerse (A : At h c p L M) (W : WS t) (hS2 : nS t ≤ 20000) (G : GP M M L t) {o z : Int} (P : PR M L 51 52 53 t o true) (ho0 : 0 ≤ o) (ho1 : o < nS t) (h0 : 0 ≤ z) (h1 : z < nS t) {len : Nat} (hl : bF (SB t o) z = len) (h40 : len ≤ 40) :
    ∃ h' M', f_Kept_takeVerse h 67 41 51 z = some ((3, 0), h') ∧ At h' c p L M' ∧ FK M M' ∧ VQ M' t (SB t o) z len := by
  have hk : PK 51 52 53 := by unfold PK; decide
  have C := A.ke
  have D := A.p51
  have A1 := A.fput (v := 67) (i := 3) len (by decide) (by decide) (by decide) (by decide +kernel) (by decide)
  have far : f_Paths_farOf h 51 z = some ((0, bF (SB t o) z), h) := PR_far A hk P h0 h1
  have PF : ∀ {M' : aM}, FK M M' → PR M' L 51 52 53 t o true := fun F => P.fr (F.1 51 (by decide) (by decide)) (F.1 52 (by decide) (by decide)) (F.1 53 (by decide) (by decide)) rfl rfl
  unfold f_Kept_takeVerse
  simp only [D]
  rw [chk_t trivial, far, bndT_ok (by decide), hl]
  simp only [C]
  rw [chk_t trivial, show (if (40 : Int) < (if (0 : Int) < len then (len : Int) else 0) then (40 : Int) else (if (0 : Int) < len then (len : Int) else 0)) = len from by
    by_cases q : (0 : Int) < len
    · rw [if_pos q, if_neg (by omega)]
    · rw [if_neg q, if_neg (by omega)]; omega, wth]
  refine loop_r (F := fun n (x : mH × Int × Int) => f_Kept_takeVerse_L24 (fun h4 x5 => chk (hpT h4 67 = 6) (chk (hpT h4 67 = 6) (chk (hpT h4 (hpV h4 67 1) = 21) (chk (0 ≤ hpV h4 67 3 ∧ hpV h4 67 3 < hpL h4 (hpV h4 67 1)) (wth (hput h4 (hpV h4 67 1) (hpV h4 67 3) x5) (fun h6 => some ((3, 0), h6))))))) 67 41 51 n x.1 x.2.1 x.2.2) (P := fun r => ∃ h' M', r = some ((3, 0), h') ∧ At h' c p L M' ∧ FK M M' ∧ VQ M' t (SB t o) z len) (fun i x => x.2 = (wlk t (SB t o) z i, (i : Int)) ∧ ∃ M', At x.1 c p L M' ∧ FK M M' ∧ M' 67 3 = len ∧ ∀ j : Nat, j < i → M' 68 j = wln t (SB t o) z j ∧ M' 69 j = wlk t (SB t o) z j) len (fun i hi x hx n => ?_) (fun x hx n => ?_) (i := 0) (b := (hput h 67 3 len, z, 0)) ⟨rfl, _, A1, (Fs.rf _ _ _ _).ps (by decide), mup_eq _ _ _ _, fun j g => by omega⟩ (by omega) (by omega)
  · obtain ⟨h2, r⟩ := x
    obtain ⟨hr_, M2, A2_, F2, e2, v2⟩ := hx
    have hr : r = (wlk t (SB t o) z i, (i : Int)) := hr_
    have A2 : At h2 c p L M2 := A2_
    clear hr_ A2_
    subst hr
    right
    have ws := wlk_spec W ho0 ho1 h0 h1 (i := i) (by omega)
    have ls := lnx_spec W ho0 ho1 ws.1.1 ws.1.2 (by omega)
    have C2 := A2.ke
    have A3 := A2.aput (v := 69) i (wlk t (SB t o) z i) (by decide) (by decide) (by decide) (by decide +kernel) (by decide) (by decide)
    have F3 : FK M (mup M2 69 i (wlk t (SB t o) z i)) := F2.pu (by decide) (by decide)
    have C3 := A3.ke
    have D3 := A3.p51
    have A4 := A3.aput (v := 68) i (wln t (SB t o) z i) (by decide) (by decide) (by decide) (by decide +kernel) (by decide) (by decide)
    have F4 : FK M (mup (mup M2 69 i (wlk t (SB t o) z i)) 68 i (wln t (SB t o) z i)) := F3.pu (by decide) (by decide)
    have C4 := A4.ke
    have D4 := A4.gr
    refine ⟨(hput (hput h2 69 i (wlk t (SB t o) z i)) 68 i (wln t (SB t o) z i), wlk t (SB t o) z (i + 1), ((i + 1 : Nat) : Int)), ⟨rfl, _, A4, F4, by rw [mup_fn (by decide), mup_fn (by decide)]; exact e2, fun j g => ?_⟩, ?_⟩
    · by_cases e : j = i
      · rw [e, mup_eq, mup_fn (by decide), mup_eq]; exact ⟨rfl, rfl⟩
      · have := v2 j (by omega)
        rw [mup_ne (Or.inr (by omega)), mup_fn (show (68 : Int) ≠ 69 by decide), mup_fn (show (69 : Int) ≠ 68 by decide), mup_ne (Or.inr (by omega))]; exact this
    · show f_Kept_takeVerse_L24 _ 67 41 51 (n + 1) h2 (wlk t (SB t o) z i) i = f_Kept_takeVerse_L24 _ 67 41 51 n (hput (hput h2 69 i (wlk t (SB t o) z i)) 68 i (wln t (SB t o) z i)) (wlk t (SB t o) z (i + 1)) ((i + 1 : Nat) : Int)
      rw [f_Kept_takeVerse_L24]
      simp only [C2]
      rw [chk_t trivial, e2, if_neg (by omega), chk_t trivial, chk_t trivial, chk_t (by omega), wth]
      simp only [C3, D3]
      rw [chk_t trivial, chk_t trivial, s_Paths_lineFrom A3 W hS2 (G.fk F3) (PF F3) ho0 ho1 ws.1.1 ws.1.2, bndT_ok (by decide), C3.2.2.2.2.2.2.2.2.1, C3.2.2.2.2.2.2.2.2.2.1]
      rw [chk_t rfl, chk_t (show (0 : Int) ≤ i ∧ (i : Int) < 40 by omega), wth, show lnx t (SB t o) (wlk t (SB t o) z i) = wln t (SB t o) z i from rfl]
      simp only [C4, D4, mup_eq]
      rw [chk_t trivial, chk_t trivial, chk_t (by omega), chk_t trivial, s_Graph_behind A4 W (G.fk F4).1 (by omega), bndT_ok (by decide), if_pos (show 0 ≤ wln t (SB t o) z i ∧ wln t (SB t o) z i < 2 * nb t from ls.1), wtv, w32_n i (by omega)]
      rfl
  · obtain ⟨h2, r⟩ := x
    obtain ⟨hr_, M2, A2_, F2, e2, v2⟩ := hx
    have hr : r = (wlk t (SB t o) z len, (len : Int)) := hr_
    have A2 : At h2 c p L M2 := A2_
    clear hr_ A2_
    subst hr
    have C2 := A2.ke
    have A3 := A2.aput (v := 69) len (wlk t (SB t o) z len) (by decide) (by decide) (by decide) (by decide +kernel) (by decide) (by decide)
    refine ⟨_, _, ?_, A3, F2.pu (by decide) (by decide), by rw [mup_fn (by decide)]; exact e2, fun j g => by rw [mup_fn (by decide)]; exact (v2 j g).1, fun j g => ?_⟩
    · show f_Kept_takeVerse_L24 _ 67 41 51 (n + 1) h2 (wlk t (SB t o) z len) len = _
      rw [f_Kept_takeVerse_L24]
      simp only [C2]
      rw [chk_t trivial, e2, if_pos (Int.le_refl _), chk_t trivial, chk_t trivial, chk_t trivial, chk_t (by omega), wth]
    · by_cases e : j = len
      · rw [e, mup_eq]
      · rw [mup_ne (Or.inr (by omega))]; exact (v2 j (by omega)).2
theorem VQ.fk {M M' : aM} {S : tB} {z : Int} {len : Nat} (V : VQ M t S z len) (h3 : M' 67 3 = M 67 3) (h68 : M' 68 = M 68) (h69 : M' 69 = M 69) : VQ M' t S z len := by
  unfold VQ at V ⊢; rw [h3, h68, h69]; exact V
theorem keep_nat {i m len : Nat} (h : i + 1 + m < len) (h2 : len ≤ 40) : ((0 : Int) ≤ ((i + 1 + m : Nat) : Int) ∧ ((i + 1 + m : Nat) : Int) < 40) ∧ ((0 : Int) ≤ ((i + 1 + m + 1 : Nat) : Int) ∧ ((i + 1 + m + 1 : Nat) : Int) < 41) ∧ w32 (((i + 1 + m : Nat) : Int) + 1) = ((i + 1 + m + 1 : Nat) : Int) := by
  refine ⟨by omega, by omega, ?_⟩
  rw [w32_id (by omega) (by omega)]; omega
/-- each of the first steps, led on by one more line -/
theorem s_sw70 (A2 : At h c p L M) (W : WS t) (hS2 : nS t ≤ 20000) (G : GP M M L t) {o z : Int} (ho0 : 0 ≤ o) (ho1 : o < nS t) (h0 : 0 ≤ z) (h1 : z < nS t) {len : Nat} (hl : bF (SB t o) z = len) (h40 : len ≤ 40) (V2 : VQ M t (SB t o) z len) {i m : Nat} (hm : i + 1 + m < len) (L2 : ∀ v, 0 ≤ v → v < 18 → M 70 v = ldV t (SB t o) z i v m) (KK : mH → Int → Option mR) :
    ∃ h3 M3, f_Kept_seekWith_L70 KK 67 41 ((i + 1 + m : Nat) : Int) 1000000 h 0 0 = KK h3 (kc t (SB t o) z i m) ∧ At h3 c p L M3 ∧ Fr [70] M M3 ∧ ∀ v, 0 ≤ v → v < 18 → M3 70 v = ldV t (SB t o) z i v (m + 1) := by
  have wsi := wlk_spec W ho0 ho1 h0 h1 (i := i) (by omega)
  have hld := fun v m => ldV_rng W (v := v) wsi.1 m
  refine loop_r (F := fun n' (x : mH × Int × Int) => f_Kept_seekWith_L70 KK 67 41 ((i + 1 + m : Nat) : Int) n' x.1 x.2.1 x.2.2) (P := fun r => ∃ h3 M3, r = KK h3 (kc t (SB t o) z i m) ∧ At h3 c p L M3 ∧ Fr [70] M M3 ∧ ∀ v, 0 ≤ v → v < 18 → M3 70 v = ldV t (SB t o) z i v (m + 1)) (fun v x => x.2 = (cnN (kcQ t (SB t o) z i m) v, (v : Int)) ∧ ∃ M3, At x.1 c p L M3 ∧ Fr [70] M M3 ∧ ∀ u, 0 ≤ u → u < 18 → M3 70 u = if u < (v : Int) then ldV t (SB t o) z i u (m + 1) else ldV t (SB t o) z i u m) 18 (fun v hv x hx n' => ?_) (fun x hx n' => ?_) (i := 0) (b := (h, 0, 0)) ⟨rfl, M, A2, Fr.rf _ _, fun u g0 g1 => by rw [if_neg (by omega)]; exact L2 u g0 g1⟩ (by omega) (by omega)
  · obtain ⟨h3, r⟩ := x
    obtain ⟨hr_, M3, A3_, F3, L3⟩ := hx
    have hr : r = (cnN (kcQ t (SB t o) z i m) v, (v : Int)) := hr_
    have A3 : At h3 c p L M3 := A3_
    clear hr_ A3_
    subst hr
    right
    have C3 := A3.ke
    have D3 := A3.gr
    have FK3 : FK M M3 := (F3.fs (d := 67) (is := []) (by decide)).mono (by decide) (fun _ q => by cases q)
    have G3 := G.fk FK3
    have V3 : VQ M3 t (SB t o) z len := V2.fk (by rw [F3 67 (by decide)]) (F3 68 (by decide)) (F3 69 (by decide))
    have ev : M3 70 v = ldV t (SB t o) z i v m := by rw [L3 v (by omega) (by omega), if_neg (by omega)]
    have e68 : M3 68 ((i + 1 + m : Nat) : Int) = wln t (SB t o) z (i + 1 + m) := V3.2.1 _ (by omega)
    have e69 : M3 69 ((i + 1 + m + 1 : Nat) : Int) = wlk t (SB t o) z (i + 1 + m + 1) := V3.2.2 _ (by omega)
    have hx := hld v m
    have hcr := cnN_rng (kcQ t (SB t o) z i m) v
    obtain ⟨i40, i41, ew⟩ := keep_nat hm h40
    have i18 : (0 : Int) ≤ v ∧ (v : Int) < 18 := by omega
    have j170 : ∀ y : Int, y = ldV t (SB t o) z i v (m + 1) → ∀ q : Int, q = cnN (kcQ t (SB t o) z i m) (v + 1) → ∃ b' : mH × Int × Int, (b'.2 = (cnN (kcQ t (SB t o) z i m) (v + 1), ((v + 1 : Nat) : Int)) ∧ ∃ M3, At b'.1 c p L M3 ∧ Fr [70] M M3 ∧ ∀ u, 0 ≤ u → u < 18 → M3 70 u = if u < ((v + 1 : Nat) : Int) then ldV t (SB t o) z i u (m + 1) else ldV t (SB t o) z i u m) ∧ f_Kept_seekWith_J170 (f_Kept_seekWith_L70 KK 67 41 ((i + 1 + m : Nat) : Int) n') q v 70 v y h3 = f_Kept_seekWith_L70 KK 67 41 ((i + 1 + m : Nat) : Int) n' b'.1 b'.2.1 b'.2.2 := by
      intro y hy q hq
      have A4 := A3.aput (v := 70) v y (by decide) (by decide) (by decide) (by decide +kernel) (by decide) (by decide)
      refine ⟨(hput h3 70 v y, cnN (kcQ t (SB t o) z i m) (v + 1), ((v + 1 : Nat) : Int)), ⟨rfl, _, A4, F3.pu (by decide), fun u g0 g1 => ?_⟩, ?_⟩
      · by_cases e : u = v
        · rw [e, mup_eq, if_pos (by omega), hy]
        · rw [mup_ne (Or.inr e), L3 u g0 g1]
          by_cases e2 : u < (v : Int)
          · rw [if_pos e2, if_pos (by omega)]
          · rw [if_neg e2, if_neg (by omega)]
      · unfold f_Kept_seekWith_J170
        simp only [C3]
        rw [chk_t trivial, chk_t (by omega), wth, wtv, w32_n v (by omega), hq]
    have j120 : ∀ y : Int, y = (if kcQ t (SB t o) z i m v = true then 1 else 0) → ∃ b' : mH × Int × Int, (b'.2 = (cnN (kcQ t (SB t o) z i m) (v + 1), ((v + 1 : Nat) : Int)) ∧ ∃ M3, At b'.1 c p L M3 ∧ Fr [70] M M3 ∧ ∀ u, 0 ≤ u → u < 18 → M3 70 u = if u < ((v + 1 : Nat) : Int) then ldV t (SB t o) z i u (m + 1) else ldV t (SB t o) z i u m) ∧ f_Kept_seekWith_J120 (f_Kept_seekWith_L70 KK 67 41 ((i + 1 + m : Nat) : Int) n') 67 41 ((i + 1 + m : Nat) : Int) v (cnN (kcQ t (SB t o) z i m) v) y h3 = f_Kept_seekWith_L70 KK 67 41 ((i + 1 + m : Nat) : Int) n' b'.1 b'.2.1 b'.2.2 := by
      intro y hy
      have hy2 : 0 ≤ y ∧ y ≤ 1 := by rw [hy]; split <;> omega
      have eq : cnN (kcQ t (SB t o) z i m) v + y = cnN (kcQ t (SB t o) z i m) (v + 1) := by rw [hy]; rfl
      clear hy
      have ew2 : w32 (cnN (kcQ t (SB t o) z i m) v + y) = cnN (kcQ t (SB t o) z i m) v + y := w32_id (by omega) (by omega)
      have el : ldV t (SB t o) z i v (m + 1) = if ldV t (SB t o) z i v m = -1 then -1 else nF t (ldV t (SB t o) z i v m) (wln t (SB t o) z (i + 1 + m)) := rfl
      unfold f_Kept_seekWith_J120
      simp only [C3, D3]
      rw [wtv, ew2, chk_t trivial, chk_t trivial, chk_t trivial, chk_t i18, chk_t trivial, chk_t trivial, chk_t i40, chk_t trivial, ev, e68, s_goes A3 W G3 _ hx, bndT_ok (by decide)]
      by_cases g1 : ldV t (SB t o) z i v m = -1
      · rw [decide_eq_false (fun q => q g1), Bool.false_and, if_pos (by decide)]
        exact j170 (-1) (by rw [el, if_pos g1]) _ eq
      · rw [if_neg g1] at el
        rw [decide_eq_true g1, Bool.true_and]
        by_cases g2 : nF t (ldV t (SB t o) z i v m) (wln t (SB t o) z (i + 1 + m)) = -1
        · rw [decide_eq_false (fun q => q g2), if_pos (by decide)]
          exact j170 (-1) (by rw [el, g2]) _ eq
        · have hx2 : 0 ≤ ldV t (SB t o) z i v m ∧ ldV t (SB t o) z i v m < nS t := by
            rcases hx with q | q
            · exact absurd q g1
            · exact q
          rw [decide_eq_true g2, if_neg (by decide)]
          simp only [C3, D3]
          rw [chk_t trivial, chk_t trivial, chk_t i18, chk_t trivial, chk_t trivial, chk_t i40, chk_t trivial, ev, e68, s_behind A3 W hS2 G3 hx2.1 hx2.2 g2, bndT_ok (by decide)]
          exact j170 _ el.symm _ eq
    show ∃ b' : mH × Int × Int, _ ∧ f_Kept_seekWith_L70 KK 67 41 ((i + 1 + m : Nat) : Int) (n' + 1) h3 (cnN (kcQ t (SB t o) z i m) v) v = _
    rw [f_Kept_seekWith_L70]
    simp only [C3, D3]
    rw [chk_t trivial, chk_t (by decide), if_neg (by omega), chk_t trivial, chk_t trivial, chk_t i18, ev]
    by_cases g1 : ldV t (SB t o) z i v m = -1
    · rw [if_pos g1]
      unfold f_Kept_seekWith_J119
      exact j120 0 (by unfold kcQ; rw [decide_eq_false (fun q => q g1)]; rfl)
    · have e : kcQ t (SB t o) z i m v = ldT t (ldV t (SB t o) z i v m) (wlk t (SB t o) z (i + 1 + m + 1)) := by unfold kcQ; rw [decide_eq_true g1, Bool.true_and]
      have hx2 : 0 ≤ ldV t (SB t o) z i v m ∧ ldV t (SB t o) z i v m < nS t := by
        rcases hx with q | q
        · exact absurd q g1
        · exact q
      rw [if_neg g1, chk_t trivial, chk_t trivial, chk_t i18, chk_t trivial, chk_t trivial, ew, chk_t i41, chk_t trivial, e69, s_leads A3 W hS2 G3 _ hx2.1 hx2.2, bndT_ok (by decide), ← e]
      cases g2 : kcQ t (SB t o) z i m v
      · rw [if_pos (by decide)]
        unfold f_Kept_seekWith_J119
        exact j120 0 (by rw [g2]; rfl)
      · rw [if_neg (by decide)]
        exact j120 1 (by rw [g2]; rfl)
  · obtain ⟨h3, r⟩ := x
    obtain ⟨hr_, M3, A3_, F3, L3⟩ := hx
    have hr : r = (cnN (kcQ t (SB t o) z i m) 18, ((18 : Nat) : Int)) := hr_
    have A3 : At h3 c p L M3 := A3_
    clear hr_ A3_
    subst hr
    have C3 := A3.ke
    refine ⟨h3, M3, ?_, A3, F3, fun v g0 g1 => by rw [L3 v g0 g1, if_pos (by omega)]⟩
    show f_Kept_seekWith_L70 KK 67 41 ((i + 1 + m : Nat) : Int) (n' + 1) h3 (cnN (kcQ t (SB t o) z i m) 18) ((18 : Nat) : Int) = _
    rw [f_Kept_seekWith_L70]
    simp only [C3]
    rw [chk_t trivial, chk_t (by decide), if_pos (by decide)]; rfl
/-- what comes of line i with the later ones -/
theorem s_seekWith (A : At h c p L M) (W : WS t) (hS2 : nS t ≤ 20000) (G : GP M M L t) {o z : Int} (ho0 : 0 ≤ o) (ho1 : o < nS t) (h0 : 0 ≤ z) (h1' : z < nS t) {len : Nat} (hl : bF (SB t o) z = len) (h40 : len ≤ 40) (V : VQ M t (SB t o) z len) {i : Nat} (hi : i < len) {K : tK} (Q : M 67 4 = K.1 ∧ M 67 5 = K.2.1 ∧ M 67 6 = K.2.2) (hK : 0 ≤ K.1) :
    ∃ h' M', f_Kept_seekWith h 67 41 i = some ((3, 0), h') ∧ At h' c p L M' ∧ FK M M' ∧ VQ M' t (SB t o) z len ∧ (M' 67 4 = (kJ t (SB t o) z i K (len - (i + 1))).1 ∧ M' 67 5 = (kJ t (SB t o) z i K (len - (i + 1))).2.1 ∧ M' 67 6 = (kJ t (SB t o) z i K (len - (i + 1))).2.2) := by
  have wsi := wlk_spec W ho0 ho1 h0 h1' (i := i) (by omega)
  -- the later lines
  have later : ∀ h1 M1, At h1 c p L M1 → FK M M1 → VQ M1 t (SB t o) z len → (M1 67 4 = K.1 ∧ M1 67 5 = K.2.1 ∧ M1 67 6 = K.2.2) → (∀ v, 0 ≤ v → v < 18 → M1 70 v = ldV t (SB t o) z i v 0) → ∃ h' M', f_Kept_seekWith_L56 67 41 i 1000000 h1 ((i : Int) + 1) = some ((3, 0), h') ∧ At h' c p L M' ∧ FK M M' ∧ VQ M' t (SB t o) z len ∧ (M' 67 4 = (kJ t (SB t o) z i K (len - (i + 1))).1 ∧ M' 67 5 = (kJ t (SB t o) z i K (len - (i + 1))).2.1 ∧ M' 67 6 = (kJ t (SB t o) z i K (len - (i + 1))).2.2) := by
    intro h1 M1 A1 F1 V1 Q1 L1
    refine loop_r (F := fun n (x : mH × Int) => f_Kept_seekWith_L56 67 41 i n x.1 x.2) (P := fun r => ∃ h' M', r = some ((3, 0), h') ∧ At h' c p L M' ∧ FK M M' ∧ VQ M' t (SB t o) z len ∧ (M' 67 4 = (kJ t (SB t o) z i K (len - (i + 1))).1 ∧ M' 67 5 = (kJ t (SB t o) z i K (len - (i + 1))).2.1 ∧ M' 67 6 = (kJ t (SB t o) z i K (len - (i + 1))).2.2)) (fun m x => x.2 = ((i + 1 + m : Nat) : Int) ∧ ∃ M', At x.1 c p L M' ∧ FK M M' ∧ VQ M' t (SB t o) z len ∧ (M' 67 4 = (kJ t (SB t o) z i K m).1 ∧ M' 67 5 = (kJ t (SB t o) z i K m).2.1 ∧ M' 67 6 = (kJ t (SB t o) z i K m).2.2) ∧ ∀ v, 0 ≤ v → v < 18 → M' 70 v = ldV t (SB t o) z i v m) (len - (i + 1)) (fun m hm x hx n => ?_) (fun x hx n => ?_) (i := 0) (b := (h1, (i : Int) + 1)) ⟨by show (i : Int) + 1 = ((i + 1 + 0 : Nat) : Int); omega, M1, A1, F1, V1, Q1, L1⟩ (by omega) (by omega)
    · obtain ⟨h2, r⟩ := x
      obtain ⟨hr_, M2, A2_, F2, V2, Q2, L2⟩ := hx
      have hr : r = ((i + 1 + m : Nat) : Int) := hr_
      have A2 : At h2 c p L M2 := A2_
      clear hr_ A2_
      subst hr
      right
      have C2 := A2.ke
      obtain ⟨h3, M3, f3, A3, F3, L3⟩ := s_sw70 A2 W hS2 (G.fk F2) ho0 ho1 h0 h1' hl h40 V2 (show i + 1 + m < len by omega) L2 (fun h1 x2 => chk (hpT h1 67 = 6) ((if x2 ≤ hpV h1 67 4 then f_Kept_seekWith_J202 (f_Kept_seekWith_L56 67 41 i n) ((i + 1 + m : Nat) : Int) h1 else chk (hpT h1 67 = 6) (wth (hput h1 67 4 x2) (fun h3 => chk (hpT h3 67 = 6) (wth (hput h3 67 5 i) (fun h4 => chk (hpT h4 67 = 6) (wth (hput h4 67 6 ((i + 1 + m : Nat) : Int)) (fun h5 => f_Kept_seekWith_J202 (f_Kept_seekWith_L56 67 41 i n) ((i + 1 + m : Nat) : Int) h5)))))))))
      have C3 := A3.ke
      have FK3 : FK M M3 := F2.tr ((F3.fs (d := 67) (is := []) (by decide)).mono (by decide) (fun _ q => by cases q))
      have V3 : VQ M3 t (SB t o) z len := V2.fk (by rw [F3 67 (by decide)]) (F3 68 (by decide)) (F3 69 (by decide))
      have e67 : M3 67 = M2 67 := F3 67 (by decide)
      have ew : w32 (((i + 1 + m : Nat) : Int) + 1) = ((i + 1 + (m + 1) : Nat) : Int) := by rw [w32_id (by omega) (by omega)]; omega
      show ∃ b' : mH × Int, _ ∧ f_Kept_seekWith_L56 67 41 i (n + 1) h2 ((i + 1 + m : Nat) : Int) = _
      rw [f_Kept_seekWith_L56]
      simp only [C2]
      rw [chk_t trivial, V2.1, if_neg (by omega), f3]
      simp only [C3]
      rw [chk_t trivial, e67, Q2.1]
      unfold f_Kept_seekWith_J202
      by_cases g : kc t (SB t o) z i m ≤ (kJ t (SB t o) z i K m).1
      · have e : kJ t (SB t o) z i K (m + 1) = kJ t (SB t o) z i K m := by rw [kJ, if_neg (by omega)]
        rw [if_pos g, wtv, ew]
        exact ⟨(h3, ((i + 1 + (m + 1) : Nat) : Int)), ⟨rfl, M3, A3, FK3, V3, by rw [e67, e]; exact Q2, L3⟩, rfl⟩
      · have e : kJ t (SB t o) z i K (m + 1) = (kc t (SB t o) z i m, (i : Int), ((i + 1 + m : Nat) : Int)) := by rw [kJ, if_pos (by omega)]
        have A4 := A3.fput (v := 67) (i := 4) (kc t (SB t o) z i m) (by decide) (by decide) (by decide) (by decide +kernel) (by decide)
        have C4 := A4.ke
        have A5 := A4.fput (v := 67) (i := 5) i (by decide) (by decide) (by decide) (by decide +kernel) (by decide)
        have C5 := A5.ke
        have A6 := A5.fput (v := 67) (i := 6) ((i + 1 + m : Nat) : Int) (by decide) (by decide) (by decide) (by decide +kernel) (by decide)
        rw [if_neg g, chk_t trivial, wth]
        simp only [C4]
        rw [chk_t trivial, wth]
        simp only [C5]
        rw [chk_t trivial, wth, wtv, ew]
        refine ⟨(_, ((i + 1 + (m + 1) : Nat) : Int)), ⟨rfl, _, A6, ((FK3.ps (by decide)).ps (by decide)).ps (by decide), V3.fk ?_ ?_ ?_, ⟨?_, ?_, ?_⟩, ?_⟩, rfl⟩
        · rw [mup_ne (Or.inr (by decide)), mup_ne (Or.inr (by decide)), mup_ne (Or.inr (by decide))]
        · rw [mup_fn (by decide), mup_fn (by decide), mup_fn (by decide)]
        · rw [mup_fn (by decide), mup_fn (by decide), mup_fn (by decide)]
        · rw [e, mup_ne (Or.inr (by decide)), mup_ne (Or.inr (by decide)), mup_eq]
        · rw [e, mup_ne (Or.inr (by decide)), mup_eq]
        · rw [e, mup_eq]
        · rw [mup_fn (by decide), mup_fn (by decide), mup_fn (by decide)]; exact L3
    · obtain ⟨h2, r⟩ := x
      obtain ⟨hr_, M2, A2_, F2, V2, Q2, L2⟩ := hx
      have hr : r = ((i + 1 + (len - (i + 1)) : Nat) : Int) := hr_
      have A2 : At h2 c p L M2 := A2_
      clear hr_ A2_
      subst hr
      have C2 := A2.ke
      refine ⟨h2, M2, ?_, A2, F2, V2, Q2⟩
      show f_Kept_seekWith_L56 67 41 i (n + 1) h2 _ = _
      rw [f_Kept_seekWith_L56]
      simp only [C2]
      rw [chk_t trivial, V2.1, if_pos (by omega)]
  unfold f_Kept_seekWith
  refine loop_r (F := fun n (x : mH × Int) => f_Kept_seekWith_L2 (fun h1 => wtv (w32 ((i : Int) + 1)) (fun x2 => f_Kept_seekWith_L56 67 41 i 1000000 h1 x2)) 67 41 i n x.1 x.2) (P := fun r => ∃ h' M', r = some ((3, 0), h') ∧ At h' c p L M' ∧ FK M M' ∧ VQ M' t (SB t o) z len ∧ (M' 67 4 = (kJ t (SB t o) z i K (len - (i + 1))).1 ∧ M' 67 5 = (kJ t (SB t o) z i K (len - (i + 1))).2.1 ∧ M' 67 6 = (kJ t (SB t o) z i K (len - (i + 1))).2.2)) (fun v x => x.2 = (v : Int) ∧ ∃ M', At x.1 c p L M' ∧ Fr [70] M M' ∧ ∀ u, 0 ≤ u → u < (v : Int) → M' 70 u = ldV t (SB t o) z i u 0) 18 (fun v hv x hx n => ?_) (fun x hx n => ?_) (i := 0) (b := (h, 0)) ⟨rfl, M, A, Fr.rf _ _, fun u g0 g1 => by omega⟩ (by omega) (by omega)
  · obtain ⟨h2, r⟩ := x
    obtain ⟨hr_, M2, A2_, F2, L2⟩ := hx
    have hr : r = (v : Int) := hr_
    have A2 : At h2 c p L M2 := A2_
    clear hr_ A2_
    subst hr
    right
    have C2 := A2.ke
    have D2 := A2.gr
    have FK2 : FK M M2 := (F2.fs (d := 67) (is := []) (by decide)).mono (by decide) (fun _ q => by cases q)
    have G2 := G.fk FK2
    have e69 : M2 69 i = wlk t (SB t o) z i := by rw [F2 69 (by decide)]; exact V.2.2 i (by omega)
    have j45 : ∀ y : Int, y = nF t (wlk t (SB t o) z i) v → ∃ b' : mH × Int, (b'.2 = ((v + 1 : Nat) : Int) ∧ ∃ M', At b'.1 c p L M' ∧ Fr [70] M M' ∧ ∀ u, 0 ≤ u → u < ((v + 1 : Nat) : Int) → M' 70 u = ldV t (SB t o) z i u 0) ∧ f_Kept_seekWith_J45 (f_Kept_seekWith_L2 (fun h1 => wtv (w32 ((i : Int) + 1)) (fun x2 => f_Kept_seekWith_L56 67 41 i 1000000 h1 x2)) 67 41 i n) v 70 v y h2 = f_Kept_seekWith_L2 (fun h1 => wtv (w32 ((i : Int) + 1)) (fun x2 => f_Kept_seekWith_L56 67 41 i 1000000 h1 x2)) 67 41 i n b'.1 b'.2 := by
      intro y hy
      have A3 := A2.aput (v := 70) v y (by decide) (by decide) (by decide) (by decide +kernel) (by decide) (by decide)
      refine ⟨(hput h2 70 v y, ((v + 1 : Nat) : Int)), ⟨rfl, _, A3, F2.pu (by decide), fun u g0 g1 => ?_⟩, ?_⟩
      · by_cases e : u = v
        · rw [e, mup_eq, hy]; rfl
        · rw [mup_ne (Or.inr e)]; exact L2 u g0 (by omega)
      · unfold f_Kept_seekWith_J45
        simp only [C2]
        rw [chk_t trivial, chk_t (by omega), wth, wtv, w32_n v (by omega)]
    show ∃ b' : mH × Int, _ ∧ f_Kept_seekWith_L2 _ 67 41 i (n + 1) h2 v = _
    rw [f_Kept_seekWith_L2]
    simp only [C2, D2]
    rw [chk_t trivial, chk_t (by decide), if_neg (by omega), chk_t trivial, chk_t trivial, chk_t trivial, chk_t (by omega), chk_t trivial, e69, s_goes A2 W G2 v (Or.inr wsi.1), bndT_ok (by decide), decide_eq_true (show wlk t (SB t o) z i ≠ -1 by omega), Bool.true_and]
    by_cases g : nF t (wlk t (SB t o) z i) v = -1
    · rw [decide_eq_false (fun q => q g), if_pos (by decide)]
      exact j45 (-1) g.symm
    · rw [decide_eq_true g, if_neg (by decide)]
      simp only [C2, D2]
      rw [chk_t trivial, chk_t trivial, chk_t (by omega), chk_t trivial, e69, s_behind A2 W hS2 G2 wsi.1.1 wsi.1.2 g, bndT_ok (by decide)]
      exact j45 _ rfl
  · obtain ⟨h2, r⟩ := x
    obtain ⟨hr_, M2, A2_, F2, L2⟩ := hx
    have hr : r = ((18 : Nat) : Int) := hr_
    have A2 : At h2 c p L M2 := A2_
    clear hr_ A2_
    subst hr
    have C2 := A2.ke
    have FK2 : FK M M2 := (F2.fs (d := 67) (is := []) (by decide)).mono (by decide) (fun _ q => by cases q)
    show ∃ h' M', f_Kept_seekWith_L2 _ 67 41 i (n + 1) h2 ((18 : Nat) : Int) = _ ∧ _
    rw [f_Kept_seekWith_L2]
    simp only [C2]
    rw [chk_t trivial, chk_t (by decide), if_pos (by decide), wtv, w32_id (by omega) (by omega)]
    exact later h2 M2 A2 FK2 (V.fk (by rw [F2 67 (by decide)]) (F2 68 (by decide)) (F2 69 (by decide))) (by rw [F2 67 (by decide)]; exact Q) (fun u g0 g1 => L2 u g0 g1)
theorem kJ_pos {S : tB} {z : Int} {i : Nat} {K : tK} (hK : 0 ≤ K.1) : ∀ m, 0 ≤ (kJ t S z i K m).1
  | 0 => hK
  | m + 1 => by
    rw [kJ]; split
    · exact (cnN_rng _ _).1
    · exact kJ_pos hK m
theorem kI_pos {S : tB} {z : Int} {len : Nat} : ∀ i, 0 ≤ (kI t S z len i).1
  | 0 => Int.le_refl _
  | i + 1 => kJ_pos (kI_pos i) _
end
