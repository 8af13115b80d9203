/-! ARRAYS THAT GROW -/
theorem ptL_of {v w j : Int} (hv : v ∈ gwL) (h : pt w j = v) : (w, j, v) ∈ ptL := by
  have h0 : v ≠ 0 := by
    simp only [gwL, List.mem_cons, List.not_mem_nil, or_false] at hv
    rcases hv with rfl | rfl | rfl | rfl | rfl | rfl | rfl | rfl | rfl | rfl | rfl | rfl | rfl | rfl | rfl <;> decide
  unfold pt at h
  split at h
  · exact absurd h.symm h0
  · split at h
    · rename_i h2
      split at h
      · rename_i h3
        exfalso
        have hw : w = 5 ∨ w = 18 ∨ 100 ≤ w := by
          unfold kd at h2
          split at h2
          · rename_i h4
            have H : ∀ k : Fin 100, kdL.getD k.val 0 = 1 → k.val = 5 ∨ k.val = 18 := by decide +kernel
            have := H ⟨w.toNat, by omega⟩ h2
            simp only at this
            omega
          · split at h2
            · omega
            · exact absurd h2 (by decide)
        simp only [gwL, List.mem_cons, List.not_mem_nil, or_false] at hv
        omega
      · exact absurd h.symm h0
    · split at h
      · rename_i q hq
        have h3 := List.find?_some hq
        have h4 := List.mem_of_find?_eq_some hq
        simp only [Bool.and_eq_true, beq_iff_eq] at h3
        rw [← h, ← h3.1, ← h3.2]
        exact h4
      · exact absurd h.symm h0
theorem hput_id (h : mH) (z i : Int) : hput h z i (hpV h z i) = h := by
  obtain ⟨a, b, c, d⟩ := h
  show (a, b, c, fun b' j => if b' = z ∧ j = i then d z i else d b' j) = (a, b, c, d)
  congr 3
  funext b' j
  by_cases e : b' = z ∧ j = i
  · rw [if_pos e, e.1, e.2]
  · rw [if_neg e]
/-- off these, all as it was -/
def Of (l : List Int) (f g : Int → Int) : Prop := ∀ v, v ∉ l → g v = f v
theorem Of.tr {l : List Int} {f g k : Int → Int} (a : Of l f g) (b : Of l g k) : Of l f k := fun v hv => (b v hv).trans (a v hv)
theorem Of.mono {l l2 : List Int} {f g : Int → Int} (a : Of l f g) (h : ∀ v ∈ l, v ∈ l2) : Of l2 f g := fun v hv => a v (fun e => hv (h v e))
theorem Of.rf (l : List Int) (f : Int → Int) : Of l f f := fun _ _ => rfl
section
variable {h : mH} {c : Int} {p L : Int → Int} {M : aM}
theorem s_Nb_grown (A : At h c p L M) {v o i : Int} (hv : v ∈ gwL) (hk : kd v = 21) (ho : 1 ≤ o ∧ o ≤ 99) (hog : o ∉ gwL) (hpo : pt o i = v) (hu : ∀ q ∈ ptL, q.2.2 = v → q.1 = o ∧ q.2.1 = i) {need most : Int} (hm : most = mx v) (hn : need ≤ most) :
    ∃ q h1, f_Nb_grown h (p v) need most = some ((2, q), h1) ∧ hpT h1 o = kd o ∧ ∃ p' L' M', At (hput h1 o i q) c p' L' M' ∧ need ≤ L' v ∧ Of [v] p p' ∧ Of [v] L L' ∧ Fr [v] M M' := by
  have hvr : 1 ≤ v ∧ v ≤ 99 ∧ mx v ≤ 40000 := by
    simp only [gwL, List.mem_cons, List.not_mem_nil, or_false] at hv
    rcases hv with rfl | rfl | rfl | rfl | rfl | rfl | rfl | rfl | rfl | rfl | rfl | rfl | rfl | rfl | rfl <;> decide +kernel
  have hL0 := A.gw hv
  have hT := A.T (lv_fix M hvr.1 hvr.2.1)
  have hL := A.Ln (lv_fix M hvr.1 hvr.2.1) (by omega)
  have hTo := A.fT ho.1 ho.2 hog
  have hv0 : v ≠ 0 := by omega
  unfold f_Nb_grown
  rw [chk_t (by omega), hL]
  by_cases g : need ≤ L v
  · refine ⟨p v, h, by rw [if_pos g], hTo, p, L, M, ?_, g, Of.rf _ _, Of.rf _ _, Fr.rf _ _⟩
    have := A.fP ho.1 ho.2 hog hpo hv0
    rw [← this, hput_id]; exact A
  · rw [if_neg g, if_pos (by omega), chk_t (by omega), w32_id (by omega) (by omega)]
    generalize hl : (if need < (if most < 2 * L v then most else 2 * L v) then (if most < 2 * L v then most else 2 * L v) else need) = l
    have hl1 : need ≤ l ∧ l ≤ most ∧ (l = most ∨ 2 * L v ≤ l) := by
      rw [← hl]
      split <;> split <;> omega
    rw [chk_t (by omega), wth]
    obtain ⟨p', L', M', A', e1, e2⟩ := A.grow (l := l) hv ho hog hpo (fun w j hw hj => hu _ (ptL_of hv hj) rfl) (by omega) (by omega) (by omega)
    rw [hk] at A'
    refine ⟨hpN h + 1, halc h 21 l l, rfl, ?_, p', L', M', A', by omega, fun w hw => (e2 w (by simpa using hw)).1, fun w hw => (e2 w (by simpa using hw)).2.1, fun w hw => (e2 w (by simpa using hw)).2.2⟩
    rw [qa_T, if_neg, hTo]
    have := (A.2.1 o (lv_fix M ho.1 ho.2)).2.1
    rw [(A.fx ho.1 ho.2 hog).1] at this
    omega
theorem s_Nb_grownLong (A : At h c p L M) {v o i : Int} (hv : v ∈ gwL) (hk : kd v = 22) (ho : 1 ≤ o ∧ o ≤ 99) (hog : o ∉ gwL) (hpo : pt o i = v) (hu : ∀ q ∈ ptL, q.2.2 = v → q.1 = o ∧ q.2.1 = i) {need most : Int} (hm : most = mx v) (hn : need ≤ most) :
    ∃ q h1, f_Nb_grownLong h (p v) need most = some ((2, q), h1) ∧ hpT h1 o = kd o ∧ ∃ p' L' M', At (hput h1 o i q) c p' L' M' ∧ need ≤ L' v ∧ Of [v] p p' ∧ Of [v] L L' ∧ Fr [v] M M' := by
  have hvr : 1 ≤ v ∧ v ≤ 99 ∧ mx v ≤ 40000 := by
    simp only [gwL, List.mem_cons, List.not_mem_nil, or_false] at hv
    rcases hv with rfl | rfl | rfl | rfl | rfl | rfl | rfl | rfl | rfl | rfl | rfl | rfl | rfl | rfl | rfl <;> decide +kernel
  have hL0 := A.gw hv
  have hT := A.T (lv_fix M hvr.1 hvr.2.1)
  have hL := A.Ln (lv_fix M hvr.1 hvr.2.1) (by omega)
  have hTo := A.fT ho.1 ho.2 hog
  have hv0 : v ≠ 0 := by omega
  unfold f_Nb_grownLong
  rw [chk_t (by omega), hL]
  by_cases g : need ≤ L v
  · refine ⟨p v, h, by rw [if_pos g], hTo, p, L, M, ?_, g, Of.rf _ _, Of.rf _ _, Fr.rf _ _⟩
    have := A.fP ho.1 ho.2 hog hpo hv0
    rw [← this, hput_id]; exact A
  · rw [if_neg g, if_pos (by omega), chk_t (by omega), w32_id (by omega) (by omega)]
    generalize hl : (if need < (if most < 2 * L v then most else 2 * L v) then (if most < 2 * L v then most else 2 * L v) else need) = l
    have hl1 : need ≤ l ∧ l ≤ most ∧ (l = most ∨ 2 * L v ≤ l) := by
      rw [← hl]
      split <;> split <;> omega
    rw [chk_t (by omega), wth]
    obtain ⟨p', L', M', A', e1, e2⟩ := A.grow (l := l) hv ho hog hpo (fun w j hw hj => hu _ (ptL_of hv hj) rfl) (by omega) (by omega) (by omega)
    rw [hk] at A'
    refine ⟨hpN h + 1, halc h 22 l l, rfl, ?_, p', L', M', A', by omega, fun w hw => (e2 w (by simpa using hw)).1, fun w hw => (e2 w (by simpa using hw)).2.1, fun w hw => (e2 w (by simpa using hw)).2.2⟩
    rw [qa_T, if_neg, hTo]
    have := (A.2.1 o (lv_fix M ho.1 ho.2)).2.1
    rw [(A.fx ho.1 ho.2 hog).1] at this
    omega
/-! PATHS OF THE CLASS -/
def PK (k f o : Int) : Prop := (k = 48 ∧ f = 49 ∧ o = 50) ∨ (k = 51 ∧ f = 52 ∧ o = 53) ∨ (k = 54 ∧ f = 55 ∧ o = 56)
theorem At.pk (A : At h c p L M) {k f o : Int} (hk : PK k f o) : hpT h k = 8 ∧ hpV h k 0 = M k 0 ∧ hpV h k 1 = M k 1 ∧ hpV h k 2 = M k 2 ∧ hpV h k 3 = M k 3 ∧ hpV h k 4 = M k 4 ∧ hpV h k 5 = p f ∧ hpV h k 6 = p o ∧ hpT h (p f) = 21 ∧ hpL h (p f) = L f ∧ (∀ i, hpV h (p f) i = M f i) ∧ hpT h (p o) = 21 ∧ hpL h (p o) = L o ∧ (∀ i, hpV h (p o) i = M o i) := by
  rcases hk with ⟨rfl, rfl, rfl⟩ | ⟨rfl, rfl, rfl⟩ | ⟨rfl, rfl, rfl⟩
  · have B := A.p48; simp only [B]; simp
  · have B := A.p51; simp only [B]; simp
  · have B := A.p54; simp only [B]; simp
theorem PK.gf {k f o : Int} (hk : PK k f o) : (1 ≤ f ∧ f ≤ 99 ∧ kd f = 21 ∧ f ≠ 32 ∧ f ≠ 31 ∧ f ∈ gwL) ∧ (1 ≤ o ∧ o ≤ 99 ∧ kd o = 21 ∧ o ≠ 32 ∧ o ≠ 31 ∧ o ∈ gwL) ∧ (1 ≤ k ∧ k ≤ 99 ∧ k ∉ gwL ∧ kd k = 8 ∧ k ≠ 31) ∧ (pt k 5 = f ∧ pt k 6 = o ∧ pt k 0 = 0 ∧ pt k 1 = 0 ∧ pt k 2 = 0 ∧ pt k 3 = 0 ∧ pt k 4 = 0) ∧ (k ≠ f ∧ k ≠ o ∧ f ≠ o) ∧ (mx f = 20000 ∧ mx o = 20000) ∧ (∀ q ∈ ptL, q.2.2 = f → q.1 = k ∧ q.2.1 = 5) ∧ (∀ q ∈ ptL, q.2.2 = o → q.1 = k ∧ q.2.1 = 6) ∧ (48 ≤ k ∧ k ≤ 54 ∧ 49 ≤ f ∧ f ≤ 56 ∧ 49 ≤ o ∧ o ≤ 56) := by
  rcases hk with ⟨rfl, rfl, rfl⟩ | ⟨rfl, rfl, rfl⟩ | ⟨rfl, rfl, rfl⟩ <;> decide +kernel
theorem At.pkf (A : At h c p L M) {k f o : Int} (hk : PK k f o) (i x : Int) : At (hput h (p f) i x) c p L (mup M f i x) := by
  obtain ⟨g, -⟩ := hk.gf
  exact A.gput i x g.1 g.2.1 (by rw [g.2.2.1]; exact Nat.le_refl _) g.2.2.2.1 g.2.2.2.2.1
theorem At.pko (A : At h c p L M) {k f o : Int} (hk : PK k f o) (i x : Int) : At (hput h (p o) i x) c p L (mup M o i x) := by
  obtain ⟨-, g, -⟩ := hk.gf
  exact A.gput i x g.1 g.2.1 (by rw [g.2.2.1]; exact Nat.le_refl _) g.2.2.2.1 g.2.2.2.2.1
theorem At.pks (A : At h c p L M) {k f o : Int} (hk : PK k f o) {i : Int} (x : Int) (hi : i = 1 ∨ i = 2 ∨ i = 3 ∨ i = 4) : At (hput h k i x) c p L (mup M k i x) := by
  obtain ⟨-, -, g, g2, -⟩ := hk.gf
  exact A.fput x g.1 g.2.1 g.2.2.1 (by rcases hi with rfl | rfl | rfl | rfl <;> simp only [g2]) g.2.2.2.2
def CI (n : Nat) (S : tB) : Prop := bM S = cn (bF S) n ∧ 0 ≤ bM S
theorem BI.ci {nx : Int → Int → Int} {k n : Nat} {z : Int} {S : tB} (B : BI nx k n z S) : CI n S := ⟨B.1.1, by have := B.1.2; omega⟩
theorem CI.le {n : Nat} {S : tB} (B : CI n S) : bM S ≤ n := by rw [B.1]; exact (cn_rng _ _).2
theorem CI_tk {n : Nat} {S : tB} (B : CI n S) {s d : Int} (h0 : 0 ≤ s) (h1 : s < n) (hd : d ≠ -1) : CI n (tk S s d) := by
  unfold tk
  by_cases e : bF S s = -1
  · rw [if_pos e]
    have := B.1
    refine ⟨?_, by show 0 ≤ bM S + 1; have := B.2; omega⟩
    show bM S + 1 = cn (u1 (bF S) s d) n
    rw [cn_u1 e hd h0 h1]; omega
  · rw [if_neg e]; exact B
theorem CI_vis {n : Nat} {nx : Int → Int → Int} {s d : Int} (hd : d ≠ -1) : ∀ {k : Nat} {S : tB}, CI n S → (∀ v : Int, 0 ≤ v → v < k → nx s v ≠ -1 → 0 ≤ nx s v ∧ nx s v < n) → CI n (vis nx s d k S)
  | 0, _, B, _ => B
  | k + 1, S, B, H => by
    have := CI_vis hd (k := k) B (fun v g0 g1 => H v g0 (by omega))
    rw [vis]
    by_cases e : nx s k = -1
    · rw [if_pos e]; exact this
    · rw [if_neg e]
      have g := H k (by omega) (by omega) e
      exact CI_tk this g.1 g.2 hd
theorem vis_stop {nx : Int → Int → Int} {s d : Int} {j : Nat} : ∀ {k : Nat} {S : tB}, j ≤ k → (∀ v : Int, j ≤ v → v < k → nx s v = -1) → vis nx s d k S = vis nx s d j S
  | 0, _, h, _ => by rw [show j = 0 by omega]
  | k + 1, S, h, H => by
    by_cases e : j = k + 1
    · rw [e]
    · rw [vis, H k (by omega) (by omega), if_pos rfl]
      exact vis_stop (by omega) (fun v g0 g1 => H v g0 (by omega))
theorem s_Paths_farOf (A : At h c p L M) {k f o : Int} (hk : PK k f o) (s : Int) : f_Paths_farOf h k s = some ((0, if 0 ≤ s ∧ s < L f then M f s else -1), h) := by
  have C := A.pk hk
  unfold f_Paths_farOf f_Paths_farOf_J22
  by_cases g : s < 0
  · rw [if_pos g, if_neg (by omega)]
  · rw [if_neg g]
    simp only [C]
    rw [chk_t trivial, chk_t (Nat.le_refl _)]
    by_cases g2 : L f ≤ s
    · rw [if_pos g2, if_neg (by omega)]
    · rw [if_neg g2, chk_t trivial, chk_t trivial, chk_t (by omega), if_pos (by omega)]
theorem s_Paths_take (A : At h c p L M) {k f o : Int} (hk : PK k f o) {n : Nat} (hn : n ≤ 20000) {S : tB} (Q : PI M f o (M k 4) n S) (B : CI n S) (hf : n ≤ L f) (ho : n ≤ L o) {s d : Int} (h0 : 0 ≤ s) (h1 : s < n) :
    ∃ h' M', f_Paths_take h k s d = some ((3, 0), h') ∧ At h' c p L M' ∧ Fs [f, o] k [4] M M' ∧ PI M' f o (M' k 4) n (tk S s d) := by
  have C := A.pk hk
  obtain ⟨-, -, -, -, ⟨n1, n2, n3⟩, -⟩ := hk.gf
  unfold f_Paths_take tk
  rw [if_neg (by omega)]
  simp only [C, wth]
  rw [chk_t trivial, chk_t (Nat.le_refl _), if_neg (by omega), chk_t trivial, chk_t trivial, chk_t (by omega), Q.1 s h0 h1]
  by_cases e : bF S s = -1
  · have hm2 : bM S < n := by rw [B.1]; exact cn_full e h0 h1
    have hmany := Q.2.2
    have hb0 := B.2
    have A2 := A.pkf hk s d
    have C2 := A2.pk hk
    have A3 := A2.pko hk (bM S) s
    have C3 := A3.pk hk
    have A4 := A3.pks hk (i := 4) (bM S + 1) (by simp)
    refine ⟨_, _, ?_, A4, (((Fs.rf _ _ _ _).pu (by simp) n1.symm).pu (by simp) n2.symm).ps (by simp), ?_⟩
    · rw [if_pos e, chk_t trivial, chk_t trivial, chk_t (Nat.le_refl _), hmany, if_neg (by omega), chk_t trivial, chk_t trivial, chk_t (by omega)]
      simp only [C2]
      rw [mup_fn n1, hmany, chk_t trivial, chk_t trivial, chk_t trivial, chk_t (by omega)]
      simp only [C3]
      rw [mup_fn n2, mup_fn n1, hmany, chk_t trivial, chk_t trivial, w32_id (by omega) (by omega)]
    · rw [if_pos e]
      refine ⟨fun w g0 g1 => ?_, fun j g0 g1 => ?_, ?_⟩
      · rw [mup_fn n1.symm, mup_fn n3]
        show mup M f s d f w = u1 (bF S) s d w
        by_cases e2 : w = s
        · rw [e2, mup_eq, u1_eq]
        · rw [mup_ne (Or.inr e2), u1_ne e2]; exact Q.1 w g0 g1
      · have g1 : j < bM S + 1 := g1
        rw [mup_fn n2.symm]
        show mup (mup M f s d) o (bM S) s o j = u1 (bO S) (bM S) s j
        by_cases e2 : j = bM S
        · rw [e2, mup_eq, u1_eq]
        · rw [mup_ne (Or.inr e2), u1_ne e2, mup_fn n3.symm]; exact Q.2.1 j g0 (by omega)
      · rw [mup_eq]; rfl
  · rw [if_neg e, if_neg e]
    exact ⟨h, M, rfl, A, Fs.rf _ _ _ _, Q⟩
theorem s_Paths_begin (A : At h c p L M) {k f o : Int} (hk : PK k f o) {n : Nat} (hn : n ≤ 20000) (hn1 : 1 ≤ n) (hst : M 41 2 = n) {z : Int} (h0 : 0 ≤ z) (h1 : z < n) :
    ∃ h' p' L' M', f_Paths_begin h k 41 z = some ((3, 0), h') ∧ At h' c p' L' M' ∧ Of [f, o] p p' ∧ Of [f, o] L L' ∧ n ≤ L' f ∧ n ≤ L' o ∧ Fs [f, o] k [3, 4] M M' ∧ M' k 3 = -1 ∧ PI M' f o (M' k 4) n (b0 z) := by
  have C := A.pk hk
  obtain ⟨gf, go, gk, gp, ⟨n1, n2, n3⟩, gm, gu, gu2, gr⟩ := hk.gf
  have k41 : (41 : Int) ≠ k := by omega
  have A1 := A.pks hk (i := 3) (-1) (by simp)
  have C1 := A1.pk hk
  have A2 := A1.pks hk (i := 4) 0 (by simp)
  have C2 := A2.pk hk
  have D2 := A2.gr
  have hst2 : mup (mup M k 3 (-1)) k 4 0 41 2 = n := by rw [mup_fn k41, mup_fn k41]; exact hst
  obtain ⟨q3, h3, f3, t3, p3, L3, M3, A3, l3, op3, oL3, oM3⟩ := s_Nb_grown A2 (v := f) (o := k) (i := 5) (need := n) gf.2.2.2.2.2 gf.2.2.1 ⟨gk.1, gk.2.1⟩ gk.2.2.1 gp.1 gu (most := 20000) gm.1.symm (by omega)
  have C3 := A3.pk hk
  have D3 := A3.gr
  have hst3 : M3 41 2 = n := by rw [oM3 41 (by simp; omega)]; exact hst2
  obtain ⟨q4, h4, f4, t4, p4, L4, M4, A4, l4, op4, oL4, oM4⟩ := s_Nb_grown A3 (v := o) (o := k) (i := 6) (need := n) go.2.2.2.2.2 go.2.2.1 ⟨gk.1, gk.2.1⟩ gk.2.2.1 gp.2.1 gu2 (most := 20000) gm.2.symm (by omega)
  have lf4 : n ≤ L4 f := by rw [oL4 f (by simp; exact n3)]; exact l3
  have F4 : Fs [f, o] k [3, 4] M M4 := by
    have e1 : Fs [f, o] k [3, 4] M (mup (mup M k 3 (-1)) k 4 0) := ((Fs.rf _ _ _ _).ps (by simp)).ps (by simp)
    exact (e1.tr ((oM3.fs (by simp; exact n1)).mono (by simp) (fun _ h => h))).tr ((oM4.fs (by simp; exact n2)).mono (by simp) (fun _ h => h))
  have v3 : M4 k 3 = -1 := by rw [oM4 k (by simp; exact n2), oM3 k (by simp; exact n1), mup_ne (Or.inr (by decide)), mup_eq]
  have v4 : M4 k 4 = 0 := by rw [oM4 k (by simp; exact n2), oM3 k (by simp; exact n1), mup_eq]
  unfold f_Paths_begin
  simp only [C, wth]
  rw [chk_t trivial]
  simp only [C1]
  rw [chk_t trivial]
  simp only [C2, D2]
  rw [chk_t trivial, chk_t trivial, hst2, f3, bndR_ok, t3, gk.2.2.2.1, chk_t rfl]
  simp only [C3, D3]
  rw [chk_t trivial, chk_t trivial, hst3, f4, bndR_ok, t4, gk.2.2.2.1, chk_t rfl]
  have hop : Of [f, o] p p4 := ((op3.mono (by simp)).tr (op4.mono (by simp)))
  have hoL : Of [f, o] L L4 := ((oL3.mono (by simp)).tr (oL4.mono (by simp)))
  refine loop_r (F := fun n (b : mH × Int) => f_Paths_begin_L48 (fun h9 => f_Paths_begin_J78 k z h9) k 41 n b.1 b.2) (P := fun r => ∃ h' p' L' M', r = some ((3, 0), h') ∧ At h' c p' L' M' ∧ Of [f, o] p p' ∧ Of [f, o] L L' ∧ n ≤ L' f ∧ n ≤ L' o ∧ Fs [f, o] k [3, 4] M M' ∧ M' k 3 = -1 ∧ PI M' f o (M' k 4) n (b0 z)) (fun i b => b.2 = (i : Int) ∧ ∃ M', At b.1 c p4 L4 M' ∧ Fs [f, o] k [3, 4] M M' ∧ M' k 3 = -1 ∧ M' k 4 = 0 ∧ ∀ j : Int, 0 ≤ j → j < i → M' f j = -1) n (fun i hi b hb m => ?_) (fun b hb m => ?_) (i := 0) (b := (hput h4 k 6 q4, 0)) ⟨rfl, M4, A4, F4, v3, v4, fun j g0 g1 => by omega⟩ (by omega) (by omega)
  · obtain ⟨h5, r⟩ := b
    obtain ⟨hr, M5, A5, F5, w3, w4, hv⟩ := hb
    have hr : r = (i : Int) := hr
    subst hr
    have A5 : At h5 c p4 L4 M5 := A5
    right
    have C5 := A5.pk hk
    have D5 := A5.gr
    have hs5 : M5 41 2 = n := by rw [F5.1 41 (by simp; omega) k41]; exact hst
    have A6 := A5.pkf hk i (-1)
    refine ⟨(hput h5 (p4 f) i (-1), ((i + 1 : Nat) : Int)), ⟨rfl, _, A6, F5.pu (by simp) n1.symm, by rw [mup_fn n1]; exact w3, by rw [mup_fn n1]; exact w4, fun j g0 g1 => ?_⟩, ?_⟩
    · by_cases e : j = i
      · rw [e, mup_eq]
      · rw [mup_ne (Or.inr e)]; exact hv j g0 (by omega)
    · show f_Paths_begin_L48 _ k 41 (m + 1) h5 i = f_Paths_begin_L48 _ k 41 m (hput h5 (p4 f) i (-1)) ((i + 1 : Nat) : Int)
      rw [f_Paths_begin_L48]
      simp only [C5, D5]
      rw [chk_t trivial, chk_t (Nat.le_refl _), if_neg (by omega), chk_t trivial, hs5, if_neg (by omega), chk_t trivial, chk_t trivial, chk_t (by omega), wth, wtv, w32_n i (by omega)]
  · obtain ⟨h5, r⟩ := b
    obtain ⟨hr, M5, A5, F5, w3, w4, hv⟩ := hb
    have hr : r = (n : Int) := hr
    subst hr
    have A5 : At h5 c p4 L4 M5 := A5
    have C5 := A5.pk hk
    have D5 := A5.gr
    have hs5 : M5 41 2 = n := by rw [F5.1 41 (by simp; omega) k41]; exact hst
    have Q5 : PI M5 f o (M5 k 4) n ((fun _ => -1, fun _ => z, 0) : tB) := ⟨fun s g0 g1 => hv s g0 g1, fun j g0 g1 => absurd (show j < 0 from g1) (by omega), w4⟩
    have c0 : ∀ m : Nat, cn (fun _ => -1) m = 0 := fun m => by
      induction m with
      | zero => rfl
      | succ m ih => show cn _ m + _ = 0; rw [ih, if_pos rfl]; rfl
    obtain ⟨h6, M6, f6, A6, F6, Q6⟩ := s_Paths_take A5 hk hn Q5 ⟨(c0 n).symm, Int.le_refl _⟩ lf4 l4 (s := z) (d := 0) h0 h1
    refine ⟨h6, p4, L4, M6, ?_, A6, hop, hoL, lf4, l4, F5.tr (F6.mono (fun _ h => h) (by simp)), by rw [F6.2 3 (by simp)]; exact w3, ?_⟩
    · have eJ : f_Paths_begin_J78 k z h5 = some ((3, 0), h6) := by
        unfold f_Paths_begin_J78
        simp only [C5]
        rw [chk_t trivial, f6, bndT_ok (by decide)]
      show f_Paths_begin_L48 _ k 41 (m + 1) h5 _ = _
      rw [f_Paths_begin_L48]
      simp only [C5, D5]
      rw [chk_t trivial, chk_t (Nat.le_refl _), eJ, chk_t trivial, hs5, if_pos (Int.le_refl _)]
      split <;> rfl
    · exact ⟨fun s g0 g1 => by rw [Q6.1 s g0 g1]; rfl, fun j g0 g1 => by
        have g1 : j < 1 := g1
        rw [Q6.2.1 j g0 g1]
        show u1 (fun _ => z) 0 z j = z
        rw [show j = 0 by omega, u1_eq], Q6.2.2⟩
end
