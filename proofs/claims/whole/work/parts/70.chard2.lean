section
variable {h : mH} {c : Int} {p L : Int → Int} {M : aM} {E : Int → tT}
/-- the rows that the notches write -/
def nL : List Int := [47, 54, 55, 56, 65, 66]
theorem GP.frn {M M' : aM} {L L' : Int → Int} {t : tT} (G : GP M M L t) (F : Fr nL M M') (hL : ∀ v ∈ [(44 : Int), 45, 46], L' v = L v) : GP M' M' L' t := G.fr (fun v hv => F v (by
  simp only [List.mem_cons, List.not_mem_nil, or_false] at hv
  rcases hv with rfl | rfl | rfl | rfl | rfl | rfl <;> decide)) hL
/-- what stands between two tries: now is z, the bound m, the best B; the rule begins with b f u -/
def NQ (h : mH) (c : Int) (E : Int → tT) (t : tT) (M0 : aM) (z m : Int) (B : Int → Int) (p L : Int → Int) (M : aM) : Prop :=
  At h c p L M ∧ Fr nL M0 M ∧ KQ E M L t ∧ GP M M L t ∧ (M 64 4 = z ∧ M 64 5 = m) ∧ ∀ j, 0 ≤ j → j < 7 → M 65 j = B j
theorem s_tryRule {t : tT} {M0 : aM} {z m : Int} {B : Int → Int} (Q : NQ h c E t M0 z m B p L M) (hS2 : nS t ≤ 20000) (hz : 0 ≤ z ∧ z < nS t) {X : tT} (V : XV t X) (RX : RXm M X) :
    ∃ h' p' L' M', f_Notches_tryRule h 64 5 41 54 = some ((3, 0), h') ∧ NQ h' c E t M0 z m (hT t (wS t) z m X B) p' L' M' ∧ ∀ j, 1 ≤ j → M' 66 j = M 66 j := by
  obtain ⟨A, F, K, G, ⟨q4, q5⟩, hB⟩ := Q
  obtain ⟨r1, r2, r3, r4, r5, r6⟩ := id RX
  have B5 := BH.of5 A K.R
  have C := A.no
  have D := A.gr
  have H54 := A.p54
  have hopn := st_rng K.W K.W.ropen
  obtain ⟨h1, p1, L1, M1, f1, A1, op1, oL1, F1, G1⟩ := s_Graph_notchMore A K hS2 G V RX
  have K1 : KQ E M1 L1 t := K.keep (fun v hv => F1 v (by simp; omega)) (fun v hv => oL1 v (by simp; omega))
  have GP1 : GP M1 M1 L1 t := G.fr (fun v hv => F1 v (by
    simp only [List.mem_cons, List.not_mem_nil, or_false] at hv
    rcases hv with rfl | rfl | rfl | rfl | rfl | rfl <;> decide)) (fun v hv => oL1 v (by
    simp only [List.mem_cons, List.not_mem_nil, or_false] at hv
    rcases hv with rfl | rfl | rfl <;> decide))
  have C1 := A1.no
  have D1 := A1.gr
  have H1 := A1.p54
  have F47 : GF M1 47 (nK t) (nN t) (th t true X (wS t)) := GG_GF K.W GP1.1 G1 (fun s v _ _ _ _ => rfl)
  obtain ⟨h2, p2, L2, M2, f2, A2, op2, oL2, F2, K2, far⟩ := s_asideQ A1 K1 hS2 GP1.1 (NX_F K.W true X (wS t)) F47 G1.1 (z := z) (goal := st t (po t)) hz.1 hz.2 hopn.1 hopn.2
  have far : f_Paths_farOf h2 54 (st t (po t)) = some ((0, hN t (wS t) z X), h2) := far
  have C2 := A2.no
  have D2 := A2.gr
  have H2 := A2.p54
  have F12 : Fr [47, 54, 55, 56] M M2 := (F1.mono (by decide)).tr (F2.mono (by decide))
  have e66 : M2 66 = M 66 := F12 66 (by decide)
  have e65 : M2 65 = M 65 := F12 65 (by decide)
  have e64 : M2 64 = M 64 := F12 64 (by decide)
  have GP2 : GP M2 M2 L2 t := GP1.fr (fun v hv => F2 v (by
    simp only [List.mem_cons, List.not_mem_nil, or_false] at hv
    rcases hv with rfl | rfl | rfl | rfl | rfl | rfl <;> decide)) (fun v hv => oL2 v (by
    simp only [List.mem_cons, List.not_mem_nil, or_false] at hv
    rcases hv with rfl | rfl | rfl <;> decide))
  have A3 := A2.aput (v := 66) 0 (hN t (wS t) z X) (by decide) (by decide) (by decide) (by decide +kernel) (by decide) (by decide)
  have C3 := A3.no
  have F3 : Fr nL M0 (mup M2 66 0 (hN t (wS t) z X)) := (F.tr (F12.mono (by decide))).pu (by decide)
  have K3 : KQ E (mup M2 66 0 (hN t (wS t) z X)) L2 t := K2.keep (fun v hv => mup_fn (by omega)) (fun v hv => rfl)
  have GP3 : GP (mup M2 66 0 (hN t (wS t) z X)) (mup M2 66 0 (hN t (wS t) z X)) L2 t := GP2.fr (fun v hv => mup_fn (by
    simp only [List.mem_cons, List.not_mem_nil, or_false] at hv
    rcases hv with rfl | rfl | rfl | rfl | rfl | rfl <;> decide)) (fun v hv => rfl)
  have v64 : mup M2 66 0 (hN t (wS t) z X) 64 = M 64 := by rw [mup_fn (by decide)]; exact e64
  have v65 : mup M2 66 0 (hN t (wS t) z X) 65 = M 65 := by rw [mup_fn (by decide)]; exact e65
  have v660 : mup M2 66 0 (hN t (wS t) z X) 66 0 = hN t (wS t) z X := mup_eq _ _ _ _
  have v66 : ∀ j, 1 ≤ j → mup M2 66 0 (hN t (wS t) z X) 66 j = M 66 j := fun j hj => by rw [mup_ne (Or.inr (by omega)), e66]
  have stay : (¬ (hN t (wS t) z X ≤ m ∧ B 0 < hN t (wS t) z X)) → ∃ h' p' L' M', (some ((3, 0), hput h2 66 0 (hN t (wS t) z X)) : Option mR) = some ((3, 0), h') ∧ NQ h' c E t M0 z m (hT t (wS t) z m X B) p' L' M' ∧ ∀ j, 1 ≤ j → M' 66 j = M 66 j := fun g => by
    refine ⟨_, p2, L2, _, rfl, ⟨A3, F3, K3, GP3, by rw [v64]; exact ⟨q4, q5⟩, fun j g0 g1 => ?_⟩, v66⟩
    unfold hT
    rw [if_neg g, v65]; exact hB j g0 g1
  unfold f_Notches_tryRule
  simp only [C]
  rw [chk_t trivial, chk_t trivial, chk_t trivial, chk_t (by decide), chk_t trivial, chk_t trivial, chk_t (by decide), chk_t trivial, chk_t trivial, chk_t (by decide), chk_t B5.T, r1, r2, r3, s_Box_hasRule B5 K.W, bndT_ok (by decide)]
  simp only [D]
  rw [chk_t trivial, f1, bndT_ok (by decide)]
  simp only [C1, D1, H1]
  rw [chk_t trivial, chk_t trivial, chk_t trivial, chk_t trivial, GP1.1.1.2.2, show M1 64 4 = z by rw [F1 64 (by decide)]; exact q4, f2, bndT_ok (by decide)]
  simp only [C2, D2, H2]
  rw [chk_t trivial, chk_t trivial, chk_t trivial, GP2.1.1.2.2, far, bndT_ok (by decide)]
  simp only [C2]
  rw [chk_t trivial, chk_t (by decide), wth]
  simp only [C3]
  rw [chk_t trivial, chk_t trivial, chk_t (by decide), chk_t trivial, v64, q5, v660]
  by_cases g1 : m < hN t (wS t) z X
  · rw [if_pos g1]; exact stay (by omega)
  · rw [if_neg g1, chk_t trivial, chk_t trivial, chk_t (by decide), chk_t trivial, chk_t trivial, chk_t (by decide), v65, hB 0 (by decide) (by decide)]
    by_cases g2 : hN t (wS t) z X ≤ B 0
    · rw [if_pos g2]; exact stay (by omega)
    · have A4 := A3.cpy (a := 66) (d := 65) 0 0 7 (lv_fix _ (by decide) (by decide)) (lv_fix _ (by decide) (by decide)) (by decide +kernel) (by decide +kernel) (by decide)
      rw [(A3.fx (v := 66) (by decide) (by decide) (by decide)).1, (A3.fx (v := 65) (by decide) (by decide) (by decide)).1] at A4
      have hm : ∀ v, v ≠ 65 → mcp (mup M2 66 0 (hN t (wS t) z X)) 66 0 65 0 7 v = mup M2 66 0 (hN t (wS t) z X) v := fun v hv => by
        funext j; unfold mcp; rw [if_neg (fun e => hv e.1)]
      rw [if_neg g2, chk_t trivial, chk_t trivial, chk_t trivial, chk_t (by decide), chk_t (by decide), wth]
      refine ⟨_, p2, L2, _, rfl, ⟨A4, fun v hv => ?_, K3.keep (fun v hv => hm v (by omega)) (fun v hv => rfl), GP3.fr (fun v hv => hm v (by
        simp only [List.mem_cons, List.not_mem_nil, or_false] at hv
        rcases hv with rfl | rfl | rfl | rfl | rfl | rfl <;> decide)) (fun v hv => rfl), by rw [hm 64 (by decide), v64]; exact ⟨q4, q5⟩, fun j g0 g3 => ?_⟩, fun j hj => by rw [hm 66 (by decide)]; exact v66 j hj⟩
      · rw [hm v (by intro e; rw [e] at hv; exact hv (by decide))]; exact F3 v hv
      · show (if (65 : Int) = 65 ∧ 0 ≤ j ∧ j < 0 + 7 then mup M2 66 0 (hN t (wS t) z X) 66 (0 + (j - 0)) else _) = _
        rw [if_pos (by omega), show 0 + (j - 0) = j by omega]
        unfold hT
        rw [if_pos (by omega)]
        by_cases j0 : j = 0
        · rw [j0, v660, if_pos rfl]
        · rw [v66 j (by omega), if_neg j0]
          have : j = 1 ∨ j = 2 ∨ j = 3 ∨ j = 4 ∨ j = 5 ∨ j = 6 := by omega
          rcases this with rfl | rfl | rfl | rfl | rfl | rfl
          · exact r1
          · exact r2
          · exact r3
          · exact r4
          · exact r5
          · exact r6
theorem hX_V {t : tT} {b f u c a : Int} (W : WS t) (h0 : 0 ≤ b ∧ b < nb t) (h1 : 0 ≤ f ∧ f < pl t b) (h2 : 0 ≤ u ∧ u < pl t b) (h3 : u = f + 1 ∨ u = f - 1) (h4 : 0 ≤ c ∧ c < nb t) : XV t (hX t b f u c a) := by
  unfold XV hX
  simp (decide := true) only [if_true, if_false]
  refine ⟨h0, h1, h2, h3, h4, ?_, trivial⟩
  split
  · exact Or.inl rfl
  · exact Or.inr rfl
/-- all facts of one other bar -/
theorem s_seekFacts {K : mH → Option mR} {t : tT} {M0 : aM} {z m : Int} {B : Int → Int} (Q : NQ h c E t M0 z m B p L M) (hS2 : nS t ≤ 20000) (hz : 0 ≤ z ∧ z < nS t) {b f u d : Int} (h0 : 0 ≤ b ∧ b < nb t) (h1 : 0 ≤ f ∧ f < pl t b) (h2 : 0 ≤ u ∧ u < pl t b) (h3 : u = f + 1 ∨ u = f - 1) (h4 : 0 ≤ d ∧ d < nb t) (h5 : d ≠ b) (R : M 66 1 = b ∧ M 66 2 = f ∧ M 66 3 = u) :
    ∃ h' p' L' M', f_Notches_seekStep_L56 K 64 5 41 54 b d 1000000 h 0 = K h' ∧ NQ h' c E t M0 z m (hA t (wS t) z m b f u d (2 * pl t d).toNat B) p' L' M' ∧ (M' 66 1 = b ∧ M' 66 2 = f ∧ M' 66 3 = u) := by
  have W := Q.2.2.1.W
  have hpd := W.2.2.2.2.2.1 d h4.1 h4.2
  refine loop_r (F := fun n (x : mH × Int) => f_Notches_seekStep_L56 K 64 5 41 54 b d n x.1 x.2) (P := fun r => ∃ h' p' L' M', r = K h' ∧ NQ h' c E t M0 z m (hA t (wS t) z m b f u d (2 * pl t d).toNat B) p' L' M' ∧ (M' 66 1 = b ∧ M' 66 2 = f ∧ M' 66 3 = u)) (fun i x => x.2 = (i : Int) ∧ ∃ p' L' M', NQ x.1 c E t M0 z m (hA t (wS t) z m b f u d i B) p' L' M' ∧ (M' 66 1 = b ∧ M' 66 2 = f ∧ M' 66 3 = u)) (2 * pl t d).toNat (fun i hi x hx n => ?_) (fun x hx n => ?_) (i := 0) (b := (h, 0)) ⟨rfl, p, L, M, Q, R⟩ (by omega) (by omega)
  · obtain ⟨h1', r⟩ := x
    obtain ⟨hr_, p1, L1, M1, Q1_, R1⟩ := hx
    have hr : r = (i : Int) := hr_
    have Q1 : NQ h1' c E t M0 z m (hA t (wS t) z m b f u d i B) p1 L1 M1 := Q1_
    clear hr_ Q1_
    subst hr
    right
    obtain ⟨A1, F1, K1, G1, q1, hB1⟩ := Q1
    have B1 := BH.of5 A1 K1.R
    have C1 := A1.no
    have A2 := A1.aput (v := 66) 4 d (by decide) (by decide) (by decide) (by decide +kernel) (by decide) (by decide)
    have R2 : BR5 _ t := K1.R.eq (M' := mup M1 66 4 d) (fun v g0 g1 => mup_fn (by omega))
    have B2 := BH.of5 A2 R2
    have C2 := A2.no
    have step : ∀ q : Int, q = (if (i : Int) < pl t d then 0 else 1) → ∃ b' : mH × Int, (b'.2 = ((i + 1 : Nat) : Int) ∧ ∃ p' L' M', NQ b'.1 c E t M0 z m (hA t (wS t) z m b f u d (i + 1) B) p' L' M' ∧ (M' 66 1 = b ∧ M' 66 2 = f ∧ M' 66 3 = u)) ∧ f_Notches_seekStep_J107 (f_Notches_seekStep_L56 K 64 5 41 54 b d n) 64 5 41 54 d i 66 5 q (hput h1' 66 4 d) = f_Notches_seekStep_L56 K 64 5 41 54 b d n b'.1 b'.2 := fun q hq => by
      have A3 := A2.aput (v := 66) 5 q (by decide) (by decide) (by decide) (by decide +kernel) (by decide) (by decide)
      have R3 : BR5 _ t := R2.eq (M' := mup (mup M1 66 4 d) 66 5 q) (fun v g0 g1 => mup_fn (by omega))
      have B3 := BH.of5 A3 R3
      have C3 := A3.no
      have A4 := A3.aput (v := 66) 6 ((i : Int) - q * pl t d) (by decide) (by decide) (by decide) (by decide +kernel) (by decide) (by decide)
      have C4 := A4.no
      have f4 : ∀ v, v ≠ 66 → mup (mup (mup M1 66 4 d) 66 5 q) 66 6 ((i : Int) - q * pl t d) v = M1 v := fun v hv => by rw [mup_fn hv, mup_fn hv, mup_fn hv]
      have Q4 : NQ (hput (hput (hput h1' 66 4 d) 66 5 q) 66 6 ((i : Int) - q * pl t d)) c E t M0 z m (hA t (wS t) z m b f u d i B) p1 L1 (mup (mup (mup M1 66 4 d) 66 5 q) 66 6 ((i : Int) - q * pl t d)) :=
        ⟨A4, fun v hv => by rw [f4 v (by intro e; rw [e] at hv; exact hv (by decide))]; exact F1 v hv, K1.keep (fun v hv => f4 v (by omega)) (fun v hv => rfl), G1.fr (fun v hv => f4 v (by
          simp only [List.mem_cons, List.not_mem_nil, or_false] at hv
          rcases hv with rfl | rfl | rfl | rfl | rfl | rfl <;> decide)) (fun v hv => rfl), by rw [f4 64 (by decide)]; exact q1, fun j g0 g1 => by rw [f4 65 (by decide)]; exact hB1 j g0 g1⟩
      have RX : RXm (mup (mup (mup M1 66 4 d) 66 5 q) 66 6 ((i : Int) - q * pl t d)) (hX t b f u d i) := by
        refine ⟨?_, ?_, ?_, ?_, ?_, ?_⟩
        · rw [mup_ne (by decide), mup_ne (by decide), mup_ne (by decide)]; exact R1.1
        · rw [mup_ne (by decide), mup_ne (by decide), mup_ne (by decide)]; exact R1.2.1
        · rw [mup_ne (by decide), mup_ne (by decide), mup_ne (by decide)]; exact R1.2.2
        · rw [mup_ne (by decide), mup_ne (by decide), mup_eq]; rfl
        · rw [mup_ne (by decide), mup_eq, hq]; rfl
        · rw [mup_eq, hq]
          show _ = if (i : Int) < pl t d then (i : Int) else i - pl t d
          by_cases g : (i : Int) < pl t d
          · rw [if_pos g, if_pos g]; omega
          · rw [if_neg g, if_neg g]; omega
      obtain ⟨h5', p5, L5, M5, f5, Q5, R5⟩ := s_tryRule Q4 hS2 hz (hX_V (a := i) W h0 h1 h2 h3 h4) RX
      refine ⟨(h5', ((i + 1 : Nat) : Int)), ⟨rfl, p5, L5, M5, Q5, ?_⟩, ?_⟩
      · rw [R5 1 (by decide), R5 2 (by decide), R5 3 (by decide)]
        refine ⟨?_, ?_, ?_⟩
        · rw [mup_ne (by decide), mup_ne (by decide), mup_ne (by decide)]; exact R1.1
        · rw [mup_ne (by decide), mup_ne (by decide), mup_ne (by decide)]; exact R1.2.1
        · rw [mup_ne (by decide), mup_ne (by decide), mup_ne (by decide)]; exact R1.2.2
      · have hq01 : q = 0 ∨ q = 1 := by rw [hq]; split <;> simp
        have hqp : 0 ≤ q * pl t d ∧ q * pl t d ≤ 4 := by
          rcases hq01 with e | e
          · rw [e, Int.zero_mul]; decide
          · rw [e, Int.one_mul]; omega
        unfold f_Notches_seekStep_J107
        simp only [C2]
        rw [chk_t trivial, chk_t (by decide), wth]
        simp only [C3]
        rw [chk_t trivial, chk_t trivial, chk_t trivial, chk_t (by decide), chk_t B3.T, chk_t B3.T6, chk_t (by rw [B3.L6]; have := W.1; omega), chk_t trivial, chk_t (by decide), mup_eq, B3.V6 d h4.1 h4.2, w32_id (x := q * pl t d) (by omega) (by omega), w32_id (by omega) (by omega), wth]
        simp only [C4]
        rw [chk_t trivial, f5, bndT_ok (by decide), wtv, w32_n i (by omega)]
    show ∃ b' : mH × Int, _ ∧ f_Notches_seekStep_L56 K 64 5 41 54 b d (n + 1) h1' i = _
    rw [f_Notches_seekStep_L56, if_neg h5, chk_t B1.T, chk_t B1.T6, chk_t (by rw [B1.L6]; have := W.1; omega), B1.V6 d h4.1 h4.2, w32_id (by omega) (by omega), if_neg (by omega)]
    simp only [C1]
    rw [chk_t trivial, chk_t trivial, chk_t (by decide), wth]
    simp only [C2]
    rw [chk_t trivial, chk_t B2.T, chk_t B2.T6, chk_t (by rw [B2.L6]; have := W.1; omega), B2.V6 d h4.1 h4.2]
    by_cases g : pl t d ≤ i
    · rw [if_pos g]; exact step 1 (by rw [if_neg (by omega)])
    · rw [if_neg g]; exact step 0 (by rw [if_pos (by omega)])
  · obtain ⟨h1', r⟩ := x
    obtain ⟨hr_, p1, L1, M1, Q1_, R1⟩ := hx
    have hr : r = ((2 * pl t d).toNat : Int) := hr_
    have Q1 : NQ h1' c E t M0 z m (hA t (wS t) z m b f u d (2 * pl t d).toNat B) p1 L1 M1 := Q1_
    clear hr_ Q1_
    have B1 := BH.of5 Q1.1 Q1.2.2.1.R
    refine ⟨h1', p1, L1, M1, ?_, Q1, R1⟩
    show f_Notches_seekStep_L56 K 64 5 41 54 b d (n + 1) h1' r = _
    rw [f_Notches_seekStep_L56, if_neg h5, chk_t B1.T, chk_t B1.T6, chk_t (by rw [B1.L6]; have := W.1; omega), B1.V6 d h4.1 h4.2, w32_id (by omega) (by omega), if_pos (by omega)]
theorem s_seekStep {t : tT} {M0 : aM} {z m : Int} {B : Int → Int} (Q : NQ h c E t M0 z m B p L M) (hS2 : nS t ≤ 20000) (hz : 0 ≤ z ∧ z < nS t) {b f u : Int} (h0 : 0 ≤ b ∧ b < nb t) (h1 : 0 ≤ f ∧ f < pl t b) (h3 : u = f + 1 ∨ u = f - 1) :
    ∃ h' p' L' M', f_Notches_seekStep h 64 5 41 54 b f u = some ((3, 0), h') ∧ NQ h' c E t M0 z m (hU t (wS t) z m b f u B) p' L' M' := by
  have W := Q.2.2.1.W
  have hn := W.1
  have B0 := BH.of5 Q.1 Q.2.2.1.R
  unfold f_Notches_seekStep hU
  by_cases g : u < 0
  · rw [if_pos g, if_pos (Or.inl g)]; exact ⟨h, p, L, M, rfl, Q⟩
  · rw [if_neg g, chk_t B0.T, s_Box_placesOf B0 W, bndT_ok (by decide), if_pos h0]
    by_cases g2 : u < pl t b
    · rw [if_pos g2, if_neg (by omega)]
      obtain ⟨A, F, K, G, q, hB⟩ := Q
      have C := A.no
      have A1 := A.aput (v := 66) 1 b (by decide) (by decide) (by decide) (by decide +kernel) (by decide) (by decide)
      have C1 := A1.no
      have A2 := A1.aput (v := 66) 2 f (by decide) (by decide) (by decide) (by decide +kernel) (by decide) (by decide)
      have C2 := A2.no
      have A3 := A2.aput (v := 66) 3 u (by decide) (by decide) (by decide) (by decide +kernel) (by decide) (by decide)
      have f3 : ∀ v, v ≠ 66 → mup (mup (mup M 66 1 b) 66 2 f) 66 3 u v = M v := fun v hv => by rw [mup_fn hv, mup_fn hv, mup_fn hv]
      have Q3 : NQ (hput (hput (hput h 66 1 b) 66 2 f) 66 3 u) c E t M0 z m B p L (mup (mup (mup M 66 1 b) 66 2 f) 66 3 u) :=
        ⟨A3, fun v hv => by rw [f3 v (by intro e; rw [e] at hv; exact hv (by decide))]; exact F v hv, K.keep (fun v hv => f3 v (by omega)) (fun v hv => rfl), G.fr (fun v hv => f3 v (by
          simp only [List.mem_cons, List.not_mem_nil, or_false] at hv
          rcases hv with rfl | rfl | rfl | rfl | rfl | rfl <;> decide)) (fun v hv => rfl), by rw [f3 64 (by decide)]; exact q, fun j g0 g1 => by rw [f3 65 (by decide)]; exact hB j g0 g1⟩
      simp only [C]
      rw [chk_t trivial, chk_t trivial, chk_t (by decide), wth]
      simp only [C1]
      rw [chk_t trivial, chk_t trivial, chk_t (by decide), wth]
      simp only [C2]
      rw [chk_t trivial, chk_t trivial, chk_t (by decide), wth]
      refine loop_r (F := fun n (x : mH × Int) => f_Notches_seekStep_L44 64 5 41 54 b n x.1 x.2) (P := fun r => ∃ h' p' L' M', r = some ((3, 0), h') ∧ NQ h' c E t M0 z m (hC t (wS t) z m b f u (nb t).toNat B) p' L' M') (fun i x => x.2 = (i : Int) ∧ ∃ p' L' M', NQ x.1 c E t M0 z m (hC t (wS t) z m b f u i B) p' L' M' ∧ (M' 66 1 = b ∧ M' 66 2 = f ∧ M' 66 3 = u)) (nb t).toNat (fun i hi x hx n => ?_) (fun x hx n => ?_) (i := 0) (b := (hput (hput (hput h 66 1 b) 66 2 f) 66 3 u, 0)) ⟨rfl, p, L, _, Q3, by rw [mup_ne (by decide), mup_ne (by decide), mup_eq], by rw [mup_ne (by decide), mup_eq], mup_eq _ _ _ _⟩ (by omega) (by omega)
      · obtain ⟨h4, r⟩ := x
        obtain ⟨hr_, p4, L4, M4, Q4_, R4⟩ := hx
        have hr : r = (i : Int) := hr_
        have Q4 : NQ h4 c E t M0 z m (hC t (wS t) z m b f u i B) p4 L4 M4 := Q4_
        clear hr_ Q4_
        subst hr
        right
        have B4 := BH.of5 Q4.1 Q4.2.2.1.R
        have j145 : ∀ h, f_Notches_seekStep_J145 (f_Notches_seekStep_L44 64 5 41 54 b n) i h = f_Notches_seekStep_L44 64 5 41 54 b n h ((i + 1 : Nat) : Int) := fun h => by
          unfold f_Notches_seekStep_J145; rw [wtv, w32_n i (by omega)]
        show ∃ b' : mH × Int, _ ∧ f_Notches_seekStep_L44 64 5 41 54 b (n + 1) h4 i = _
        rw [f_Notches_seekStep_L44, chk_t B4.T, B4.s2, if_neg (by omega)]
        by_cases e : (i : Int) = b
        · refine ⟨(h4, ((i + 1 : Nat) : Int)), ⟨rfl, p4, L4, M4, by rw [hC, if_pos e]; exact Q4, R4⟩, ?_⟩
          rw [show (1000000 : Nat) = 999999 + 1 from rfl, f_Notches_seekStep_L56, if_pos e, j145]
        · obtain ⟨h5, p5, L5, M5, f5, Q5, R5⟩ := s_seekFacts (K := fun h1 => f_Notches_seekStep_J145 (f_Notches_seekStep_L44 64 5 41 54 b n) i h1) Q4 hS2 hz (d := i) h0 h1 (show 0 ≤ u ∧ u < pl t b by omega) h3 (by omega) e R4
          exact ⟨(h5, ((i + 1 : Nat) : Int)), ⟨rfl, p5, L5, M5, by rw [hC, if_neg e]; exact Q5, R5⟩, by rw [f5, j145]⟩
      · obtain ⟨h4, r⟩ := x
        obtain ⟨hr_, p4, L4, M4, Q4_, R4⟩ := hx
        have hr : r = ((nb t).toNat : Int) := hr_
        have Q4 : NQ h4 c E t M0 z m (hC t (wS t) z m b f u (nb t).toNat B) p4 L4 M4 := Q4_
        clear hr_ Q4_
        have B4 := BH.of5 Q4.1 Q4.2.2.1.R
        refine ⟨h4, p4, L4, M4, ?_, Q4⟩
        show f_Notches_seekStep_L44 64 5 41 54 b (n + 1) h4 r = _
        rw [f_Notches_seekStep_L44, chk_t B4.T, B4.s2, if_pos (by omega)]
    · rw [if_neg g2, if_pos (Or.inr (by omega))]; exact ⟨h, p, L, M, rfl, Q⟩
end
