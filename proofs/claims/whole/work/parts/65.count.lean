/-! COUNTS OF ROWS OF STEPS -/
def sw (v : Int) : Int := if v = 58 then 59 else if v = 59 then 58 else v
theorem sw_sw (v : Int) : sw (sw v) = v := by unfold sw; split <;> (try split) <;> (try split) <;> (try split) <;> omega
theorem sw_ne {v : Int} (h1 : v ≠ 58) (h2 : v ≠ 59) : sw v = v := by unfold sw; rw [if_neg h1, if_neg h2]
section
variable {h : mH} {c : Int} {p L : Int → Int} {M : aM}
theorem At.swp (A : At h c p L M) : At (hput (hput h 57 0 (p 59)) 57 1 (p 58)) c (fun v => p (sw v)) (fun v => L (sw v)) (fun v => M (sw v)) := by
  have p57 : p 57 = 57 := (A.fx (by decide) (by decide) (by decide)).1
  have hlv : ∀ v, lv (fun v => M (sw v)) v → lv M (sw v) := fun v hv => by
    by_cases e1 : v = 58
    · rw [e1]; exact lv_fix M (by decide) (by decide)
    · by_cases e2 : v = 59
      · rw [e2]; exact lv_fix M (by decide) (by decide)
      · rw [sw_ne e1 e2]; exact hv
  have hkd : ∀ v, kd (sw v) = kd v := fun v => by
    by_cases e1 : v = 58
    · rw [e1]; decide +kernel
    · by_cases e2 : v = 59
      · rw [e2]; decide +kernel
      · rw [sw_ne e1 e2]
  have h58 : ∀ i, pt 58 i = 0 := fun i => pt_arr (by decide +kernel) (by decide)
  have h59 : ∀ i, pt 59 i = 0 := fun i => pt_arr (by decide +kernel) (by decide)
  obtain ⟨a1, a2, a3, a4, a5, a6, a7, a8, a9⟩ := A
  have i57 : ∀ v, lv (fun v => M (sw v)) v → p (sw v) = 57 → v = 57 := fun v hv e => by
    have := a3 (sw v) 57 (hlv v hv) (lv_fix M (by decide) (by decide)) (by rw [e, p57])
    rw [← sw_sw v, this]; decide
  refine ⟨?_, fun v hv => ?_, fun v w hv hw e => ?_, fun v h1 h2 h3 => ?_, fun v h1 h2 => ?_, fun v hv => ?_, fun v i hv hp => ?_, fun v i hv hp => ?_, fun i h1 h2 h3 => ?_⟩
  · have e1 : sumL (fun v => L (sw v)) = sumL L := by simp (decide := true) only [sumL, sw, if_true, if_false]; omega
    have e2 : sumC (fun v => L (sw v)) = sumC L := by simp (decide := true) only [sumC, sw, if_true, if_false]; omega
    unfold AtN at a1 ⊢
    rw [e1, e2]; exact a1
  · have := a2 (sw v) (hlv v hv)
    rw [hkd] at this; exact this
  · have := a3 (sw v) (sw w) (hlv v hv) (hlv w hw) e
    rw [← sw_sw v, this, sw_sw]
  · have n1 : v ≠ 58 := fun e => h3 (by rw [e]; decide)
    have n2 : v ≠ 59 := fun e => h3 (by rw [e]; decide)
    dsimp only; rw [sw_ne n1 n2]; exact a4 v h1 h2 h3
  · show L (sw v) = ln v
    rw [sw_ne (by omega) (by omega)]; exact a5 v h1 h2
  · show 0 ≤ L (sw v) ∧ L (sw v) ≤ mx v
    by_cases e1 : v = 58
    · rw [e1]; exact a6 59 (by decide)
    · by_cases e2 : v = 59
      · rw [e2]; exact a6 58 (by decide)
      · rw [sw_ne e1 e2]; exact a6 v hv
  · rw [qp_V, qp_V, if_neg, if_neg]
    · refine a7 (sw v) i (hlv v hv) ?_
      by_cases e1 : v = 58
      · rw [e1]; exact h59 i
      · by_cases e2 : v = 59
        · rw [e2]; exact h58 i
        · rw [sw_ne e1 e2]; exact hp
    · rintro ⟨q1, q2⟩
      rw [i57 v hv q1, q2] at hp
      exact absurd hp (by decide +kernel)
    · rintro ⟨q1, q2⟩
      rw [i57 v hv q1, q2] at hp
      exact absurd hp (by decide +kernel)
  · have n1 : v ≠ 58 := fun e => hp (by rw [e]; exact h58 i)
    have n2 : v ≠ 59 := fun e => hp (by rw [e]; exact h59 i)
    show hpV _ (p (sw v)) i = p (sw (pt v i))
    rw [sw_ne n1 n2, qp_V, qp_V]
    have hv' := hlv v hv
    rw [sw_ne n1 n2] at hv'
    by_cases e : v = 57
    · subst e
      rw [p57]
      by_cases i0 : i = 0
      · subst i0
        rw [if_neg (by omega), if_pos ⟨rfl, rfl⟩, show pt 57 0 = 58 by decide +kernel]; rfl
      · by_cases i1 : i = 1
        · subst i1
          rw [if_pos ⟨rfl, rfl⟩, show pt 57 1 = 59 by decide +kernel]; rfl
        · exfalso
          apply hp
          unfold pt
          rw [if_neg (by decide +kernel), if_neg (by decide +kernel)]
          rw [show ptL.find? (fun q => q.1 == 57 && q.2.1 == i) = none from List.find?_eq_none.mpr (fun q hq => by
            have H : ∀ q ∈ ptL, q.1 = 57 → q.2.1 = 0 ∨ q.2.1 = 1 := by decide +kernel
            intro g
            rw [Bool.and_eq_true, beq_iff_eq, beq_iff_eq] at g
            have := H q hq g.1
            omega)]
    · have np : p v ≠ 57 := fun q => e (a3 v 57 hv' (lv_fix M (by decide) (by decide)) (by rw [q, p57]))
      rw [if_neg (fun q => np q.1), if_neg (fun q => np q.1), a8 v i hv' hp, sw_ne]
      · intro q
        have := ptL_of (by decide) q
        have H : ∀ q ∈ ptL, q.2.2 = 58 → q.1 = 57 := by decide +kernel
        exact e (H _ this rfl)
      · intro q
        have := ptL_of (by decide) q
        have H : ∀ q ∈ ptL, q.2.2 = 59 → q.1 = 57 := by decide +kernel
        exact e (H _ this rfl)
  · show M (sw 31) i = p (sw (100 + 13 * i))
    rw [sw_ne (by decide) (by decide), sw_ne (by omega) (by omega)]
    exact a9 i h1 h2 h3
end
/-- one step on, of the steps that fl lets, but not into sh -/
def li (t : tT) (fl : Int → Bool) (sh : Int) (V : Int → Int) (s : Int) : Nat → (Int → Int) → (Int → Int)
  | 0, U => U
  | v + 1, U => if (gs t s v && fl v && decide (s + sf t v ≠ sh)) = true then u1 (li t fl sh V s v U) (s + sf t v) (w64 (li t fl sh V s v U (s + sf t v) + V s)) else li t fl sh V s v U
def lo (t : tT) (fl : Int → Bool) (sh : Int) (V : Int → Int) : Nat → (Int → Int)
  | 0 => fun _ => 0
  | s + 1 => if V s = 0 then lo t fl sh V s else li t fl sh V s (nK t) (lo t fl sh V s)
def LO (t : tT) (fl : Int → Bool) (sh : Int) (V : Int → Int) : Int → Int := lo t fl sh V (nN t)
def dl (z : Int) : Int → Int := fun s => if s = z then 1 else 0
def it (t : tT) (sh z : Int) : Nat → (Int → Int)
  | 0 => dl z
  | n + 1 => LO t (fun _ => true) sh (it t sh z n)
def sq (V : Int → Int) : Nat → Int
  | 0 => 0
  | n + 1 => w64 (sq V n + V n)
def rwV (t : tT) (z n sh : Int) : Int := if z = sh then 0 else sq (it t sh z n.toNat) (nN t)
def flT (v : Int) (k : Int) : Bool := decide (v = -1) || decide (v = k)
def itK (t : tT) (z : Int) (N : Int → Int) : Nat → (Int → Int)
  | 0 => dl z
  | n + 1 => LO t (flT (N n)) (-1) (itK t z N n)
def wyi (t : tT) (S : tB) (s : Int) : Nat → (Int → Int) → (Int → Int)
  | 0, U => U
  | v + 1, U => if (gs t s v && decide (bF S (s + sf t v) = bF S s + 1)) = true then u1 (wyi t S s v U) (s + sf t v) (w64 (wyi t S s v U (s + sf t v) + wyi t S s v U s)) else wyi t S s v U
def wy (t : tT) (S : tB) (z : Int) : Nat → (Int → Int)
  | 0 => dl z
  | i + 1 => wyi t S (bO S i) (nK t) (wy t S z i)
theorem li_stop {t : tT} {fl : Int → Bool} {sh : Int} {V : Int → Int} {s : Int} {U : Int → Int} {j : Nat} : ∀ {k : Nat}, j ≤ k → (∀ v : Int, j ≤ v → v < k → (gs t s v && fl v) = false) → li t fl sh V s k U = li t fl sh V s j U
  | 0, h, _ => by rw [show j = 0 by omega]
  | k + 1, h, H => by
    by_cases e : j = k + 1
    · rw [e]
    · rw [li, if_neg (by rw [H k (by omega) (by omega)]; simp)]
      exact li_stop (by omega) (fun v g0 g1 => H v g0 (by omega))
theorem wyi_stop {t : tT} {S : tB} {s : Int} {U : Int → Int} {j : Nat} : ∀ {k : Nat}, j ≤ k → (∀ v : Int, j ≤ v → v < k → gs t s v = false) → wyi t S s k U = wyi t S s j U
  | 0, h, _ => by rw [show j = 0 by omega]
  | k + 1, h, H => by
    by_cases e : j = k + 1
    · rw [e]
    · rw [wyi, if_neg (by rw [H k (by omega) (by omega)]; simp)]
      exact wyi_stop (by omega) (fun v g0 g1 => H v g0 (by omega))
section
variable {h : mH} {c : Int} {p L : Int → Int} {M : aM} {E : Int → tT}
/-- the counter holds V -/
def CV (M : aM) (L : Int → Int) (n : Int) (V : Int → Int) : Prop := n ≤ L 58 ∧ n ≤ L 59 ∧ ∀ s, 0 ≤ s → s < n → M 58 s = V s
theorem s_Counter_begin (A : At h c p L M) {t : tT} (W : WS t) (hS2 : nS t ≤ 20000) (G : GS M L t) {z : Int} : ∃ h' p' L' M', f_Counter_begin h 57 41 z = some ((3, 0), h') ∧ At h' c p' L' M' ∧ Of [58, 59] L L' ∧ Fr [58, 59] M M' ∧ CV M' L' (nS t) (dl z) := by
  have hn := nN_eq W
  have C := A.ca
  have D := A.gr
  obtain ⟨q3, h3, f3, t3, p3, L3, M3, A3, l3, op3, oL3, oM3⟩ := s_Nb_grownLong A (v := 58) (o := 57) (i := 0) (need := nS t) (by decide) (by decide +kernel) (by decide) (by decide) (by decide +kernel) (by decide +kernel) (most := 20000) (by decide +kernel) hS2
  have C3 := A3.ca
  have D3 := A3.gr
  obtain ⟨q4, h4, f4, t4, p4, L4, M4, A4, l4, op4, oL4, oM4⟩ := s_Nb_grownLong A3 (v := 59) (o := 57) (i := 1) (need := nS t) (by decide) (by decide +kernel) (by decide) (by decide) (by decide +kernel) (by decide +kernel) (most := 20000) (by decide +kernel) hS2
  have l58 : nS t ≤ L4 58 := by rw [oL4 58 (by decide)]; exact l3
  have F4 : Fr [58, 59] M M4 := (oM3.mono (by decide)).tr (oM4.mono (by decide))
  unfold f_Counter_begin
  simp only [C, D]
  rw [chk_t trivial, chk_t trivial, G.1.1, f3, bndR_ok, t3, chk_t (by decide +kernel), wth]
  simp only [C3, D3]
  rw [chk_t trivial, chk_t trivial, show M3 41 2 = nS t by rw [oM3 41 (by decide)]; exact G.1.1, f4, bndR_ok, t4, chk_t (by decide +kernel), wth]
  refine loop_r (F := fun n (b : mH × Int) => f_Counter_begin_L38 57 41 z n b.1 b.2) (P := fun r => ∃ h' p' L' M', r = some ((3, 0), h') ∧ At h' c p' L' M' ∧ Of [58, 59] L L' ∧ Fr [58, 59] M M' ∧ CV M' L' (nS t) (dl z)) (fun i b => b.2 = (i : Int) ∧ ∃ M', At b.1 c p4 L4 M' ∧ Fr [58, 59] M M' ∧ ∀ s, 0 ≤ s → s < (i : Int) → M' 58 s = dl z s) (nN t) (fun i hi b hb n => ?_) (fun b hb n => ?_) (i := 0) (b := (hput h4 57 1 q4, 0)) ⟨rfl, M4, A4, F4, fun s g0 g1 => by omega⟩ (by omega) (by omega)
  · obtain ⟨h5, r⟩ := b
    obtain ⟨hr_, M5, A5_, F5, hv⟩ := hb
    have hr : r = (i : Int) := hr_
    have A5 : At h5 c p4 L4 M5 := A5_
    clear hr_ A5_
    subst hr
    right
    have C5 := A5.ca
    have D5 := A5.gr
    have e2 : M5 41 2 = nS t := by rw [F5 41 (by decide)]; exact G.1.1
    have A6 := A5.gput (v := 58) i (dl z i) (by decide) (by decide) (by decide +kernel) (by decide) (by decide)
    have j70 : ∀ x, f_Counter_begin_J70 (f_Counter_begin_L38 57 41 z n) i (p4 58) i x h5 = f_Counter_begin_L38 57 41 z n (hput h5 (p4 58) i x) ((i + 1 : Nat) : Int) := fun x => by
      unfold f_Counter_begin_J70
      simp only [C5]
      rw [chk_t trivial, chk_t (by omega), wth, wtv, w32_n i (by omega)]
    refine ⟨(hput h5 (p4 58) i (dl z i), ((i + 1 : Nat) : Int)), ⟨rfl, _, A6, F5.pu (by decide), fun s g0 g1 => ?_⟩, ?_⟩
    · by_cases q1 : s = i
      · rw [q1, mup_eq]
      · rw [mup_ne (Or.inr q1)]; exact hv s g0 (by omega)
    · show f_Counter_begin_L38 57 41 z (n + 1) h5 i = f_Counter_begin_L38 57 41 z n (hput h5 (p4 58) i (dl z i)) ((i + 1 : Nat) : Int)
      rw [f_Counter_begin_L38]
      simp only [C5, D5]
      rw [chk_t trivial, e2, if_neg (by omega), chk_t trivial, chk_t (by decide), if_neg (by omega), chk_t trivial, j70, j70]
      unfold dl
      by_cases e : (i : Int) = z
      · rw [if_pos e, if_pos e]
      · rw [if_neg e, if_neg e]
  · obtain ⟨h5, r⟩ := b
    obtain ⟨hr_, M5, A5_, F5, hv⟩ := hb
    have hr : r = ((nN t : Nat) : Int) := hr_
    have A5 : At h5 c p4 L4 M5 := A5_
    clear hr_ A5_
    subst hr
    have D5 := A5.gr
    have e2 : M5 41 2 = nS t := by rw [F5 41 (by decide)]; exact G.1.1
    refine ⟨h5, p4, L4, M5, ?_, A5, (oL3.mono (by decide)).tr (oL4.mono (by decide)), F5, l58, l4, fun s g0 g1 => hv s g0 (by omega)⟩
    show f_Counter_begin_L38 57 41 z (n + 1) h5 _ = _
    rw [f_Counter_begin_L38]
    simp only [D5]
    rw [chk_t trivial, e2, if_pos (by omega)]
/-- the steps of one stand -/
theorem s_Counter_lead_in (A : At h c p L M) {t : tT} (W : WS t) (hS2 : nS t ≤ 20000) (G : GS M L t) {K : mH → Option mR} {fl : Int → Bool} {sh : Int} {V U : Int → Int} (Vh : CV M L (nS t) V) (Uh : ∀ s, 0 ≤ s → s < nS t → M 59 s = U s) {s m : Int} (hs0 : 0 ≤ s) (hs1 : s < nS t) (hm0 : 0 ≤ m) (hm1 : m < 262144) (hx : ∀ v : Nat, v < nK t → bt m v = (gs t s v && fl v)) :
    ∃ h' M', f_Counter_leadOn_L87 K 57 41 sh s m 1000000 h 0 = K h' ∧ At h' c p L M' ∧ Fr [59] M M' ∧ ∀ w, 0 ≤ w → w < nS t → M' 59 w = li t fl sh V s (nK t) U w := by
  have hkk := nK_rng W
  refine loop_r (F := fun n (b : mH × Int) => f_Counter_leadOn_L87 K 57 41 sh s m n b.1 b.2) (P := fun r => ∃ h' M', r = K h' ∧ At h' c p L M' ∧ Fr [59] M M' ∧ ∀ w, 0 ≤ w → w < nS t → M' 59 w = li t fl sh V s (nK t) U w) (fun i b => b.2 = (i : Int) ∧ ∃ M', At b.1 c p L M' ∧ Fr [59] M M' ∧ ∀ w, 0 ≤ w → w < nS t → M' 59 w = li t fl sh V s i U w) (nK t) (fun i hi b hb n => ?_) (fun b hb n => ?_) (i := 0) (b := (h, 0)) ⟨rfl, M, A, Fr.rf _ _, Uh⟩ (by omega) (by omega)
  · obtain ⟨h1, r⟩ := b
    obtain ⟨hr_, M1, A1_, F1, hv⟩ := hb
    have hr : r = (i : Int) := hr_
    have A1 : At h1 c p L M1 := A1_
    clear hr_ A1_
    subst hr
    have C1 := A1.ca
    have D1 := A1.gr
    have e3 : M1 41 3 = 2 * nb t := by rw [F1 41 (by decide)]; exact G.1.2.1
    have e42 : M1 42 i = sf t i := by rw [F1 42 (by decide)]; exact G.2.1 i (by omega) (by omega)
    have hL := Vh.1
    have hL2 := Vh.2.1
    have e58 : M1 58 s = V s := by rw [F1 58 (by decide)]; exact Vh.2.2 s hs0 hs1
    have hw := GS_42 W G i (by omega)
    rw [G.2.1 i (by omega) (by omega)] at hw
    have j165 : ∀ h, f_Counter_leadOn_J165 (f_Counter_leadOn_L87 K 57 41 sh s m n) i h = f_Counter_leadOn_L87 K 57 41 sh s m n h ((i + 1 : Nat) : Int) := fun h => by
      unfold f_Counter_leadOn_J165; rw [wtv, w32_n i (by omega)]
    show (∃ h' M', f_Counter_leadOn_L87 K 57 41 sh s m (n + 1) h1 i = K h' ∧ _) ∨ ∃ b' : mH × Int, _ ∧ f_Counter_leadOn_L87 K 57 41 sh s m (n + 1) h1 i = _
    rw [f_Counter_leadOn_L87]
    simp only [C1, D1]
    rw [chk_t trivial, e3, if_neg (by omega)]
    by_cases g : qshr m i = 0
    · left
      rw [if_pos g]
      refine ⟨h1, M1, rfl, A1, F1, fun w g0 g1 => ?_⟩
      rw [li_stop (j := i) (by omega) (fun v g2 g3 => ?_)]
      · exact hv w g0 g1
      · have := hx v.toNat (by omega)
        rw [show ((v.toNat : Nat) : Int) = v by omega, qshr_0 hm0 hm1 (by omega) (by omega) g (show (i : Int) ≤ (v.toNat : Nat) by omega)] at this
        exact this.symm
    · right
      have hxi := hx i hi
      rw [if_neg g, chk_t trivial, chk_t trivial, chk_t (by omega), wtv, e42, w32_id (by omega) (by omega)]
      by_cases g2 : bt m i = true
      · rw [if_pos ((bt_at (by omega) (by omega) (by omega) (by omega)).mpr (by rw [Int.toNat_natCast]; exact g2))]
        rw [g2] at hxi
        by_cases g3 : s + sf t i = sh
        · rw [if_pos g3, j165]
          refine ⟨(h1, ((i + 1 : Nat) : Int)), ⟨rfl, M1, A1, F1, fun w g0 g1 => ?_⟩, rfl⟩
          rw [li, if_neg (by rw [decide_eq_false (by simp [g3])]; simp)]; exact hv w g0 g1
        · have hgs : gs t s i = true := by
            cases q : gs t s i
            · rw [q] at hxi; cases hxi
            · rfl
          obtain ⟨a1, a2, a3, a4⟩ := go_rng hgs
          have hto := go_to W hs0 hs1 a1 a2 a3 a4
          have A2 := A1.gput (v := 59) (s + sf t i) (w64 (li t fl sh V s i U (s + sf t i) + V s)) (by decide) (by decide) (by decide +kernel) (by decide) (by decide)
          rw [if_neg g3, if_neg (by omega), chk_t trivial, chk_t (by decide), if_neg (by omega), chk_t trivial, chk_t trivial, chk_t (by omega), chk_t trivial, chk_t trivial, chk_t (by omega), chk_t trivial, chk_t (by omega), wth, hv _ hto.1 hto.2.1, e58, j165]
          refine ⟨(hput h1 (p 59) (s + sf t i) (w64 (li t fl sh V s i U (s + sf t i) + V s)), ((i + 1 : Nat) : Int)), ⟨rfl, _, A2, F1.pu (by decide), fun w g0 g1 => ?_⟩, rfl⟩
          rw [li, ← hxi, decide_eq_true g3, Bool.true_and, if_pos rfl]
          by_cases q : w = s + sf t i
          · rw [q, mup_eq, u1_eq]
          · rw [mup_ne (Or.inr q), u1_ne q]; exact hv w g0 g1
      · rw [if_neg (fun e => g2 (by have := (bt_at (by omega) (by omega) (by omega) (by omega)).mp e; rwa [Int.toNat_natCast] at this)), j165]
        refine ⟨(h1, ((i + 1 : Nat) : Int)), ⟨rfl, M1, A1, F1, fun w g0 g1 => ?_⟩, rfl⟩
        rw [li, ← hxi, Bool.eq_false_iff.mpr g2, Bool.false_and, if_neg (by decide)]; exact hv w g0 g1
  · obtain ⟨h1, r⟩ := b
    obtain ⟨hr_, M1, A1_, F1, hv⟩ := hb
    have hr : r = ((nK t : Nat) : Int) := hr_
    have A1 : At h1 c p L M1 := A1_
    clear hr_ A1_
    subst hr
    have D1 := A1.gr
    have e3 : M1 41 3 = 2 * nb t := by rw [F1 41 (by decide)]; exact G.1.2.1
    refine ⟨h1, M1, ?_, A1, F1, hv⟩
    show f_Counter_leadOn_L87 K 57 41 sh s m (n + 1) h1 _ = _
    rw [f_Counter_leadOn_L87]
    simp only [D1]
    rw [chk_t trivial, e3, if_pos (by omega)]
theorem s_Counter_leadOn (A : At h c p L M) {t : tT} (W : WS t) (hS2 : nS t ≤ 20000) (G : GP M M L t) {fl : Int → Bool} {st' sh : Int} {V : Int → Int} (Vh : CV M L (nS t) V) (hst : ∀ v : Nat, v < nK t → bt st' v = fl v) :
    ∃ h' p' L' M', f_Counter_leadOn h 57 41 st' sh = some ((3, 0), h') ∧ At h' c p' L' M' ∧ Of [58, 59] L L' ∧ Fr [58, 59] M M' ∧ CV M' L' (nS t) (LO t fl sh V) := by
  have hkk := nK_rng W
  have hn := nN_eq W
  have hL := Vh.1
  have hL2 := Vh.2.1
  unfold f_Counter_leadOn
  refine loop_r (F := fun n (b : mH × Int) => f_Counter_leadOn_L3 (fun h1 => f_Counter_leadOn_J36 57 41 st' sh h1) 57 41 n b.1 b.2) (P := fun r => ∃ h' p' L' M', r = some ((3, 0), h') ∧ At h' c p' L' M' ∧ Of [58, 59] L L' ∧ Fr [58, 59] M M' ∧ CV M' L' (nS t) (LO t fl sh V)) (fun i b => b.2 = (i : Int) ∧ ∃ M', At b.1 c p L M' ∧ Fr [59] M M' ∧ ∀ w, 0 ≤ w → w < (i : Int) → M' 59 w = 0) (nN t) (fun i hi b hb n => ?_) (fun b hb n => ?_) (i := 0) (b := (h, 0)) ⟨rfl, M, A, Fr.rf _ _, fun w g0 g1 => by omega⟩ (by omega) (by omega)
  · obtain ⟨h1, r⟩ := b
    obtain ⟨hr_, M1, A1_, F1, hv⟩ := hb
    have hr : r = (i : Int) := hr_
    have A1 : At h1 c p L M1 := A1_
    clear hr_ A1_
    subst hr
    right
    have C1 := A1.ca
    have D1 := A1.gr
    have e2 : M1 41 2 = nS t := by rw [F1 41 (by decide)]; exact G.1.1.1
    have A2 := A1.gput (v := 59) i 0 (by decide) (by decide) (by decide +kernel) (by decide) (by decide)
    refine ⟨(hput h1 (p 59) i 0, ((i + 1 : Nat) : Int)), ⟨rfl, _, A2, F1.pu (by decide), fun w g0 g1 => ?_⟩, ?_⟩
    · by_cases q : w = i
      · rw [q, mup_eq]
      · rw [mup_ne (Or.inr q)]; exact hv w g0 (by omega)
    · show f_Counter_leadOn_L3 _ 57 41 (n + 1) h1 i = f_Counter_leadOn_L3 _ 57 41 n (hput h1 (p 59) i 0) ((i + 1 : Nat) : Int)
      rw [f_Counter_leadOn_L3]
      simp only [C1, D1]
      rw [chk_t trivial, e2, if_neg (by omega), chk_t trivial, chk_t (by decide), if_neg (by omega), chk_t trivial, chk_t trivial, chk_t (by omega), wth, wtv, w32_n i (by omega)]
  · obtain ⟨h0, r⟩ := b
    obtain ⟨hr_, M0, A0_, F0, hv0⟩ := hb
    have hr : r = ((nN t : Nat) : Int) := hr_
    have A0 : At h0 c p L M0 := A0_
    clear hr_ A0_
    subst hr
    have D0 := A0.gr
    have e2 : M0 41 2 = nS t := by rw [F0 41 (by decide)]; exact G.1.1.1
    show ∃ h' p' L' M', f_Counter_leadOn_L3 _ 57 41 (n + 1) h0 _ = _ ∧ _
    rw [f_Counter_leadOn_L3]
    simp only [D0]
    rw [chk_t trivial, e2, if_pos (by omega)]
    unfold f_Counter_leadOn_J36
    refine loop_r (F := fun n (b : mH × Int) => f_Counter_leadOn_L39 (fun h1 => f_Counter_leadOn_J177 57 h1) 57 41 st' sh n b.1 b.2) (P := fun r => ∃ h' p' L' M', r = some ((3, 0), h') ∧ At h' c p' L' M' ∧ Of [58, 59] L L' ∧ Fr [58, 59] M M' ∧ CV M' L' (nS t) (LO t fl sh V)) (fun i b => b.2 = (i : Int) ∧ ∃ M', At b.1 c p L M' ∧ Fr [59] M M' ∧ ∀ w, 0 ≤ w → w < nS t → M' 59 w = lo t fl sh V i w) (nN t) (fun i hi b hb n => ?_) (fun b hb n => ?_) (i := 0) (b := (h0, 0)) ⟨rfl, M0, A0, F0, fun w g0 g1 => hv0 w g0 (by omega)⟩ (by omega) (by omega)
    · obtain ⟨h1, r⟩ := b
      obtain ⟨hr_, M1, A1_, F1, hv⟩ := hb
      have hr : r = (i : Int) := hr_
      have A1 : At h1 c p L M1 := A1_
      clear hr_ A1_
      subst hr
      right
      have C1 := A1.ca
      have D1 := A1.gr
      have e2 : M1 41 2 = nS t := by rw [F1 41 (by decide)]; exact G.1.1.1
      have G1 : GP M1 M1 L t := G.fr (fun v hv => F1 v (by
        simp only [List.mem_cons, List.not_mem_nil, or_false] at hv
        rcases hv with rfl | rfl | rfl | rfl | rfl | rfl <;> decide)) (fun _ _ => rfl)
      have V1 : CV M1 L (nS t) V := ⟨hL, hL2, fun s g0 g1 => by rw [F1 58 (by decide)]; exact Vh.2.2 s g0 g1⟩
      have e58 : M1 58 i = V i := V1.2.2 i (by omega) (by omega)
      have j82 : ∀ m, 0 ≤ m → m < 262144 → (∀ v : Nat, v < nK t → bt m v = (gs t i v && (fun v => fl v && decide (V i ≠ 0)) v)) → (∃ b' : mH × Int, (b'.2 = ((i + 1 : Nat) : Int) ∧ ∃ M', At b'.1 c p L M' ∧ Fr [59] M M' ∧ ∀ w, 0 ≤ w → w < nS t → M' 59 w = lo t fl sh V (i + 1) w) ∧ f_Counter_leadOn_J82 (f_Counter_leadOn_L39 (fun h1 => f_Counter_leadOn_J177 57 h1) 57 41 st' sh n) 57 41 sh i m h1 = f_Counter_leadOn_L39 (fun h1 => f_Counter_leadOn_J177 57 h1) 57 41 st' sh n b'.1 b'.2) := fun m hm0 hm1 hx => by
        obtain ⟨h2, M2, f2, A2, F2, hv2⟩ := s_Counter_lead_in A1 W hS2 G1.1 (K := fun h1 => f_Counter_leadOn_J171 (f_Counter_leadOn_L39 (fun h1 => f_Counter_leadOn_J177 57 h1) 57 41 st' sh n) i h1) (fl := fun v => fl v && decide (V i ≠ 0)) (sh := sh) V1 hv (s := i) (by omega) (by omega) hm0 hm1 hx
        unfold f_Counter_leadOn_J82
        rw [f2]
        unfold f_Counter_leadOn_J171
        rw [wtv, w32_n i (by omega)]
        refine ⟨(h2, ((i + 1 : Nat) : Int)), ⟨rfl, M2, A2, F1.tr F2, fun w g0 g1 => ?_⟩, rfl⟩
        rw [hv2 w g0 g1, lo]
        by_cases e : V i = 0
        · rw [if_pos e, li_stop (j := 0) (by omega) (fun v _ _ => by rw [decide_eq_false (by simp [e])]; simp)]; rfl
        · rw [if_neg e]
          congr 1
          congr 1
          funext v
          rw [decide_eq_true e, Bool.and_true]
      show ∃ b' : mH × Int, _ ∧ f_Counter_leadOn_L39 _ 57 41 st' sh (n + 1) h1 i = _
      rw [f_Counter_leadOn_L39]
      simp only [C1, D1]
      rw [chk_t trivial, e2, if_neg (by omega), chk_t trivial, chk_t (by decide), if_neg (by omega), chk_t trivial, chk_t trivial, chk_t (by omega), e58]
      by_cases g : V i = 0
      · rw [if_pos (qlcmp_eq.mpr g)]
        exact j82 0 (by decide) (by decide) (fun v _ => by rw [bt_0, decide_eq_false (by simp [g])]; simp)
      · rw [if_neg (fun e => g (qlcmp_eq.mp e)), chk_t trivial, s_Graph_stepsFrom A1 W G1.1 G1.2.1, bndT_ok (by decide), if_pos (by omega)]
        have hbits : ∀ v : Nat, v < 32 → bt (qand (mkM (gm t (wB t) i) (nK t)) st') v = ((decide (v < nK t) && gm t (wB t) i v) && bt st' v) := fun v hv => by
          rw [bt_qand, bt_mkM _ (by omega) hv]
        have hr := mask_rng (k := 18) (by decide) (qand_rng (mkM (gm t (wB t) i) (nK t)) st') (fun v g0 g1 => by rw [hbits v g1, decide_eq_false (by omega)]; rfl)
        refine j82 _ hr.1 (by have := hr.2; omega) (fun v hv => ?_)
        dsimp only
        rw [hbits v (by omega), decide_eq_true hv, Bool.true_and, gm_gs W (by omega) (by omega), hst v hv, decide_eq_true g, Bool.and_true]
    · obtain ⟨h1, r⟩ := b
      obtain ⟨hr_, M1, A1_, F1, hv⟩ := hb
      have hr : r = ((nN t : Nat) : Int) := hr_
      have A1 : At h1 c p L M1 := A1_
      clear hr_ A1_
      subst hr
      have C1 := A1.ca
      have D1 := A1.gr
      have e2 : M1 41 2 = nS t := by rw [F1 41 (by decide)]; exact G.1.1.1
      have A2 := A1.swp
      refine ⟨_, _, _, _, ?_, A2, fun v hv => ?_, fun v hv => ?_, hL2, hL, fun w g0 g1 => hv w g0 g1⟩
      · show f_Counter_leadOn_L39 _ 57 41 st' sh (n + 1) h1 _ = _
        rw [f_Counter_leadOn_L39]
        simp only [D1]
        rw [chk_t trivial, e2, if_pos (by omega)]
        unfold f_Counter_leadOn_J177
        simp only [C1]
        rw [chk_t trivial, wtv, chk_t trivial, chk_t trivial, wth, qp_T]
        simp only [C1]
        rw [chk_t trivial, wth]
      · simp only [List.mem_cons, List.not_mem_nil, or_false, not_or] at hv
        show L (sw v) = L v
        rw [sw_ne hv.1 hv.2]
      · simp only [List.mem_cons, List.not_mem_nil, or_false, not_or] at hv
        show M1 (sw v) = M v
        rw [sw_ne hv.1 hv.2]; exact F1 v (by simp; exact hv.2)
theorem s_Counter_rowsAt (A : At h c p L M) {n : Int} {V : Int → Int} (Vh : CV M L n V) {s : Int} (h0 : 0 ≤ s) (h1 : s < n) : f_Counter_rowsAt h 57 s = some ((1, V s), h) := by
  have C := A.ca
  have := Vh.1
  unfold f_Counter_rowsAt
  rw [if_neg (by omega)]
  simp only [C]
  rw [chk_t trivial, chk_t (by decide), if_neg (by omega), chk_t trivial, chk_t trivial, chk_t (by omega), Vh.2.2 s h0 h1]
end
