/-! JUDGING A VERSE; WHAT STOPS A STEP -/
def vO (t : tT) (N : Int → Int) : Nat → Int
  | 0 => if isO t = true then -2 else -1
  | n + 1 => if (vP t N n).2 = n ∧ whN (vP t N n).1 (N n) = 0 then (if vO t N n = -1 ∧ isO (vP t N (n + 1)).1 = true then (n : Int) else vO t N n) else vO t N n
theorem vO_end {t : tT} {N : Int → Int} {n : Nat} (h : (vP t N n).2 < n) : ∀ {m : Nat}, n ≤ m → vO t N m = vO t N n
  | 0, g => by rw [show n = 0 by omega]
  | m + 1, g => by
    by_cases e : n = m + 1
    · rw [e]
    · rw [vO, vO_end h (show n ≤ m by omega), if_neg]
      intro q
      have := vP_end h (show n ≤ m by omega)
      rw [this] at q; omega
def juV (t : tT) (N : Int → Int) (n : Nat) (w : Int) : Int :=
  if w = 0 then (if (vP t N n).2 = n then -1 else (vP t N n).2) else
  if w = 1 then (if (vP t N n).2 = n then 0 else whN (vP t N n).1 (N (vP t N n).2)) else
  if w = 2 then b2i (isO (vP t N n).1) else vO t N n
section
variable {h : mH} {c : Int} {p L : Int → Int} {M : aM} {E : Int → tT} {t : tT}
theorem KS.sp {M' : aM} (K : KS E M L t) (F : ∀ v, v < 18 ∨ 30 < v → M' v = M v) : KS E M' L t := K.keep (fun v hv => F v (by unfold kO at hv; omega)) (fun _ _ => rfl)
theorem c_judge (A : At h c p L M) (K : KS E M L t) {m : Int} (B : MDB t m) (hm : m ≤ 50000) {τ : Int} (w : Int) (ht : 0 ≤ τ → τ < 4 → (-1 ≤ M (33 + 2 * τ) 2 ∧ M (33 + 2 * τ) 2 ≤ 40) ∧ TL (M (34 + 2 * τ)) (M (33 + 2 * τ) 2)) :
    CR c M E t (f_Nb_judge h 1 τ w) (if 0 ≤ τ ∧ τ < 4 then (if M (33 + 2 * τ) 2 = -1 then (4, xS) else if 0 ≤ w ∧ w ≤ 3 then (0, juV t (M (34 + 2 * τ)) (M (33 + 2 * τ) 2).toNat w) else (4, xA)) else (4, xN)) := by
  have C := A.nb
  unfold f_Nb_judge
  simp only [C]
  rw [chk_t trivial]
  rcases s_Nb_needTray A τ with ⟨g1, e⟩ | ⟨g1, e⟩
  · rw [e, bndT_ex, if_neg g1]; exact CR_ex A K
  obtain ⟨hm2, hT⟩ := ht g1.1 g1.2
  have hk := TK.of g1.1 g1.2
  have hkr := hk.rg
  rw [e, if_pos g1]
  by_cases g2 : M (33 + 2 * τ) 2 = -1
  · rw [if_pos g2, bndT_ex, if_pos g2]; exact CR_ex A K
  rw [if_neg g2, bndT_ok (by decide), if_neg g2]
  by_cases g3 : w < 0
  · rw [if_pos g3, if_neg (by omega)]; exact CR_ex A K
  rw [if_neg g3]
  by_cases g4 : w ≤ 3
  · rw [if_pos g4, if_pos (show 0 ≤ w ∧ w ≤ 3 by omega)]
    generalize 33 + 2 * τ = k at *
    generalize 34 + 2 * τ = a at *
    obtain ⟨n0, hn0⟩ : ∃ n0 : Nat, M k 2 = n0 := ⟨(M k 2).toNat, by omega⟩
    rw [hn0, Int.toNat_natCast]
    rw [hn0] at hT hm2
    obtain ⟨h1, f1, A1⟩ := s_become A (BX5 M) (BX18 M) (by decide)
    rw [A.p5, A.p18] at f1
    have hF1 : ∀ v, v < 18 ∨ 30 < v → bcc M 5 18 12 v = M v := fun v hv => bcc_o (by omega)
    have R1 : BR18 (bcc M 5 18 12) t := (K.R.x.become (d := 18) K.W).eighteen
    generalize bcc M 5 18 12 = M1 at *
    have B1 := BH.of18 A1 R1
    have C1 := A1.nb
    have D1 := A1.b18
    have D0 := A.b5
    have D8 := A.b18
    have hF : ∀ {M' : aM}, (∀ v, v < 18 ∨ 30 < v → M' v = M v) → M' k = M k ∧ M' a = M a := fun F => ⟨F k (by omega), F a (by omega)⟩
    have hcA : ∀ {M' : aM}, (∀ v, v < 18 ∨ 30 < v → M' v = M v) → Fr cA M M' := fun F v hv => F v (by
      by_cases q : v < 18
      · exact Or.inl q
      · by_cases q2 : 30 < v
        · exact Or.inr q2
        · exfalso; apply hv
          have : v = 18 ∨ v = 19 ∨ v = 20 ∨ v = 21 ∨ v = 22 ∨ v = 23 ∨ v = 24 ∨ v = 25 ∨ v = 26 ∨ v = 27 ∨ v = 28 ∨ v = 29 ∨ v = 30 := by omega
          rcases this with rfl | rfl | rfl | rfl | rfl | rfl | rfl | rfl | rfl | rfl | rfl | rfl | rfl <;> decide)
    simp only [C, D0, D8]
    rw [chk_t trivial, chk_t trivial, chk_t trivial, f1, bndT_ok (by decide)]
    simp only [C1, D1]
    rw [chk_t trivial, chk_t trivial, s_Box_isOpened B1 K.W, bndT_ok (by decide)]
    -- the end
    have j131 : ∀ h2 M2 (o y z : Int), At h2 c p L M2 → (∀ v, v < 18 ∨ 30 < v → M2 v = M v) → BR18 M2 (vP t (M a) n0).1 → o = vO t (M a) n0 → z = (if (vP t (M a) n0).2 = n0 then -1 else (vP t (M a) n0).2) → y = (if (vP t (M a) n0).2 = n0 then 0 else whN (vP t (M a) n0).1 (M a (vP t (M a) n0).2)) → CR c M E t (f_Nb_judge_J131 1 w o y z h2) (0, juV t (M a) n0 w) := by
      intro h2 M2 o y z A2 F2 R2 ho hz hy
      have K2 := K.sp F2
      have C2 := A2.nb
      have D2 := A2.b18
      have B2 := BH.of18 A2 R2
      obtain ⟨a1, a2, a3⟩ := vP_ok (N := M a) K.W K.D B n0
      have W2 := Sq_WS a1.symm K.W
      refine CR_mv (hcA F2) ?_
      unfold f_Nb_judge_J131 juV
      by_cases w0 : w = 0
      · rw [if_pos w0, if_pos w0, ← hz]; exact CR_ok A2 K2
      rw [if_neg w0, if_neg w0]
      by_cases w1 : w = 1
      · rw [if_pos w1, if_pos w1, ← hy]; exact CR_ok A2 K2
      rw [if_neg w1, if_neg w1]
      by_cases w2 : w = 2
      · rw [if_pos w2, if_pos w2]
        unfold f_Nb_judge_J166
        simp only [C2]
        rw [chk_t trivial, chk_t B2.T, s_Box_isOpened B2 W2, bndT_ok (by decide)]
        by_cases go : isO (vP t (M a) n0).1 = true
        · have go' : allN (fun b => decide (pa (vP t (M a) n0).1 b = po (vP t (M a) n0).1 b)) (nb (vP t (M a) n0).1).toNat = true := go
          rw [if_pos go', if_neg (by decide), go]; exact CR_ok A2 K2
        · have go' : ¬ allN (fun b => decide (pa (vP t (M a) n0).1 b = po (vP t (M a) n0).1 b)) (nb (vP t (M a) n0).1).toNat = true := go
          rw [if_neg go', if_pos rfl, Bool.eq_false_iff.mpr go]; exact CR_ok A2 K2
      · rw [if_neg w2, if_neg w2, ← ho]; exact CR_ok A2 K2
    have j52 : ∀ o : Int, o = vO t (M a) 0 → CR c M E t (f_Nb_judge_J52 1 w k o h1) (0, juV t (M a) n0 w) := by
      intro o ho
      unfold f_Nb_judge_J52
      refine loop_r (F := fun n (x : mH × Int × Int × Int × Int) => f_Nb_judge_L63 (fun h1 x2 x3 x4 => f_Nb_judge_J131 1 w x2 x3 x4 h1) 1 k n x.1 x.2.1 x.2.2.1 x.2.2.2.1 x.2.2.2.2) (P := fun r => CR c M E t r (0, juV t (M a) n0 w)) (fun i x => x.2.2.2.2 = (i : Int) ∧ x.2.1 = vO t (M a) i ∧ ∃ M', At x.1 c p L M' ∧ (∀ v, v < 18 ∨ 30 < v → M' v = M v) ∧ BR18 M' (vP t (M a) i).1 ∧ (((vP t (M a) i).2 = i ∧ x.2.2.1 = 0 ∧ x.2.2.2.1 = -1) ∨ ((vP t (M a) i).2 < i ∧ x.2.2.1 = whN (vP t (M a) i).1 (M a (vP t (M a) i).2) ∧ x.2.2.1 ≠ 0 ∧ x.2.2.2.1 = (vP t (M a) i).2))) n0 (fun i hi x hx n => ?_) (fun x hx n => ?_) (i := 0) (b := (h1, o, 0, -1, 0)) ⟨rfl, ho, M1, A1, hF1, R1, Or.inl ⟨rfl, rfl, rfl⟩⟩ (by omega) (by omega)
      · obtain ⟨h2, o2, y2, z2, r⟩ := x
        obtain ⟨hr_, ho2, M2, A2_, F2, R2, hcase⟩ := hx
        have hr : r = (i : Int) := hr_
        have A2 : At h2 c p L M2 := A2_
        have ho2 : o2 = vO t (M a) i := ho2
        clear hr_ A2_
        subst hr
        have C2 := A2.nb
        have D2 := A2.b18
        have T2 := A2.tk hk
        obtain ⟨a1, a2, a3⟩ := vP_ok (N := M a) K.W K.D B i
        have W2 := Sq_WS a1.symm K.W
        show CR c M E t (f_Nb_judge_L63 (fun h1 x2 x3 x4 => f_Nb_judge_J131 1 w x2 x3 x4 h1) 1 k (n + 1) h2 o2 y2 z2 i) _ ∨ ∃ b' : mH × Int × Int × Int × Int, _ ∧ f_Nb_judge_L63 (fun h1 x2 x3 x4 => f_Nb_judge_J131 1 w x2 x3 x4 h1) 1 k (n + 1) h2 o2 y2 z2 i = f_Nb_judge_L63 (fun h1 x2 x3 x4 => f_Nb_judge_J131 1 w x2 x3 x4 h1) 1 k n b'.1 b'.2.1 b'.2.2.1 b'.2.2.2.1 b'.2.2.2.2
        rw [f_Nb_judge_L63]
        simp only [T2]
        rw [chk_t trivial, (hF F2).1, hn0, if_neg (by omega)]
        rcases hcase with ⟨q1, q2, q3⟩ | ⟨q1, q2, q3, q4⟩
        · have q2 : y2 = 0 := q2
          have q3 : z2 = -1 := q3
          obtain ⟨h3, M3, f3, A3, F3, R3⟩ := s_makeNumber18 A2 R2 W2 a2 a3 (by omega) (v := M a i) (hT i (by omega) (by omega))
          have F3' : ∀ v, v < 18 ∨ 30 < v → M3 v = M v := fun v hv => by rw [F3 v (by simp; omega)]; exact F2 v hv
          rw [if_pos q2]
          simp only [C2, D2]
          rw [chk_t trivial, chk_t trivial, chk_t trivial, chk_t (by omega), chk_t trivial, (hF F2).2, f3, bndT_ok (by decide)]
          have j125 : ∀ o' y' z' : Int, o' = vO t (M a) (i + 1) → BR18 M3 (vP t (M a) (i + 1)).1 → (((vP t (M a) (i + 1)).2 = ((i + 1 : Nat) : Int) ∧ y' = 0 ∧ z' = -1) ∨ ((vP t (M a) (i + 1)).2 < ((i + 1 : Nat) : Int) ∧ y' = whN (vP t (M a) (i + 1)).1 (M a (vP t (M a) (i + 1)).2) ∧ y' ≠ 0 ∧ z' = (vP t (M a) (i + 1)).2)) → ∃ b' : mH × Int × Int × Int × Int, (b'.2.2.2.2 = ((i + 1 : Nat) : Int) ∧ b'.2.1 = vO t (M a) (i + 1) ∧ ∃ M', At b'.1 c p L M' ∧ (∀ v, v < 18 ∨ 30 < v → M' v = M v) ∧ BR18 M' (vP t (M a) (i + 1)).1 ∧ (((vP t (M a) (i + 1)).2 = ((i + 1 : Nat) : Int) ∧ b'.2.2.1 = 0 ∧ b'.2.2.2.1 = -1) ∨ ((vP t (M a) (i + 1)).2 < ((i + 1 : Nat) : Int) ∧ b'.2.2.1 = whN (vP t (M a) (i + 1)).1 (M a (vP t (M a) (i + 1)).2) ∧ b'.2.2.1 ≠ 0 ∧ b'.2.2.2.1 = (vP t (M a) (i + 1)).2))) ∧ f_Nb_judge_J125 (f_Nb_judge_L63 (fun h1 x2 x3 x4 => f_Nb_judge_J131 1 w x2 x3 x4 h1) 1 k n) o' y' z' i h3 = f_Nb_judge_L63 (fun h1 x2 x3 x4 => f_Nb_judge_J131 1 w x2 x3 x4 h1) 1 k n b'.1 b'.2.1 b'.2.2.1 b'.2.2.2.1 b'.2.2.2.2 := fun o' y' z' e1 e2 e3 => by
            refine ⟨(h3, o', y', z', ((i + 1 : Nat) : Int)), ⟨rfl, e1, M3, A3, F3', e2, e3⟩, ?_⟩
            unfold f_Nb_judge_J125
            rw [wtv, w32_n i (by omega)]
          right
          by_cases g : whN (vP t (M a) i).1 (M a i) = 0
          · have ep : vP t (M a) (i + 1) = (stN (vP t (M a) i).1 (M a i), (i : Int) + 1) := by rw [vP, if_pos ⟨q1, g⟩]
            have eo : vO t (M a) (i + 1) = if vO t (M a) i = -1 ∧ isO (vP t (M a) (i + 1)).1 = true then (i : Int) else vO t (M a) i := by rw [vO, if_pos ⟨q1, g⟩]
            have R3' : BR18 M3 (vP t (M a) (i + 1)).1 := by rw [ep]; exact R3
            have W3 : WS (vP t (M a) (i + 1)).1 := Sq_WS (vP_ok (N := M a) K.W K.D B (i + 1)).1.symm K.W
            have B3 := BH.of18 A3 R3'
            have C3 := A3.nb
            have D3 := A3.b18
            have ek : (vP t (M a) (i + 1)).2 = ((i + 1 : Nat) : Int) := by rw [ep]; rfl
            rw [if_pos g]
            by_cases g5 : o2 = -1
            · rw [if_pos g5]
              simp only [C3, D3]
              rw [chk_t trivial, chk_t trivial, s_Box_isOpened B3 W3, bndT_ok (by decide)]
              by_cases go : isO (vP t (M a) (i + 1)).1 = true
              · have go' : allN (fun b => decide (pa (vP t (M a) (i + 1)).1 b = po (vP t (M a) (i + 1)).1 b)) (nb (vP t (M a) (i + 1)).1).toNat = true := go
                rw [if_pos go', if_neg (by decide)]
                exact j125 _ _ _ (by rw [eo, if_pos ⟨by rw [← ho2]; exact g5, go⟩]) R3' (Or.inl ⟨ek, g, q3⟩)
              · have go' : ¬ allN (fun b => decide (pa (vP t (M a) (i + 1)).1 b = po (vP t (M a) (i + 1)).1 b)) (nb (vP t (M a) (i + 1)).1).toNat = true := go
                rw [if_neg go', if_pos rfl]
                exact j125 _ _ _ (by rw [eo, if_neg (fun q => go q.2)]; exact ho2) R3' (Or.inl ⟨ek, g, q3⟩)
            · rw [if_neg g5]
              exact j125 _ _ _ (by rw [eo, if_neg (fun q => g5 (ho2.trans q.1))]; exact ho2) R3' (Or.inl ⟨ek, g, q3⟩)
          · have ep : vP t (M a) (i + 1) = vP t (M a) i := by rw [vP, if_neg (fun q => g q.2)]
            have eo : vO t (M a) (i + 1) = vO t (M a) i := by rw [vO, if_neg (fun q => g q.2)]
            rw [stN_no g] at R3
            rw [if_neg g]
            exact j125 _ _ _ (by rw [eo]; exact ho2) (by rw [ep]; exact R3) (Or.inr ⟨by rw [ep, q1]; omega, by rw [ep, q1], g, by rw [ep, q1]⟩)
        · have q2 : y2 = whN (vP t (M a) i).1 (M a (vP t (M a) i).2) := q2
          have q3 : y2 ≠ 0 := q3
          have q4 : z2 = (vP t (M a) i).2 := q4
          left
          have e1 : vP t (M a) n0 = vP t (M a) i := vP_end q1 (by omega)
          have e2 : vO t (M a) n0 = vO t (M a) i := vO_end q1 (by omega)
          have e3 : ¬ (vP t (M a) i).2 = (n0 : Int) := by omega
          rw [if_neg q3]
          refine j131 h2 M2 o2 y2 z2 A2 F2 ?_ ?_ ?_ ?_
          · rw [e1]; exact R2
          · rw [e2]; exact ho2
          · rw [e1, if_neg e3]; exact q4
          · rw [e1, if_neg e3]; exact q2
      · obtain ⟨h2, o2, y2, z2, r⟩ := x
        obtain ⟨hr_, ho2, M2, A2_, F2, R2, hcase⟩ := hx
        have hr : r = (n0 : Int) := hr_
        have A2 : At h2 c p L M2 := A2_
        have ho2 : o2 = vO t (M a) n0 := ho2
        clear hr_ A2_
        subst hr
        have T2 := A2.tk hk
        show CR c M E t (f_Nb_judge_L63 (fun h1 x2 x3 x4 => f_Nb_judge_J131 1 w x2 x3 x4 h1) 1 k (n + 1) h2 o2 y2 z2 n0) _
        rw [f_Nb_judge_L63]
        simp only [T2]
        rw [chk_t trivial, (hF F2).1, hn0, if_pos (Int.le_refl _)]
        rcases hcase with ⟨q1, q2, q3⟩ | ⟨q1, q2, q3, q4⟩
        · exact j131 h2 M2 o2 y2 z2 A2 F2 R2 ho2 (by rw [if_pos q1]; exact q3) (by rw [if_pos q1]; exact q2)
        · have e3 : ¬ (vP t (M a) n0).2 = (n0 : Int) := by omega
          exact j131 h2 M2 o2 y2 z2 A2 F2 R2 ho2 (by rw [if_neg e3]; exact q4) (by rw [if_neg e3]; exact q2)
    by_cases go : isO t = true
    · have go' : allN (fun b => decide (pa t b = po t b)) (nb t).toNat = true := go
      rw [if_pos go', if_neg (by decide)]
      exact j52 (-2) (by rw [vO, if_pos go])
    · have go' : ¬ allN (fun b => decide (pa t b = po t b)) (nb t).toNat = true := go
      rw [if_neg go', if_pos rfl]
      exact j52 (-1) (by rw [vO, if_neg go])
  · rw [if_neg g4, if_neg (by omega)]; exact CR_ex A K
/-! what stops a step -/
def pt1 (t : tT) (d x : Int) : tT := fun j => if j = 6 + 4 * d then x else t j
theorem pt1_Sq {d x : Int} (h0 : 0 ≤ d) (h1 : d < 9) : Sq (pt1 t d x) t := by
  have o : ∀ {j : Int}, j ≠ 6 + 4 * d → pt1 t d x j = t j := fun h => by unfold pt1; rw [if_neg h]
  refine ⟨o (by omega), o (by omega), o (by omega), o (by omega), ?_, ?_, fun d g => o (by omega), fun d g => o (by omega), fun d g => o (by omega), fun d g => o (by omega), fun d g => o (by omega), fun d f g g2 => o (by omega), fun d f g g2 => o (by omega), fun d f g g2 => o (by omega), o (by omega)⟩
  · funext e; exact o (by omega)
  · funext e; exact o (by omega)
theorem pt1_pa (d x : Int) : pa (pt1 t d x) = u1 (pa t) d x := by
  funext e; unfold pa pt1 u1
  by_cases q : e = d
  · rw [if_pos q, if_pos (by omega)]
  · rw [if_neg q, if_neg (by omega)]
theorem pt1_md (d x : Int) : md (pt1 t d x) = md t := by
  funext e; unfold md pt1; rw [if_neg (by omega)]
def elq (t : tT) (d b up x : Int) : Bool := decide (x ≠ pa t d) && decide (why t false X0 (u1 (pa t) d x) (wS t) b up = 0)
def sto (t : tT) (b up : Int) : Int := if wy0 t b up = 0 then -1 else f1 (fun d => decide (d ≠ b) && anyN (elq t d b up) (pl t d).toNat) (nb t).toNat
theorem s_letsGo (A : At h c p L M) (K : KS E M L t) {d b up : Int} (hd0 : 0 ≤ d) (hd1 : d < nb t) (hu : up = 0 ∨ up = 1) : ∃ h' M', f_Box_letsGoElsewhere h 5 d b up = some ((0, b2i (anyN (elq t d b up) (pl t d).toNat)), h') ∧ At h' c p L M' ∧ Fr [9] M M' ∧ KS E M' L t := by
  have hn := K.W.1
  have C := A.b5
  have hp := K.W.2.2.2.2.2.1 d hd0 hd1
  have r := K.R.2.1 d hd0 hd1
  have st : ∀ {M' : aM} {x : Int}, Fr [9] M M' → (∀ e, M' 9 e = u1 (M 9) d x e) → 0 ≤ x → x < pl t d → KS E M' L (pt1 t d x) := fun {M' x} F h9 h0 h1 => by
    refine K.st (F.mono (by decide)) (K.R.pa (fun v _ _ q _ => F v (by simpa using q)) (pt1_Sq hd0 (by omega)) (fun e g0 g1 => ?_)) (pt1_Sq hd0 (by omega)) (fun e g0 g1 => ?_)
    · have re := K.R.2.1 e g0 g1
      rw [h9, F 10 (by decide), pt1_pa, pt1_md]
      refine ⟨?_, re.2.2.2.2⟩
      unfold u1
      by_cases q : e = d
      · rw [if_pos q, if_pos q]
      · rw [if_neg q, if_neg q]; exact re.2.2.2.1
    · rw [(pt1_Sq (t := t) (x := x) hd0 (show d < 9 by omega)).e1] at g1
      rw [pt1_pa, (pt1_Sq (t := t) (x := x) hd0 (show d < 9 by omega)).e5]
      unfold u1
      by_cases q : e = d
      · rw [if_pos q, q]; exact ⟨h0, h1⟩
      · rw [if_neg q]; exact K.D e g0 g1
  have back : ∀ {M' : aM}, Fr [9] M M' → (∀ e, e ≠ d → M' 9 e = M 9 e) → M' 9 d = M 9 d → KS E M' L t := fun {M'} F h9 h9d => by
    have : M' = M := by
      funext v e
      by_cases q : v = 9
      · subst q
        by_cases q2 : e = d
        · rw [q2, h9d]
        · exact h9 e q2
      · rw [F v (by simpa using q)]
    rw [this]; exact K
  unfold f_Box_letsGoElsewhere
  simp only [C]
  rw [chk_t trivial, chk_t trivial, chk_t (by omega), wtv, r.2.2.2.1]
  have j67 : ∀ h2 M2 (q : Bool), At h2 c p L M2 → Fr [9] M M2 → (∀ e, e ≠ d → M2 9 e = M 9 e) → q = anyN (elq t d b up) (pl t d).toNat → ∃ h' M', f_Box_letsGoElsewhere_J67 5 d (pa t d) (b2i q) h2 = some ((0, b2i (anyN (elq t d b up) (pl t d).toNat)), h') ∧ At h' c p L M' ∧ Fr [9] M M' ∧ KS E M' L t := by
    intro h2 M2 q A2 F2 h9 hq
    have C2 := A2.b5
    have A3 := A2.aput (v := 9) d (pa t d) (by decide) (by decide) (by decide) (by decide +kernel) (by decide) (by decide)
    have F3 : Fr [9] M (mup M2 9 d (pa t d)) := F2.pu (by decide)
    refine ⟨_, _, ?_, A3, F3, back F3 (fun e q => by rw [mup_ne (Or.inr q)]; exact h9 e q) (by rw [mup_eq, r.2.2.2.1])⟩
    unfold f_Box_letsGoElsewhere_J67
    simp only [C2]
    rw [chk_t trivial, chk_t trivial, chk_t (by omega), wth, chk_t (b2i_01 _), hq]
  refine loop_r (F := fun n (x : mH × Int × Int) => f_Box_letsGoElsewhere_L14 (fun h2 x3 => f_Box_letsGoElsewhere_J67 5 d (pa t d) x3 h2) 5 d b up (pa t d) n x.1 x.2.1 x.2.2) (P := fun r => ∃ h' M', r = some ((0, b2i (anyN (elq t d b up) (pl t d).toNat)), h') ∧ At h' c p L M' ∧ Fr [9] M M' ∧ KS E M' L t) (fun i x => x.2.2 = (i : Int) ∧ (∃ q : Bool, x.2.1 = b2i q ∧ anyN (elq t d b up) i = q) ∧ ∃ M', At x.1 c p L M' ∧ Fr [9] M M' ∧ ∀ e, e ≠ d → M' 9 e = M 9 e) (pl t d).toNat (fun i hi x hx n => ?_) (fun x hx n => ?_) (i := 0) (b := (h, 0, 0)) ⟨rfl, ⟨false, rfl, rfl⟩, M, A, Fr.rf _ _, fun _ _ => rfl⟩ (by omega) (by omega)
  · obtain ⟨h2, y, r2⟩ := x
    obtain ⟨hr_, ⟨q, hq_, ha⟩, M2, A2_, F2, h92⟩ := hx
    have hr : r2 = (i : Int) := hr_
    have A2 : At h2 c p L M2 := A2_
    have hq : y = b2i q := hq_
    clear hr_ A2_ hq_
    subst hr; subst hq
    have C2 := A2.b5
    have e6 : M2 6 d = pl t d := by rw [F2 6 (by decide)]; exact r.1
    show (∃ h' M', f_Box_letsGoElsewhere_L14 (fun h2 x3 => f_Box_letsGoElsewhere_J67 5 d (pa t d) x3 h2) 5 d b up (pa t d) (n + 1) h2 (b2i q) i = _ ∧ _) ∨ ∃ b', _ ∧ f_Box_letsGoElsewhere_L14 (fun h2 x3 => f_Box_letsGoElsewhere_J67 5 d (pa t d) x3 h2) 5 d b up (pa t d) (n + 1) h2 (b2i q) i = _
    rw [f_Box_letsGoElsewhere_L14]
    simp only [C2]
    rw [chk_t trivial, chk_t trivial, chk_t (by omega), e6, if_neg (by omega)]
    cases q
    · right
      have A3 := A2.aput (v := 9) d i (by decide) (by decide) (by decide) (by decide +kernel) (by decide) (by decide)
      have F3 : Fr [9] M (mup M2 9 d i) := F2.pu (by decide)
      have h93 : ∀ e, mup M2 9 d i 9 e = u1 (M 9) d i e := fun e => by
        unfold u1
        by_cases q : e = d
        · rw [if_pos q, q, mup_eq]
        · rw [if_neg q, mup_ne (Or.inr q)]; exact h92 e q
      have K3 := st F3 h93 (by omega) (by omega)
      have B3 := BH.of5 A3 K3.R
      have j59 : ∀ q : Bool, elq t d b up i = q → ∃ b' : mH × Int × Int, (b'.2.2 = ((i + 1 : Nat) : Int) ∧ (∃ q : Bool, b'.2.1 = b2i q ∧ anyN (elq t d b up) (i + 1) = q) ∧ ∃ M', At b'.1 c p L M' ∧ Fr [9] M M' ∧ ∀ e, e ≠ d → M' 9 e = M 9 e) ∧ f_Box_letsGoElsewhere_J59 (f_Box_letsGoElsewhere_L14 (fun h2 x3 => f_Box_letsGoElsewhere_J67 5 d (pa t d) x3 h2) 5 d b up (pa t d) n) i (b2i q) (hput h2 9 d i) = f_Box_letsGoElsewhere_L14 (fun h2 x3 => f_Box_letsGoElsewhere_J67 5 d (pa t d) x3 h2) 5 d b up (pa t d) n b'.1 b'.2.1 b'.2.2 := fun q hq => by
        refine ⟨(hput h2 9 d i, b2i q, ((i + 1 : Nat) : Int)), ⟨rfl, ⟨q, rfl, by rw [anyN, ha, hq]; rfl⟩, _, A3, F3, fun e g => by rw [mup_ne (Or.inr g)]; exact h92 e g⟩, ?_⟩
        unfold f_Box_letsGoElsewhere_J59
        rw [wtv, w32_n i (by omega)]
      rw [if_pos (show b2i false = 0 from rfl), chk_t trivial, chk_t trivial, chk_t (by omega), wth]
      unfold f_Box_letsGoElsewhere_J58
      by_cases g : (i : Int) = pa t d
      · rw [if_pos g]
        exact j59 false (by unfold elq; rw [decide_eq_false (fun q => q g)]; rfl)
      · rw [if_neg g, chk_t B3.T, s_Box_whyNot B3 K3.W K3.D hu (X := X0), bndT_ok (by decide), Sq_why (pt1_Sq (t := t) (x := i) hd0 (show d < 9 by omega)), pt1_pa]
        have ew : wS (pt1 t d i) = wS t := by funext e; unfold wS; rw [(pt1_Sq (t := t) (x := i) hd0 (show d < 9 by omega)).e4, pt1_md]
        rw [ew]
        by_cases g2 : why t false X0 (u1 (pa t) d i) (wS t) b up = 0
        · rw [if_pos g2]
          exact j59 true (by unfold elq; rw [decide_eq_true g, decide_eq_true g2]; rfl)
        · rw [if_neg g2]
          exact j59 false (by unfold elq; rw [decide_eq_false g2, Bool.and_false])
    · left
      rw [if_neg (by decide)]
      refine j67 h2 M2 true A2 F2 h92 ?_
      obtain ⟨v, g0, g1, g2⟩ := anyN_iff.mp ha
      exact (anyN_iff.mpr ⟨v, g0, by omega, g2⟩).symm
  · obtain ⟨h2, y, r2⟩ := x
    obtain ⟨hr_, ⟨q, hq_, ha⟩, M2, A2_, F2, h92⟩ := hx
    have hr : r2 = ((pl t d).toNat : Int) := hr_
    have A2 : At h2 c p L M2 := A2_
    have hq : y = b2i q := hq_
    clear hr_ A2_ hq_
    subst hr; subst hq
    have C2 := A2.b5
    have e6 : M2 6 d = pl t d := by rw [F2 6 (by decide)]; exact r.1
    show ∃ h' M', f_Box_letsGoElsewhere_L14 (fun h2 x3 => f_Box_letsGoElsewhere_J67 5 d (pa t d) x3 h2) 5 d b up (pa t d) (n + 1) h2 (b2i q) ((pl t d).toNat : Int) = _ ∧ _
    rw [f_Box_letsGoElsewhere_L14]
    simp only [C2]
    rw [chk_t trivial, chk_t trivial, chk_t (by omega), e6, if_pos (by omega)]
    exact j67 h2 M2 q A2 F2 h92 ha.symm
theorem c_stops (A : At h c p L M) (K : KS E M L t) (b : Int) {up : Int} (hu : up = 0 ∨ up = 1) : CS c M E t (f_Nb_stops h 1 b up) (0, sto t b up) := by
  have C := A.nb
  have Bh := BH.of5 A K.R
  have hn := K.W.1
  unfold f_Nb_stops sto
  simp only [C]
  rw [chk_t trivial, chk_t Bh.T, s_Box_whyNot Bh K.W K.D hu (X := X0), bndT_ok (by decide)]
  show CS c M E t (if wy0 t b up = 0 then _ else _) _
  by_cases e : wy0 t b up = 0
  · rw [if_pos e, if_pos e]; exact CS_ok A K
  · rw [if_neg e, if_neg e]
    simp only [C]
    rw [chk_t trivial, chk_t Bh.T]
    have main : ∃ h' M', f_Box_barThatStops h 5 b up = some ((0, f1 (fun d => decide (d ≠ b) && anyN (elq t d b up) (pl t d).toNat) (nb t).toNat), h') ∧ At h' c p L M' ∧ Fr [9] M M' ∧ KS E M' L t := by
      unfold f_Box_barThatStops
      refine loop_r (F := fun n (x : mH × Int) => f_Box_barThatStops_L2 5 b up n x.1 x.2) (P := fun r => ∃ h' M', r = some ((0, f1 (fun d => decide (d ≠ b) && anyN (elq t d b up) (pl t d).toNat) (nb t).toNat), h') ∧ At h' c p L M' ∧ Fr [9] M M' ∧ KS E M' L t) (fun d x => x.2 = (d : Int) ∧ (∀ j, 0 ≤ j → j < (d : Int) → (decide (j ≠ b) && anyN (elq t j b up) (pl t j).toNat) = false) ∧ ∃ M', At x.1 c p L M' ∧ Fr [9] M M' ∧ KS E M' L t) (nb t).toNat (fun d hd x hx n => ?_) (fun x hx n => ?_) (i := 0) (b := (h, 0)) ⟨rfl, fun j g0 g1 => by omega, M, A, Fr.rf _ _, K⟩ (by omega) (by omega)
      · obtain ⟨h2, r2⟩ := x
        obtain ⟨hr_, hno, M2, A2_, F2, K2⟩ := hx
        have hr : r2 = (d : Int) := hr_
        have A2 : At h2 c p L M2 := A2_
        clear hr_ A2_
        subst hr
        have B2 := BH.of5 A2 K2.R
        have next : ∀ h3 M3, At h3 c p L M3 → Fr [9] M M3 → KS E M3 L t → (decide ((d : Int) ≠ b) && anyN (elq t d b up) (pl t d).toNat) = false → ∃ b' : mH × Int, (b'.2 = ((d + 1 : Nat) : Int) ∧ (∀ j, 0 ≤ j → j < ((d + 1 : Nat) : Int) → (decide (j ≠ b) && anyN (elq t j b up) (pl t j).toNat) = false) ∧ ∃ M', At b'.1 c p L M' ∧ Fr [9] M M' ∧ KS E M' L t) ∧ f_Box_barThatStops_J27 (f_Box_barThatStops_L2 5 b up n) d h3 = f_Box_barThatStops_L2 5 b up n b'.1 b'.2 := fun h3 M3 A3 F3 K3 hq => by
          refine ⟨(h3, ((d + 1 : Nat) : Int)), ⟨rfl, fun j g0 g1 => ?_, M3, A3, F3, K3⟩, ?_⟩
          · by_cases q : j = d
            · rw [q]; exact hq
            · exact hno j g0 (by omega)
          · unfold f_Box_barThatStops_J27
            rw [wtv, w32_n d (by omega)]
        show (∃ h' M', f_Box_barThatStops_L2 5 b up (n + 1) h2 d = _ ∧ _) ∨ ∃ b', _ ∧ f_Box_barThatStops_L2 5 b up (n + 1) h2 d = _
        rw [f_Box_barThatStops_L2, chk_t B2.T, B2.s2, if_neg (by omega)]
        by_cases g : (d : Int) = b
        · right
          rw [if_pos g]
          exact next h2 M2 A2 F2 K2 (by rw [decide_eq_false (fun q => q g)]; rfl)
        · obtain ⟨h3, M3, f3, A3, F3, K3⟩ := s_letsGo A2 K2 (d := d) (b := b) (by omega) (by omega) hu
          rw [if_neg g, chk_t B2.T, f3, bndT_ok (by decide)]
          cases q : anyN (elq t d b up) (pl t d).toNat
          · right
            rw [if_pos (by decide)]
            exact next h3 M3 A3 (F2.tr F3) K3 (by rw [q, Bool.and_false])
          · left
            rw [if_neg (by decide)]
            refine ⟨h3, M3, ?_, A3, F2.tr F3, K3⟩
            rw [f1_at (P := fun d => decide (d ≠ b) && anyN (elq t d b up) (pl t d).toNat) (i := d) (by omega) (by omega) (by rw [decide_eq_true g, q]; rfl) hno]
      · obtain ⟨h2, r2⟩ := x
        obtain ⟨hr_, hno, M2, A2_, F2, K2⟩ := hx
        have hr : r2 = ((nb t).toNat : Int) := hr_
        have A2 : At h2 c p L M2 := A2_
        clear hr_ A2_
        subst hr
        have B2 := BH.of5 A2 K2.R
        refine ⟨h2, M2, ?_, A2, F2, K2⟩
        show f_Box_barThatStops_L2 5 b up (n + 1) h2 _ = _
        rw [f_Box_barThatStops_L2, chk_t B2.T, B2.s2, if_pos (by omega), f1_none hno]
    obtain ⟨h1, M1, f1', A1, F1, K1⟩ := main
    rw [f1', bndT_ok (by decide)]
    exact CS_mv (F1.mono (by decide)) (CS_ok A1 K1)
end
