/-! TRAYS, THE TAPE -/
def cutV (s v : Int) : Int := if s = 0 then w8 (w32 v) else if s = 1 then w16 (w32 v) else if s = 2 then w32 v else v
section
variable {h : mH} {c : Int} {p L : Int → Int} {M : aM} {E : Int → tT} {t : tT}
theorem TK.st {τ k a : Int} (hk : TK τ k a) : (1 ≤ k ∧ k ≤ 99 ∧ k ∉ gwL ∧ k ≠ 31 ∧ pt k 1 = 0 ∧ pt k 2 = 0 ∧ k ∉ cA) ∧ (1 ≤ a ∧ a ≤ 99 ∧ a ∉ gwL ∧ 21 ≤ kd a ∧ a ≠ 32 ∧ a ≠ 31 ∧ a ∉ cA) := by
  rcases hk with ⟨-, rfl, rfl⟩ | ⟨-, rfl, rfl⟩ | ⟨-, rfl, rfl⟩ | ⟨-, rfl, rfl⟩ <;> decide +kernel
theorem KS.ty {M' : aM} {τ k a : Int} (hk : TK τ k a) (K : KS E M L t) (F : ∀ v, v ≠ k → v ≠ a → M' v = M v) : KS E M' L t := K.keep (fun v hv => by
  have := hk.rg
  exact F v (by unfold kO at hv; omega) (by unfold kO at hv; omega)) (fun _ _ => rfl)
theorem c_tray (A : At h c p L M) (K : KS E M L t) (τ s n : Int) :
    (¬ (0 ≤ τ ∧ τ < 4) ∧ f_Nb_tray h 1 τ s n = some ((4, xN), halc h 0 0 6)) ∨ ((0 ≤ τ ∧ τ < 4) ∧ ¬ ((0 ≤ s ∧ s < 4) ∧ 0 ≤ n ∧ n ≤ 40) ∧ f_Nb_tray h 1 τ s n = some ((4, xA), halc h 0 0 6)) ∨
    ((0 ≤ τ ∧ τ < 4) ∧ ((0 ≤ s ∧ s < 4) ∧ 0 ≤ n ∧ n ≤ 40) ∧ ∃ h' M', f_Nb_tray h 1 τ s n = some ((3, 0), h') ∧ At h' c p L M' ∧ (∀ v, v ≠ 33 + 2 * τ → v ≠ 34 + 2 * τ → M' v = M v) ∧ M' (33 + 2 * τ) 1 = s ∧ M' (33 + 2 * τ) 2 = n ∧ (∀ i, 0 ≤ i → i < 40 → M' (34 + 2 * τ) i = 0) ∧ KS E M' L t) := by
  have C := A.nb
  unfold f_Nb_tray f_Nb_needTrayNumber
  simp only [C]
  rw [chk_t trivial]
  by_cases g : τ < 0
  · left; rw [if_pos g, bndT_ex]; exact ⟨by omega, rfl⟩
  rw [if_neg g]
  by_cases g1 : τ < 4
  · right
    rw [if_pos g1, bndT_ok (by decide)]
    by_cases g2 : s < 0
    · left; rw [if_pos g2]; exact ⟨by omega, by omega, rfl⟩
    rw [if_neg g2]
    by_cases g3 : 4 ≤ s
    · left; rw [if_pos g3]; exact ⟨by omega, by omega, rfl⟩
    rw [if_neg g3]
    by_cases g4 : n < 0
    · left; rw [if_pos g4]; exact ⟨by omega, by omega, rfl⟩
    rw [if_neg g4]
    by_cases g5 : n ≤ 40
    · right
      refine ⟨by omega, by omega, ?_⟩
      have hk := TK.of (show 0 ≤ τ by omega) g1
      have T := A.tk hk
      rw [if_pos g5]
      simp only [C, T]
      rw [chk_t trivial, chk_t trivial, chk_t (by omega), chk_t trivial]
      generalize 33 + 2 * τ = k at *
      generalize 34 + 2 * τ = a at *
      obtain ⟨⟨k1, k2, k3, k4, k5, k6, -⟩, a1, a2, a3, a4, a5, a6, -⟩ := hk.st
      have hkr := hk.rg
      have A1 := A.fput (v := k) (i := 1) s k1 k2 k3 k5 k4
      have T1 := A1.tk hk
      have A2 := A1.fput (v := k) (i := 2) n k1 k2 k3 k6 k4
      have key : ∃ h' M', f_Tray_layOut h k s n = some ((3, 0), h') ∧ At h' c p L M' ∧ (∀ v, v ≠ k → v ≠ a → M' v = M v) ∧ M' k 1 = s ∧ M' k 2 = n ∧ (∀ i, 0 ≤ i → i < 40 → M' a i = 0) := by
        unfold f_Tray_layOut
        simp only [T]
        rw [chk_t trivial, wth]
        simp only [T1]
        rw [chk_t trivial, wth]
        refine loop_r (F := fun m (x : mH × Int) => f_Tray_layOut_L12 k m x.1 x.2) (P := fun r => ∃ h' M', r = some ((3, 0), h') ∧ At h' c p L M' ∧ (∀ v, v ≠ k → v ≠ a → M' v = M v) ∧ M' k 1 = s ∧ M' k 2 = n ∧ (∀ i, 0 ≤ i → i < 40 → M' a i = 0)) (fun i x => x.2 = (i : Int) ∧ ∃ M', At x.1 c p L M' ∧ (∀ v, v ≠ k → v ≠ a → M' v = M v) ∧ M' k 1 = s ∧ M' k 2 = n ∧ (∀ j, 0 ≤ j → j < (i : Int) → M' a j = 0)) 40 (fun i hi x hx m => ?_) (fun x hx m => ?_) (i := 0) (b := (hput (hput h k 1 s) k 2 n, 0)) ⟨rfl, _, A2, fun v q0 q1 => by rw [mup_fn q0, mup_fn q0], by rw [mup_ne (Or.inr (by decide)), mup_eq], mup_eq _ _ _ _, fun j q0 q1 => by omega⟩ (by omega) (by omega)
        · obtain ⟨h2, r⟩ := x
          obtain ⟨hr_, M3, A3_, F3, e1, e2, z3⟩ := hx
          have hr : r = (i : Int) := hr_
          have A3 : At h2 c p L M3 := A3_
          clear hr_ A3_
          subst hr
          right
          have T3 := A3.tk hk
          have A4 := A3.aput (v := a) i 0 a1 a2 a3 a4 a5 a6
          refine ⟨(hput h2 a i 0, ((i + 1 : Nat) : Int)), ⟨rfl, _, A4, fun v q0 q1 => by rw [mup_fn q1]; exact F3 v q0 q1, by rw [mup_fn hkr.2.2.2.2.2.2]; exact e1, by rw [mup_fn hkr.2.2.2.2.2.2]; exact e2, fun j q0 q1 => ?_⟩, ?_⟩
          · by_cases e : j = i
            · rw [e, mup_eq]
            · rw [mup_ne (Or.inr e)]; exact z3 j q0 (by omega)
          · show f_Tray_layOut_L12 k (m + 1) h2 i = f_Tray_layOut_L12 k m (hput h2 a i 0) ((i + 1 : Nat) : Int)
            rw [f_Tray_layOut_L12, if_neg (by omega)]
            simp only [T3]
            rw [chk_t trivial, chk_t trivial, chk_t (by omega), wth, wtv, w32_n i (by omega)]
        · obtain ⟨h2, r⟩ := x
          obtain ⟨hr_, M3, A3_, F3, e1, e2, z3⟩ := hx
          have hr : r = ((40 : Nat) : Int) := hr_
          have A3 : At h2 c p L M3 := A3_
          clear hr_ A3_
          subst hr
          refine ⟨h2, M3, ?_, A3, F3, e1, e2, fun j q0 q1 => z3 j q0 (by omega)⟩
          show f_Tray_layOut_L12 k (m + 1) h2 _ = _
          rw [f_Tray_layOut_L12, if_pos (show (40 : Int) ≤ ((40 : Nat) : Int) by decide)]
      obtain ⟨h1, M1, f1, A1', F1, e1, e2, z1⟩ := key
      rw [f1, bndT_ok (by decide)]
      exact ⟨h1, M1, rfl, A1', F1, e1, e2, z1, K.ty hk F1⟩
    · left; rw [if_neg g5]; exact ⟨by omega, by omega, rfl⟩
  · left; rw [if_neg g1, bndT_ex]; exact ⟨by omega, rfl⟩
theorem s_Tray_put (A : At h c p L M) {τ k a : Int} (hk : TK τ k a) {i v : Int} (h0 : 0 ≤ i) (h1 : i < 40) : f_Tray_put h k i v = some ((1, cutV (M k 1) v), hput h a i (cutV (M k 1) v)) ∧ At (hput h a i (cutV (M k 1) v)) c p L (mup M a i (cutV (M k 1) v)) := by
  obtain ⟨-, a1, a2, a3, a4, a5, a6, -⟩ := hk.st
  have T := A.tk hk
  have A4 := A.aput (v := a) i (cutV (M k 1) v) a1 a2 a3 a4 a5 a6
  have T4 := A4.tk hk
  refine ⟨?_, A4⟩
  have j63 : ∀ x : Int, x = cutV (M k 1) v → f_Tray_put_J63 k i a i x h = some ((1, cutV (M k 1) v), hput h a i (cutV (M k 1) v)) := fun x hx => by
    unfold f_Tray_put_J63
    simp only [T]
    rw [chk_t trivial, chk_t (by omega), hx, wth]
    simp only [T4]
    rw [chk_t trivial, chk_t trivial, chk_t (by omega), mup_eq]
  unfold f_Tray_put
  rw [if_neg (by omega), if_pos h1]
  simp only [T]
  rw [chk_t trivial, chk_t trivial]
  by_cases e0 : M k 1 = 0
  · rw [if_pos e0]; exact j63 _ (by unfold cutV; rw [if_pos e0])
  rw [if_neg e0, chk_t trivial]
  by_cases e1 : M k 1 = 1
  · rw [if_pos e1]; exact j63 _ (by unfold cutV; rw [if_neg e0, if_pos e1])
  rw [if_neg e1, chk_t trivial]
  by_cases e2 : M k 1 = 2
  · rw [if_pos e2]; exact j63 _ (by unfold cutV; rw [if_neg e0, if_neg e1, if_pos e2])
  rw [if_neg e2]; exact j63 _ (by unfold cutV; rw [if_neg e0, if_neg e1, if_neg e2])
theorem c_write (A : At h c p L M) (K : KS E M L t) (τ i v : Int) (hm : 0 ≤ τ → τ < 4 → M (33 + 2 * τ) 2 ≤ 40) :
    (¬ (0 ≤ τ ∧ τ < 4) ∧ f_Nb_write h 1 τ i v = some ((4, xN), halc h 0 0 6)) ∨ ((0 ≤ τ ∧ τ < 4) ∧ M (33 + 2 * τ) 2 = -1 ∧ f_Nb_write h 1 τ i v = some ((4, xS), halc h 0 0 6)) ∨
    ((0 ≤ τ ∧ τ < 4) ∧ M (33 + 2 * τ) 2 ≠ -1 ∧ ¬ (0 ≤ i ∧ i < M (33 + 2 * τ) 2) ∧ f_Nb_write h 1 τ i v = some ((4, xI), halc h 0 0 6)) ∨
    ((0 ≤ τ ∧ τ < 4) ∧ M (33 + 2 * τ) 2 ≠ -1 ∧ (0 ≤ i ∧ i < M (33 + 2 * τ) 2) ∧ ∃ h', f_Nb_write h 1 τ i v = some ((1, cutV (M (33 + 2 * τ) 1) v), h') ∧ At h' c p L (mup M (34 + 2 * τ) i (cutV (M (33 + 2 * τ) 1) v)) ∧ KS E (mup M (34 + 2 * τ) i (cutV (M (33 + 2 * τ) 1) v)) L t) := by
  have C := A.nb
  unfold f_Nb_write
  simp only [C]
  rw [chk_t trivial]
  rcases s_Nb_needTray A τ with ⟨g1, e⟩ | ⟨g1, e⟩
  · left; rw [e, bndT_ex]; exact ⟨g1, rfl⟩
  · right
    have hm := hm g1.1 g1.2
    have hk := TK.of g1.1 g1.2
    have T := A.tk hk
    rw [e]
    by_cases g2 : M (33 + 2 * τ) 2 = -1
    · left; rw [if_pos g2, bndT_ex]; exact ⟨g1, g2, rfl⟩
    · right
      rw [if_neg g2, bndT_ok (by decide)]
      by_cases g3 : i < 0
      · left; rw [if_pos g3]; exact ⟨g1, g2, by omega, rfl⟩
      rw [if_neg g3]
      simp only [T]
      rw [chk_t trivial]
      by_cases g4 : i < M (33 + 2 * τ) 2
      · right
        obtain ⟨f1, A1⟩ := s_Tray_put A hk (i := i) (v := v) (by omega) (by omega)
        rw [if_pos g4, chk_t trivial, f1, bndT_ok (by decide)]
        exact ⟨g1, g2, by omega, _, rfl, A1, K.ty hk (fun w _ q1 => mup_fn q1)⟩
      · left; rw [if_neg g4]; exact ⟨g1, g2, by omega, rfl⟩
theorem cutV_small {s v : Int} (h0 : 0 ≤ v) (h1 : v < 100) : cutV s v = v := by
  unfold cutV
  have e1 : w32 v = v := w32_id (by omega) (by omega)
  rw [e1]
  split
  · unfold w8; omega
  · split
    · unfold w16; omega
    · split <;> rfl
def poN (t : tT) (m : Int) : Int := if (if 0 < bF (SB t (st t (po t))) (st t (pa t)) then bF (SB t (st t (po t))) (st t (pa t)) else 0) < m then (if 0 < bF (SB t (st t (po t))) (st t (pa t)) then bF (SB t (st t (po t))) (st t (pa t)) else 0) else m
theorem poN_rng (t : tT) {m : Int} (hm : 0 ≤ m) : 0 ≤ poN t m ∧ poN t m ≤ m ∧ (0 < poN t m → poN t m ≤ bF (SB t (st t (po t))) (st t (pa t))) := by
  unfold poN
  generalize bF (SB t (st t (po t))) (st t (pa t)) = F
  by_cases g : 0 < F
  · rw [if_pos g]; split <;> omega
  · rw [if_neg g]; split <;> omega
theorem c_pour (A : At h c p L M) (K : KS E M L t) (τ : Int) (hm : 0 ≤ τ → τ < 4 → -1 ≤ M (33 + 2 * τ) 2 ∧ M (33 + 2 * τ) 2 ≤ 40) :
    (¬ (0 ≤ τ ∧ τ < 4) ∧ CR c M E t (f_Nb_pour h 1 τ) (4, xN)) ∨ ((0 ≤ τ ∧ τ < 4) ∧ (M (33 + 2 * τ) 2 = -1 ∨ 20000 < nS t) ∧ CR c M E t (f_Nb_pour h 1 τ) (4, xS)) ∨
    ((0 ≤ τ ∧ τ < 4) ∧ M (33 + 2 * τ) 2 ≠ -1 ∧ nS t ≤ 20000 ∧ ∃ h' c' p' L' M', f_Nb_pour h 1 τ = some ((0, poN t (M (33 + 2 * τ) 2)), h') ∧ At h' c' p' L' M' ∧ c' ≤ c + 6 ∧ Fr ((34 + 2 * τ) :: cA) M M' ∧ (∀ i : Nat, M' (34 + 2 * τ) i = if (i : Int) < poN t (M (33 + 2 * τ) 2) then wln t (SB t (st t (po t))) (st t (pa t)) i else M (34 + 2 * τ) i) ∧ KS E M' L' t) := by
  have C := A.nb
  have hPK : PK 51 52 53 := by unfold PK; decide
  unfold f_Nb_pour
  simp only [C]
  rw [chk_t trivial]
  rcases s_Nb_needTray A τ with ⟨g1, e⟩ | ⟨g1, e⟩
  · left; rw [e, bndT_ex]; exact ⟨g1, CR_ex A K⟩
  · right
    have hm := hm g1.1 g1.2
    have hk := TK.of g1.1 g1.2
    have hkr := hk.rg
    obtain ⟨⟨k1, k2, k3, k4, k5, k6, k7⟩, a1, a2, a3, a4, a5, a6, a7⟩ := hk.st
    rw [e]
    by_cases g2 : M (33 + 2 * τ) 2 = -1
    · left; rw [if_pos g2, bndT_ex]; exact ⟨g1, Or.inl g2, CR_ex A K⟩
    rw [if_neg g2, bndT_ok (by decide)]
    simp only [C]
    rw [chk_t trivial]
    rcases s_Nb_needGraph A K with ⟨g, e⟩ | ⟨g, h1, p1, L1, M1, f1, A1, -, -, F1, K1, G1⟩
    · left; rw [e, bndT_ex]; exact ⟨g1, Or.inr g, CR_ex A K⟩
    · right
      refine ⟨g1, g2, g, ?_⟩
      have C1 := A1.nb
      obtain ⟨h2, p2, L2, M2, f2, A2, -, -, F2, hL2, K2, G2, P2⟩ := s_Nb_toOpen A1 K1 g G1
      have C2 := A2.nb
      have D2 := A2.b5
      have hz := K.now
      have ho := K.opn
      have far : f_Paths_farOf h2 51 (st t (pa t)) = some ((0, bF (SB t (st t (po t))) (st t (pa t))), h2) := PR_far A2 hPK P2 hz.1 hz.2
      have B2 := BI_bfs (NX_D K.W true (wS t)) ho.1 (by have := nN_eq K.W; omega)
      rw [f1, bndT_ok (by decide)]
      simp only [C1]
      rw [chk_t trivial, f2, bndT_ok (by decide)]
      simp only [C2, D2]
      rw [chk_t trivial, chk_t trivial, chk_t trivial, chk_t trivial, s_standNow5 A2 K2, bndT_ok (by decide)]
      have T2 := A2.tk hk
      have P51 := A2.p51
      simp only [T2, P51]
      rw [chk_t trivial, chk_t trivial, far, bndT_ok (by decide), wtv]
      have F2' : Fr cA M M2 := F1.a.tr (F2.mono (by decide))
      rw [F2' (33 + 2 * τ) k7]
      show ∃ h' c' p' L' M', f_Nb_pour_L53 1 (33 + 2 * τ) 51 (poN t (M (33 + 2 * τ) 2)) 1000000 h2 (st t (pa t)) 0 = some ((0, poN t (M (33 + 2 * τ) 2)), h') ∧ _
      have hpo := poN_rng t (m := M (33 + 2 * τ) 2) (by omega)
      generalize poN t (M (33 + 2 * τ) 2) = N at hpo ⊢
      generalize 33 + 2 * τ = k at *
      generalize 34 + 2 * τ = a at *
      have GG2 : ∀ {M' : aM}, (∀ v, v ≠ a → M' v = M2 v) → GP M' M' L2 t ∧ PR M' L2 51 52 53 t (st t (po t)) true ∧ KS E M' L2 t := fun F => ⟨G2.fr (fun v hv => F v (by
        simp only [List.mem_cons, List.not_mem_nil, or_false] at hv; omega)) (fun _ _ => rfl), P2.fr (F 51 (by omega)) (F 52 (by omega)) (F 53 (by omega)) rfl rfl, K2.ty hk (fun v _ q => F v q)⟩
      refine loop_r (F := fun n (x : mH × Int × Int) => f_Nb_pour_L53 1 k 51 N n x.1 x.2.1 x.2.2) (P := fun r => ∃ h' c' p' L' M', r = some ((0, N), h') ∧ At h' c' p' L' M' ∧ c' ≤ c + 6 ∧ Fr (a :: cA) M M' ∧ (∀ i : Nat, M' a i = if (i : Int) < N then wln t (SB t (st t (po t))) (st t (pa t)) i else M a i) ∧ KS E M' L' t) (fun i x => x.2 = (wlk t (SB t (st t (po t))) (st t (pa t)) i, (i : Int)) ∧ ∃ M', At x.1 c p2 L2 M' ∧ (∀ v, v ≠ a → M' v = M2 v) ∧ ∀ j : Nat, M' a j = if j < i then wln t (SB t (st t (po t))) (st t (pa t)) j else M a j) N.toNat (fun i hi x hx n => ?_) (fun x hx n => ?_) (i := 0) (b := (h2, st t (pa t), 0)) ⟨rfl, M2, A2, fun _ _ => rfl, fun j => by rw [if_neg (by omega), F2' a a7]⟩ (by omega) (by omega)
      · obtain ⟨h3, r⟩ := x
        obtain ⟨hr_, M3, A3_, F3, v3⟩ := hx
        have hr : r = (wlk t (SB t (st t (po t))) (st t (pa t)) i, (i : Int)) := hr_
        have A3 : At h3 c p2 L2 M3 := A3_
        clear hr_ A3_
        subst hr
        right
        obtain ⟨G3, P3, K3⟩ := GG2 F3
        have ws := wlk_spec K.W ho.1 ho.2 hz.1 hz.2 (i := i) (by omega)
        have ls := lnx_spec K.W ho.1 ho.2 ws.1.1 ws.1.2 (by omega)
        have C3 := A3.nb
        have T3 := A3.tk hk
        have Q3 := A3.p51
        have hwl : 0 ≤ wln t (SB t (st t (po t))) (st t (pa t)) i ∧ wln t (SB t (st t (po t))) (st t (pa t)) i < 2 * nb t := ls.1
        have hcut : cutV (M3 k 1) (wln t (SB t (st t (po t))) (st t (pa t)) i) = wln t (SB t (st t (po t))) (st t (pa t)) i := cutV_small hwl.1 (by have := K.W.1; omega)
        obtain ⟨f4, A4⟩ := s_Tray_put A3 hk (i := i) (v := wln t (SB t (st t (po t))) (st t (pa t)) i) (by omega) (by omega)
        rw [hcut] at f4 A4
        have C4 := A4.nb
        have E4 := A4.gr
        have F4 : ∀ v, v ≠ a → mup M3 a i (wln t (SB t (st t (po t))) (st t (pa t)) i) v = M2 v := fun v q => by rw [mup_fn q]; exact F3 v q
        obtain ⟨G4, P4, K4⟩ := GG2 F4
        have E3 := A3.gr
        refine ⟨(hput h3 a i (wln t (SB t (st t (po t))) (st t (pa t)) i), wlk t (SB t (st t (po t))) (st t (pa t)) (i + 1), ((i + 1 : Nat) : Int)), ⟨rfl, _, A4, F4, fun j => ?_⟩, ?_⟩
        · by_cases e : j = i
          · rw [e, mup_eq, if_pos (Nat.lt_succ_self i)]
          · rw [mup_ne (Or.inr (by omega)), v3 j]
            by_cases e2 : j < i
            · rw [if_pos e2, if_pos (Nat.lt_succ_of_lt e2)]
            · rw [if_neg e2, if_neg (by omega)]
        · show f_Nb_pour_L53 1 k 51 N (n + 1) h3 (wlk t (SB t (st t (po t))) (st t (pa t)) i) i = f_Nb_pour_L53 1 k 51 N n (hput h3 a i (wln t (SB t (st t (po t))) (st t (pa t)) i)) (wlk t (SB t (st t (po t))) (st t (pa t)) (i + 1)) ((i + 1 : Nat) : Int)
          rw [f_Nb_pour_L53, if_neg (show ¬ N ≤ (i : Int) by omega)]
          simp only [C3, Q3]
          rw [chk_t trivial, chk_t trivial, s_Paths_lineFrom A3 K.W g G3 P3 ho.1 ho.2 ws.1.1 ws.1.2, bndT_ok (by decide), show lnx t (SB t (st t (po t))) (wlk t (SB t (st t (po t))) (st t (pa t)) i) = wln t (SB t (st t (po t))) (st t (pa t)) i from rfl]
          simp only [T3]
          rw [chk_t trivial, f4, bndT_ok (by decide)]
          simp only [C4, E4]
          rw [chk_t trivial, chk_t trivial, s_Graph_behind A4 K.W G4.1 (by have := ws.1; omega), bndT_ok (by decide), if_pos hwl, wtv, w32_n i (by omega)]
          rfl
      · obtain ⟨h3, r⟩ := x
        obtain ⟨hr_, M3, A3_, F3, v3⟩ := hx
        have hr : r = (wlk t (SB t (st t (po t))) (st t (pa t)) N.toNat, (N.toNat : Int)) := hr_
        have A3 : At h3 c p2 L2 M3 := A3_
        clear hr_ A3_
        subst hr
        refine ⟨h3, c, p2, L2, M3, ?_, A3, by omega, fun v hv => ?_, fun j => ?_, (GG2 F3).2.2⟩
        · show f_Nb_pour_L53 1 k 51 N (n + 1) h3 _ _ = _
          rw [f_Nb_pour_L53, if_pos (show N ≤ (N.toNat : Int) by omega)]
        · simp only [List.mem_cons, not_or] at hv
          rw [F3 v hv.1, F2' v hv.2]
        · rw [v3 j]
          by_cases e2 : (j : Int) < N
          · rw [if_pos e2, if_pos (by omega)]
          · rw [if_neg e2, if_neg (by omega)]
/-! the tape of the class -/
def byV (x j : Int) : Int := w8 (qshr x (24 - 8 * j))
theorem w8_w8 (x : Int) : w8 (w8 x) = w8 x := by unfold w8; omega
theorem s_putBytes (A : At h c p L M) {x : Int} (h0 : 0 ≤ M 1 1) (h1 : M 1 1 + 4 ≤ 900) : ∃ h' M', f_Nb_putBytes h 1 x = some ((3, 0), h') ∧ At h' c p L M' ∧ Fs [2] 1 [1] M M' ∧ M' 1 1 = M 1 1 + 4 ∧ (∀ i, i < M 1 1 → M' 2 i = M 2 i) ∧ ∀ j : Int, 0 ≤ j → j < 4 → M' 2 (M 1 1 + j) = byV x j := by
  unfold f_Nb_putBytes
  refine loop_r (F := fun n (y : mH × Int) => f_Nb_putBytes_L3 1 x n y.1 y.2) (P := fun r => ∃ h' M', r = some ((3, 0), h') ∧ At h' c p L M' ∧ Fs [2] 1 [1] M M' ∧ M' 1 1 = M 1 1 + 4 ∧ (∀ i, i < M 1 1 → M' 2 i = M 2 i) ∧ ∀ j : Int, 0 ≤ j → j < 4 → M' 2 (M 1 1 + j) = byV x j) (fun i y => y.2 = 24 - 8 * (i : Int) ∧ ∃ M', At y.1 c p L M' ∧ Fs [2] 1 [1] M M' ∧ M' 1 1 = M 1 1 + i ∧ (∀ i, i < M 1 1 → M' 2 i = M 2 i) ∧ ∀ j : Int, 0 ≤ j → j < (i : Int) → M' 2 (M 1 1 + j) = byV x j) 4 (fun i hi y hy n => ?_) (fun y hy n => ?_) (i := 0) (b := (h, 24)) ⟨rfl, M, A, Fs.rf _ _ _ _, by omega, fun _ _ => rfl, fun j q0 q1 => by omega⟩ (by omega) (by omega)
  · obtain ⟨h2, r⟩ := y
    obtain ⟨hr_, M2, A2_, F2, e2, o2, v2⟩ := hy
    have hr : r = 24 - 8 * (i : Int) := hr_
    have A2 : At h2 c p L M2 := A2_
    clear hr_ A2_
    subst hr
    right
    have C2 := A2.nb
    have A3 := A2.aput (v := 2) (M 1 1 + i) (byV x i) (by decide) (by decide) (by decide) (by decide +kernel) (by decide) (by decide)
    have C3 := A3.nb
    have A4 := A3.fput (v := 1) (i := 1) (M 1 1 + i + 1) (by decide) (by decide) (by decide) (by decide +kernel) (by decide)
    refine ⟨(hput (hput h2 2 (M 1 1 + i) (byV x i)) 1 1 (M 1 1 + i + 1), 24 - 8 * ((i + 1 : Nat) : Int)), ⟨rfl, _, A4, (F2.pu (by decide) (by decide)).ps (by decide), by rw [mup_eq]; push_cast; omega, fun j q => ?_, fun j q0 q1 => ?_⟩, ?_⟩
    · rw [mup_fn (by decide), mup_ne (Or.inr (by omega))]; exact o2 j q
    · rw [mup_fn (by decide)]
      by_cases e : j = i
      · rw [e, mup_eq]
      · rw [mup_ne (Or.inr (by omega))]; exact v2 j q0 (by omega)
    · show f_Nb_putBytes_L3 1 x (n + 1) h2 (24 - 8 * (i : Int)) = f_Nb_putBytes_L3 1 x n (hput (hput h2 2 (M 1 1 + i) (byV x i)) 1 1 (M 1 1 + i + 1)) (24 - 8 * ((i + 1 : Nat) : Int))
      rw [f_Nb_putBytes_L3, if_neg (by omega)]
      simp only [C2]
      rw [chk_t trivial, e2, if_neg (by omega), chk_t trivial, chk_t trivial, chk_t trivial, chk_t (by omega), w8_w8, wth]
      show chk _ _ = _
      rw [show w8 (qshr x (24 - 8 * (i : Int))) = byV x i from rfl]
      simp only [C3]
      rw [chk_t trivial, chk_t trivial, mup_fn (by decide), e2, w32_id (by omega) (by omega), wth, wtv, w32_id (by omega) (by omega)]
      congr 1; omega
  · obtain ⟨h2, r⟩ := y
    obtain ⟨hr_, M2, A2_, F2, e2, o2, v2⟩ := hy
    have hr : r = 24 - 8 * ((4 : Nat) : Int) := hr_
    have A2 : At h2 c p L M2 := A2_
    clear hr_ A2_
    subst hr
    refine ⟨h2, M2, ?_, A2, F2, e2, o2, fun j q0 q1 => v2 j q0 (by omega)⟩
    show f_Nb_putBytes_L3 1 x (n + 1) h2 _ = _
    rw [f_Nb_putBytes_L3, if_pos (by omega)]
def fbV (a b x d e i : Int) : Int := byV (if i < 4 then a else if i < 8 then b else if i < 12 then x else if i < 16 then d else e) (i % 4)
theorem KS.fd {M' : aM} (K : KS E M L t) (F : Fs [2] 1 [1] M M') : KS E M' L t := by
  have h1 : M' 1 4 = M 1 4 := F.2 4 (by decide)
  have hh : ∀ v, v ≠ 1 → v ≠ 2 → M' v = M v := fun v q0 q1 => F.1 v (by simpa using q1) q0
  refine ⟨K.R.eq (fun v g0 g1 => hh v (by omega) (by omega)), K.W, K.D, by rw [hh 5 (by decide) (by decide)]; exact K.S, by rw [hh 5 (by decide) (by decide), h1]; exact K.e, ?_, ?_, ?_, ?_, ?_⟩
  · obtain ⟨q1, q2⟩ := K.G
    refine ⟨?_, by rw [hh 41 (by decide) (by decide), h1]; exact q2⟩
    unfold CG GS GG at q1 ⊢
    rw [hh 41 (by decide) (by decide), hh 42 (by decide) (by decide), hh 44 (by decide) (by decide), hh 45 (by decide) (by decide), hh 46 (by decide) (by decide)]
    exact q1
  · obtain ⟨q1, q2, q3⟩ := K.p1
    refine ⟨?_, by rw [hh 48 (by decide) (by decide), h1]; exact q2, by rw [hh 48 (by decide) (by decide)]; exact q3⟩
    unfold CP PI at q1 ⊢
    rw [hh 48 (by decide) (by decide), hh 49 (by decide) (by decide), hh 50 (by decide) (by decide)]; exact q1
  · obtain ⟨q1, q2, q3⟩ := K.p2
    refine ⟨?_, by rw [hh 51 (by decide) (by decide), h1]; exact q2, by rw [hh 51 (by decide) (by decide)]; exact q3⟩
    unfold CP PI at q1 ⊢
    rw [hh 51 (by decide) (by decide), hh 52 (by decide) (by decide), hh 53 (by decide) (by decide)]; exact q1
  · obtain ⟨q1, q2, q3⟩ := K.p3
    refine ⟨?_, by rw [hh 54 (by decide) (by decide), h1]; exact q2, by rw [hh 54 (by decide) (by decide)]; exact q3⟩
    unfold CP PI at q1 ⊢
    rw [hh 54 (by decide) (by decide), hh 55 (by decide) (by decide), hh 56 (by decide) (by decide)]; exact q1
  · obtain ⟨q1, q2⟩ := K.N
    refine ⟨?_, by rw [hh 64 (by decide) (by decide), h1]; exact q2⟩
    unfold CN at q1 ⊢
    rw [hh 64 (by decide) (by decide), hh 65 (by decide) (by decide)]; exact q1
theorem c_feed (A : At h c p L M) (K : KS E M L t) (hf : 0 ≤ M 1 1 ∧ M 1 1 ≤ 900) (a b x d e : Int) :
    (880 < M 1 1 ∧ f_Nb_feed h 1 a b x d e = some ((0, -1), h)) ∨ (M 1 1 ≤ 880 ∧ ∃ h' M', f_Nb_feed h 1 a b x d e = some ((0, M 1 1 + 20), h') ∧ At h' c p L M' ∧ Fs [2] 1 [1] M M' ∧ M' 1 1 = M 1 1 + 20 ∧ (∀ i, i < M 1 1 → M' 2 i = M 2 i) ∧ (∀ i : Int, 0 ≤ i → i < 20 → M' 2 (M 1 1 + i) = fbV a b x d e i) ∧ KS E M' L t) := by
  have C := A.nb
  unfold f_Nb_feed
  simp only [C]
  rw [chk_t trivial, w32_id (by omega) (by omega)]
  by_cases g : M 1 1 + 20 ≤ 900
  · right
    refine ⟨by omega, ?_⟩
    obtain ⟨h1, M1, f1, A1, F1, e1, o1, v1⟩ := s_putBytes A (x := a) (by omega) (by omega)
    obtain ⟨h2, M2, f2, A2, F2, e2, o2, v2⟩ := s_putBytes A1 (x := b) (by omega) (by omega)
    obtain ⟨h3, M3, f3, A3, F3, e3, o3, v3⟩ := s_putBytes A2 (x := x) (by omega) (by omega)
    obtain ⟨h4, M4, f4, A4, F4, e4, o4, v4⟩ := s_putBytes A3 (x := d) (by omega) (by omega)
    obtain ⟨h5, M5, f5, A5, F5, e5, o5, v5⟩ := s_putBytes A4 (x := e) (by omega) (by omega)
    have C1 := A1.nb
    have C2 := A2.nb
    have C3 := A3.nb
    have C4 := A4.nb
    have C5 := A5.nb
    have F : Fs [2] 1 [1] M M5 := (((F1.tr F2).tr F3).tr F4).tr F5
    refine ⟨h5, M5, ?_, A5, F, by omega, fun i q => by rw [o5 i (by omega), o4 i (by omega), o3 i (by omega), o2 i (by omega), o1 i q], fun i q0 q1 => ?_, K.fd F⟩
    · rw [if_pos g, chk_t trivial, f1, bndT_ok (by decide)]
      simp only [C1]
      rw [chk_t trivial, f2, bndT_ok (by decide)]
      simp only [C2]
      rw [chk_t trivial, f3, bndT_ok (by decide)]
      simp only [C3]
      rw [chk_t trivial, f4, bndT_ok (by decide)]
      simp only [C4]
      rw [chk_t trivial, f5, bndT_ok (by decide)]
      simp only [C5]
      rw [chk_t trivial, show M5 1 1 = M 1 1 + 20 by omega]
    · unfold fbV
      by_cases g1 : i < 4
      · rw [if_pos g1, o5 _ (by omega), o4 _ (by omega), o3 _ (by omega), o2 _ (by omega), v1 i q0 g1, show i % 4 = i by omega]
      rw [if_neg g1]
      by_cases g2 : i < 8
      · rw [if_pos g2, o5 _ (by omega), o4 _ (by omega), o3 _ (by omega), show M 1 1 + i = M1 1 1 + (i - 4) by omega, v2 (i - 4) (by omega) (by omega), show i % 4 = i - 4 by omega]
      rw [if_neg g2]
      by_cases g3 : i < 12
      · rw [if_pos g3, o5 _ (by omega), o4 _ (by omega), show M 1 1 + i = M2 1 1 + (i - 8) by omega, v3 (i - 8) (by omega) (by omega), show i % 4 = i - 8 by omega]
      rw [if_neg g3]
      by_cases g4 : i < 16
      · rw [if_pos g4, o5 _ (by omega), show M 1 1 + i = M3 1 1 + (i - 12) by omega, v4 (i - 12) (by omega) (by omega), show i % 4 = i - 12 by omega]
      rw [if_neg g4, show M 1 1 + i = M4 1 1 + (i - 16) by omega, v5 (i - 16) (by omega) (by omega), show i % 4 = i - 16 by omega]
  · left; rw [if_neg g]; exact ⟨by omega, rfl⟩
end
