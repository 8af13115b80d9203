/-! KNOWN AND ROWS, THE REFERENCE -/
section
variable {h : mH} {c : Int} {p L : Int → Int} {M : aM} {t : tT}
theorem LQ.fr {M' : aM} (Q : LQ M t) (F : Fr [86, 87] M M') : LQ M' t := fun s v q0 q1 q2 q3 => by rw [F 90 (by decide)]; exact Q s v q0 q1 q2 q3
theorem r_known (A : At h c p L M) (I : RI M t) {τ : Int} (hm : 0 ≤ τ → τ < 4 → 0 ≤ M 97 τ ∧ M 97 τ ≤ 40) : RV c p L M 1 (f_Md_known h 75 τ) (itK t (st t (pa t)) (fun i => M 98 (40 * τ + i)) (M 97 τ).toNat (st t (po t))) (if 0 ≤ τ ∧ τ < 4 then (if M 96 τ = -1 then 2 else if nS t ≤ 20000 then (if M 97 τ = 0 then 3 else 0) else 2) else 1) := by
  have W := I.2.1
  have B := I.mh A
  have hn := nN_eq W
  have hS := nS_rng W
  have hz := I.nowr
  have ho := I.opnr
  generalize hX : itK t (st t (pa t)) (fun i => M 98 (40 * τ + i)) (M 97 τ).toNat (st t (po t)) = X
  have j49n : ∀ k h1 M1, k ≠ 0 → 0 ≤ k → At h1 c p L M1 → M1 75 5 = k → FM M M1 → RV c p L M 1 (f_Md_known_J49 75 τ h1) X k := fun k h1 M1 k0 k1 A1 e1 F1 => by
    have C1 := A1.md
    unfold f_Md_known_J49
    simp only [C1]
    rw [chk_t trivial, e1, if_neg (by omega)]
    exact RV_mv F1 (RV_no A1 e1 k0)
  have j49z : ∀ h1 M1, At h1 c p L M1 → RI M1 t → M1 75 5 = 0 → FM M M1 → nS t ≤ 20000 → 0 ≤ τ → τ < 4 → RV c p L M 1 (f_Md_known_J49 75 τ h1) X 0 := fun h1 M1 A1 I1 e1 F1 hS2 t0 t1 => by
    have C1 := A1.md
    have hm := hm t0 t1
    unfold f_Md_known_J49
    simp only [C1]
    rw [chk_t trivial, e1, if_pos (by decide)]
    obtain ⟨h2, M2, f2, A2, F2, Q2⟩ := s_laysLeads A1 I1 hS2
    have I2 := I1.fm (F2.fm (by decide) (by decide))
    obtain ⟨h3, M3, f3, A3, F3, V3⟩ := s_waysBegin A2 I2 hS2
    rw [chk_t trivial, f2, bndT_ok (by decide), chk_t (I2.mh A2).T, f3, bndT_ok (by decide)]
    refine RV_mv F1 (RV_mv (F2.fm (by decide) (by decide)) ?_)
    have e2 : M2 75 5 = 0 := by rw [F2 75 (by decide)]; exact e1
    have e98 : ∀ i, M2 98 i = M 98 i := fun i => by rw [F2 98 (by decide), F1.1 98 (by decide) (by decide)]
    have e97 : M2 97 τ = M 97 τ := by rw [F2 97 (by decide), F1.1 97 (by decide) (by decide)]
    refine loop_r (F := fun n (b : mH × Int) => f_Md_known_L68 (fun h5  => chk (hpT h5 75 = 12) (chk (hpT h5 75 = 12) (bndT 0 (f_Md_openStand h5 75) (fun x7 h6 => chk (hpT h6 (hpV h5 75 25) = 22) (chk (0 ≤ x7 ∧ x7 < hpL h6 (hpV h5 75 25)) (some ((1, hpV h6 (hpV h5 75 25) x7), h6))))))) 75 τ n b.1 b.2) (P := fun o => RV c p L M2 1 o X 0) (fun i b => b.2 = (i : Int) ∧ ∃ M', At b.1 c p L M' ∧ Fr [86, 87] M2 M' ∧ WVQ M' 86 t (itK t (st t (pa t)) (fun i => M 98 (40 * τ + i)) i)) (M 97 τ).toNat (fun i hi b hb n => ?_) (fun b hb n => ?_) (i := 0) (b := (h3, 0)) ⟨rfl, M3, A3, F3.mono (by decide), V3⟩ (by omega) (by omega)
    · obtain ⟨h5, r⟩ := b
      obtain ⟨hr_, M5, A5_, F5, V5⟩ := hb
      have hr : r = (i : Int) := hr_
      have A5 : At h5 c p L M5 := A5_
      clear hr_ A5_
      subst hr
      right
      have I5 := I2.fm (F5.fm (by decide) (by decide))
      have C5 := A5.md
      have E5 := A5.md
      have q98 : M5 98 (40 * τ + i) = M 98 (40 * τ + i) := by rw [F5 98 (by decide)]; exact e98 _
      have q97 : M5 97 τ = M 97 τ := by rw [F5 97 (by decide)]; exact e97
      obtain ⟨h6, M6, f6, A6, F6, V6⟩ := s_waysGo A5 I5 hS2 (Q2.fr F5) (w := M 98 (40 * τ + i)) V5
      refine ⟨(h6, ((i + 1 : Nat) : Int)), ⟨rfl, M6, A6, F5.tr F6, V6⟩, ?_⟩
      show f_Md_known_L68 _ 75 τ (n + 1) h5 i = _
      rw [f_Md_known_L68, show w32 (w32 (40 * τ) + (i : Int)) = 40 * τ + i by rw [w32_id (x := 40 * τ) (by omega) (by omega), w32_id (by omega) (by omega)]]
      simp only [C5]
      rw [chk_t trivial, chk_t trivial, chk_t (by omega), q97, if_neg (by omega), chk_t trivial, chk_t trivial, chk_t (by omega), chk_t trivial, q98, f6, bndT_ok (by decide), wtv, w32_n i (by omega)]
    · obtain ⟨h5, r⟩ := b
      obtain ⟨hr_, M5, A5_, F5, V5⟩ := hb
      have hr : r = ((M 97 τ).toNat : Int) := hr_
      have A5 : At h5 c p L M5 := A5_
      clear hr_ A5_
      subst hr
      have I5 := I2.fm (F5.fm (by decide) (by decide))
      have C5 := A5.md
      have q97 : M5 97 τ = M 97 τ := by rw [F5 97 (by decide)]; exact e97
      show RV c p L M2 1 (f_Md_known_L68 _ 75 τ (n + 1) h5 _) _ 0
      rw [f_Md_known_L68]
      simp only [C5]
      rw [chk_t trivial, chk_t trivial, chk_t (by omega), q97, if_pos (by omega), chk_t trivial, chk_t trivial, s_opn A5 I5, bndT_ok (by decide)]
      simp only [C5]
      rw [chk_t trivial, chk_t (by omega), V5 _ ho.1 ho.2, hX]
      exact RV_mv (F5.fm (by decide) (by decide)) (RV_ok A5 (by rw [F5 75 (by decide)]; exact e2))
  have j28 : ∀ k h1 M1, 0 ≤ k → At h1 c p L M1 → RI M1 t → M1 75 5 = k → FM M M1 → (k = 0 → nS t ≤ 20000 ∧ 0 ≤ τ ∧ τ < 4) → RV c p L M 1 (f_Md_known_J28 75 τ h1) X (if k = 0 then (if M 97 τ = 0 then 3 else 0) else k) := fun k h1 M1 k1 A1 I1 e1 F1 hk => by
    have C1 := A1.md
    unfold f_Md_known_J28
    simp only [C1]
    rw [chk_t trivial, e1]
    by_cases k0 : k = 0
    · rw [if_pos k0, if_pos k0]
      obtain ⟨g1, g2, g3⟩ := hk k0
      have e97 : M1 97 τ = M 97 τ := by rw [F1.1 97 (by decide) (by decide)]
      rw [chk_t trivial, chk_t trivial, chk_t (by omega), e97]
      by_cases q : M 97 τ = 0
      · rw [if_pos q, if_pos q, chk_t trivial, wth]
        exact j49n 3 _ _ (by decide) (by decide) (A1.thr 3) (thr_eq M1 3) (F1.tr (FM.thr M1 3))
      · rw [if_neg q, if_neg q]
        exact j49z h1 M1 A1 I1 (by rw [e1]; exact k0) F1 g1 g2 g3
    · rw [if_neg k0, if_neg k0]
      exact j49n k h1 M1 k0 k1 A1 e1 F1
  unfold f_Md_known
  rw [chk_t B.T, s_trayFault A τ, bndT_ok (by decide), chk_t B.T, wth]
  by_cases g1 : 0 ≤ τ ∧ τ < 4
  · rw [if_pos g1, if_pos g1]
    by_cases g2 : M 96 τ = -1
    · rw [if_pos g2, if_pos g2, chk_t ((I.fm (FM.thr M 2)).mh (A.thr 2)).T, if_neg (by rw [show hpV (hput h 75 5 2) 75 5 = 2 from by have C := (A.thr 2).md; simp only [C]; exact thr_eq M 2]; decide)]
      exact j28 2 _ _ (by decide) (A.thr 2) (I.fm (FM.thr M 2)) (thr_eq M 2) (FM.thr M 2) (fun q => absurd q (by decide))
    · have A1 := A.thr 0
      have I1 := I.fm (FM.thr M 0)
      have B1 := I1.mh A1
      rw [if_neg g2, if_neg g2, chk_t B1.T, if_pos (by have C := A1.md; simp only [C]; exact thr_eq M 0), chk_t B1.T, s_Md_spent A1 I1, bndT_ok (by decide)]
      by_cases g3 : nS t ≤ 20000
      · rw [if_pos g3, if_pos rfl, if_pos g3]
        exact j28 0 _ _ (by decide) A1 I1 (thr_eq M 0) (FM.thr M 0) (fun _ => ⟨g3, g1.1, g1.2⟩)
      · rw [if_neg g3, if_neg (by decide), if_neg g3, chk_t B1.T, wth]
        exact j28 2 _ _ (by decide) (A1.thr 2) (I1.fm (FM.thr _ 2)) (thr_eq _ 2) ((FM.thr M 0).tr (FM.thr _ 2)) (fun q => absurd q (by decide))
  · rw [if_neg g1, if_neg g1, chk_t ((I.fm (FM.thr M 1)).mh (A.thr 1)).T, if_neg (by rw [show hpV (hput h 75 5 1) 75 5 = 1 from by have C := (A.thr 1).md; simp only [C]; exact thr_eq M 1]; decide)]
    exact j28 1 _ _ (by decide) (A.thr 1) (I.fm (FM.thr M 1)) (thr_eq M 1) (FM.thr M 1) (fun q => absurd q (by decide))
/-! into sh no row may go: what came there is struck out -/
def ct (sh : Int) (V : Int → Int) (x : Int) : Int := if x = sh then 0 else V x
theorem flT_all : flT (-1) = fun _ => true := by funext k; unfold flT; simp
theorem ct_li (W : WS t) {fl : Int → Bool} {sh : Int} {V : Int → Int} {s : Int} (h0 : 0 ≤ s) (h1 : s < nS t) {U U' : Int → Int} (H : ∀ x, U x = ct sh U' x) : ∀ (k : Nat) x, li t fl sh V s k U x = ct sh (li t fl (-1) V s k U') x
  | 0, x => H x
  | k + 1, x => by
    have ih := ct_li W (fl := fl) (V := V) h0 h1 H k
    rcases nF_gs W (v := (k : Int)) h0 h1 with ⟨_, eg⟩ | ⟨eg, e, e0, _⟩
    · rw [show li t fl (-1) V s (k + 1) U' = li t fl (-1) V s k U' by rw [li, if_neg (by rw [eg]; simp)], li, if_neg (by rw [eg]; simp)]; exact ih x
    · rw [e] at e0
      cases ef : fl k
      · rw [show li t fl (-1) V s (k + 1) U' = li t fl (-1) V s k U' by rw [li, if_neg (by rw [ef]; simp)], li, if_neg (by rw [ef]; simp)]; exact ih x
      · rw [show li t fl (-1) V s (k + 1) U' = u1 (li t fl (-1) V s k U') (s + sf t k) (w64 (li t fl (-1) V s k U' (s + sf t k) + V s)) by rw [li, if_pos (by rw [eg, ef, decide_eq_true (show s + sf t k ≠ -1 by omega)]; rfl)], li]
        by_cases q : s + sf t k = sh
        · rw [if_neg (by rw [decide_eq_false (fun g => g q)]; simp), ih x]
          unfold ct
          by_cases q2 : x = sh
          · rw [if_pos q2, if_pos q2]
          · rw [if_neg q2, if_neg q2, u1_ne (by omega)]
        · rw [if_pos (by rw [eg, ef, decide_eq_true q]; rfl)]
          by_cases q3 : x = s + sf t k
          · rw [q3, u1_eq, ih]
            unfold ct
            rw [if_neg q, if_neg q, u1_eq]
          · rw [u1_ne q3, ih]
            unfold ct
            rw [u1_ne q3]
theorem ct_lo (W : WS t) {fl : Int → Bool} {sh : Int} {V : Int → Int} : ∀ (m : Nat), (m : Int) ≤ nS t → ∀ x, lo t fl sh V m x = ct sh (lo t fl (-1) V m) x
  | 0, _, x => by unfold ct lo; split <;> rfl
  | m + 1, hm, x => by
    have ih := ct_lo W (fl := fl) (sh := sh) (V := V) m (by omega)
    unfold ct
    rw [lo, lo]
    by_cases q : V m = 0
    · rw [if_pos q, if_pos q]; exact ih x
    · rw [if_neg q, if_neg q]
      exact ct_li W (by omega) (by omega) ih (nK t) x
theorem lo_zero {fl : Int → Bool} {sh : Int} : ∀ (m : Nat) x, lo t fl sh (fun _ => 0) m x = 0
  | 0, _ => rfl
  | m + 1, x => by rw [lo, if_pos rfl]; exact lo_zero m x
theorem sq_zero : ∀ (m : Nat), sq (fun _ => 0) m = 0
  | 0 => rfl
  | m + 1 => by rw [sq, sq_zero m]; decide
/-- the rows that do not touch sh, as the reference lays them -/
def it2 (t : tT) (z sh : Int) (n : Nat) : Int → Int := if z = sh then (fun _ => 0) else it t sh z n
theorem it2_0 {z sh : Int} (x : Int) : ct sh (dl z) x = it2 t z sh 0 x := by
  unfold ct it2 dl
  by_cases q : z = sh
  · rw [if_pos q]
    by_cases q2 : x = sh
    · rw [if_pos q2]
    · rw [if_neg q2, if_neg (by omega)]
  · rw [if_neg q]
    show _ = dl z x
    unfold dl
    by_cases q2 : x = sh
    · rw [if_pos q2, if_neg (by omega)]
    · rw [if_neg q2]
theorem it2_s (W : WS t) {z sh : Int} (n : Nat) (x : Int) : ct sh (LO t (flT (-1)) (-1) (it2 t z sh n)) x = it2 t z sh (n + 1) x := by
  have hn := nN_eq W
  unfold it2
  by_cases q : z = sh
  · rw [if_pos q, if_pos q]
    unfold ct LO
    rw [lo_zero]; split <;> rfl
  · rw [if_neg q, if_neg q, flT_all]
    exact (ct_lo W (nN t) (by omega) x).symm
theorem it2_r (z n sh : Int) : sq (it2 t z sh n.toNat) (nN t) = rwV t z n sh := by
  unfold it2 rwV
  by_cases q : z = sh
  · rw [if_pos q, if_pos q, sq_zero]
  · rw [if_neg q, if_neg q]
theorem WVQ.ct {V : Int → Int} {sh : Int} (H : WVQ M 86 t V) : WVQ (mup M 86 sh 0) 86 t (ct sh V) := fun s g0 g1 => by
  unfold Jvm.Pilot.@@N@@.ct
  by_cases e : s = sh
  · rw [e, mup_eq, if_pos rfl]
  · rw [mup_ne (Or.inr e), if_neg e]; exact H s g0 g1
end
