/-! A TRAY'S VERSE MADE AND JUDGED BY THE REFERENCE -/
theorem vP_stop {t : tT} {N : Int → Int} : ∀ {n : Nat}, (vP t N n).2 < n → whN (vP t N n).1 (N (vP t N n).2) ≠ 0
  | 0, h => by have : (vP t N 0).2 = 0 := rfl; omega
  | n + 1, h => by
    rw [vP] at h ⊢
    by_cases e : (vP t N n).2 = n ∧ whN (vP t N n).1 (N n) = 0
    · rw [if_pos e] at h
      have h : (n : Int) + 1 < ((n + 1 : Nat) : Int) := h
      omega
    · rw [if_neg e] at h ⊢
      have hr := vP_rng t N n
      by_cases g : (vP t N n).2 < n
      · exact vP_stop g
      · have eq : (vP t N n).2 = n := by omega
        rw [eq]
        exact fun q => e ⟨eq, q⟩
def OUT (u t : tT) : Prop := ∀ j : Int, ¬ (0 ≤ j ∧ j < 434) → u j = t j
theorem stp_OUT {t : tT} (W : WS t) (b up : Int) : OUT (stp t b up) t := fun j hj => by
  unfold stp
  by_cases e : wy0 t b up = 0
  · have := (wy0_rng e).1
    have := W.1
    rw [if_pos e]; exact mk1_o (by omega) (by omega)
  · rw [if_neg e]
theorem stN_OUT {t : tT} (W : WS t) (v : Int) : OUT (stN t v) t := by
  unfold stN
  split
  · exact stp_OUT W _ _
  · exact fun _ _ => rfl
theorem vP_OUT {t : tT} {N : Int → Int} (W : WS t) (D : RW t (pa t)) {m : Int} (B : MDB t m) : ∀ n : Nat, OUT (vP t N n).1 t
  | 0 => fun _ _ => rfl
  | n + 1 => fun j hj => by
    have := vP_OUT (N := N) W D B n j hj
    rw [vP]; split
    · exact (stN_OUT (Sq_WS (vP_ok W D B n).1.symm W) _ j hj).trans this
    · exact this
section
variable {h : mH} {c : Int} {p L : Int → Int} {M : aM} {t : tT}
theorem s_cp76 (A : At h c p L M) : ∃ h' M', f_Md_copies h 76 78 = some ((3, 0), h') ∧ At h' c p L M' ∧ Fr [78] M M' ∧ ∀ j : Int, M' 78 j = if 0 ≤ j ∧ j < 434 then M 76 j else M 78 j := by
  unfold f_Md_copies
  refine loop_r (F := fun n (b : mH × Int) => f_Md_copies_L2 76 78 n b.1 b.2) (P := fun r => ∃ h' M', r = some ((3, 0), h') ∧ At h' c p L M' ∧ Fr [78] M M' ∧ ∀ j : Int, M' 78 j = if 0 ≤ j ∧ j < 434 then M 76 j else M 78 j) (fun i b => b.2 = (i : Int) ∧ ∃ M', At b.1 c p L M' ∧ Fr [78] M M' ∧ ∀ j : Int, M' 78 j = if 0 ≤ j ∧ j < (i : Int) then M 76 j else M 78 j) 434 (fun i hi b hb n => ?_) (fun b hb n => ?_) (i := 0) (b := (h, 0)) ⟨rfl, M, A, Fr.rf _ _, fun j => by rw [if_neg (by omega)]⟩ (by omega) (by omega)
  · obtain ⟨h2, r⟩ := b
    obtain ⟨hr_, M2, A2_, F2, v2⟩ := hb
    have hr : r = (i : Int) := hr_
    have A2 : At h2 c p L M2 := A2_
    clear hr_ A2_
    subst hr
    right
    have C2 := A2.md
    have A3 := A2.aput (v := 78) i (M 76 i) (by decide) (by decide) (by decide) (by decide +kernel) (by decide) (by decide)
    refine ⟨(hput h2 78 i (M 76 i), ((i + 1 : Nat) : Int)), ⟨rfl, _, A3, F2.pu (by decide), fun j => ?_⟩, ?_⟩
    · by_cases e : j = i
      · rw [e, mup_eq, if_pos (by omega)]
      · rw [mup_ne (Or.inr e), v2 j]
        by_cases g : 0 ≤ j ∧ j < (i : Int)
        · rw [if_pos g, if_pos (by omega)]
        · rw [if_neg g, if_neg (by omega)]
    · show f_Md_copies_L2 76 78 (n + 1) h2 i = f_Md_copies_L2 76 78 n (hput h2 78 i (M 76 i)) ((i + 1 : Nat) : Int)
      rw [f_Md_copies_L2, if_neg (by omega)]
      simp only [C2]
      rw [chk_t trivial, chk_t (by omega), chk_t trivial, chk_t (by omega), show M2 76 i = M 76 i by rw [F2 76 (by decide)], wth, wtv, w32_n i (by omega)]
  · obtain ⟨h2, r⟩ := b
    obtain ⟨hr_, M2, A2_, F2, v2⟩ := hb
    have hr : r = ((434 : Nat) : Int) := hr_
    have A2 : At h2 c p L M2 := A2_
    clear hr_ A2_
    subst hr
    refine ⟨h2, M2, ?_, A2, F2, v2⟩
    show f_Md_copies_L2 76 78 (n + 1) h2 ((434 : Nat) : Int) = _
    rw [f_Md_copies_L2, if_pos (by omega)]
theorem s_cp78 (A : At h c p L M) : ∃ h' M', f_Md_copies h 78 76 = some ((3, 0), h') ∧ At h' c p L M' ∧ Fr [76] M M' ∧ ∀ j : Int, M' 76 j = if 0 ≤ j ∧ j < 434 then M 78 j else M 76 j := by
  unfold f_Md_copies
  refine loop_r (F := fun n (b : mH × Int) => f_Md_copies_L2 78 76 n b.1 b.2) (P := fun r => ∃ h' M', r = some ((3, 0), h') ∧ At h' c p L M' ∧ Fr [76] M M' ∧ ∀ j : Int, M' 76 j = if 0 ≤ j ∧ j < 434 then M 78 j else M 76 j) (fun i b => b.2 = (i : Int) ∧ ∃ M', At b.1 c p L M' ∧ Fr [76] M M' ∧ ∀ j : Int, M' 76 j = if 0 ≤ j ∧ j < (i : Int) then M 78 j else M 76 j) 434 (fun i hi b hb n => ?_) (fun b hb n => ?_) (i := 0) (b := (h, 0)) ⟨rfl, M, A, Fr.rf _ _, fun j => by rw [if_neg (by omega)]⟩ (by omega) (by omega)
  · obtain ⟨h2, r⟩ := b
    obtain ⟨hr_, M2, A2_, F2, v2⟩ := hb
    have hr : r = (i : Int) := hr_
    have A2 : At h2 c p L M2 := A2_
    clear hr_ A2_
    subst hr
    right
    have C2 := A2.md
    have A3 := A2.aput (v := 76) i (M 78 i) (by decide) (by decide) (by decide) (by decide +kernel) (by decide) (by decide)
    refine ⟨(hput h2 76 i (M 78 i), ((i + 1 : Nat) : Int)), ⟨rfl, _, A3, F2.pu (by decide), fun j => ?_⟩, ?_⟩
    · by_cases e : j = i
      · rw [e, mup_eq, if_pos (by omega)]
      · rw [mup_ne (Or.inr e), v2 j]
        by_cases g : 0 ≤ j ∧ j < (i : Int)
        · rw [if_pos g, if_pos (by omega)]
        · rw [if_neg g, if_neg (by omega)]
    · show f_Md_copies_L2 78 76 (n + 1) h2 i = f_Md_copies_L2 78 76 n (hput h2 76 i (M 78 i)) ((i + 1 : Nat) : Int)
      rw [f_Md_copies_L2, if_neg (by omega)]
      simp only [C2]
      rw [chk_t trivial, chk_t (by omega), chk_t trivial, chk_t (by omega), show M2 78 i = M 78 i by rw [F2 78 (by decide)], wth, wtv, w32_n i (by omega)]
  · obtain ⟨h2, r⟩ := b
    obtain ⟨hr_, M2, A2_, F2, v2⟩ := hb
    have hr : r = ((434 : Nat) : Int) := hr_
    have A2 : At h2 c p L M2 := A2_
    clear hr_ A2_
    subst hr
    refine ⟨h2, M2, ?_, A2, F2, v2⟩
    show f_Md_copies_L2 78 76 (n + 1) h2 ((434 : Nat) : Int) = _
    rw [f_Md_copies_L2, if_pos (by omega)]
abbrev FGO : aM → aM → Prop := Fs [76, 82] 75 [20]
theorem RI.fg {M' : aM} {u : tT} (I : RI M t) (F : FGO M M') (hu : RI M' u) : RI M' u := hu
theorem s_goesBy (A : At h c p L M) (I : RI M t) {m : Int} (B : MDB t m) (hm : m ≤ 50000) {τ : Int} (t0 : 0 ≤ τ) (t1 : τ < 4) {N : Int → Int} {k : Nat} (hN : ∀ i : Int, M 98 (40 * τ + i) = N i) (hk : M 97 τ = (k : Int)) (hk2 : k ≤ 40) (T : TL N k) : ∃ h' M', f_Md_goesBy h 75 τ = some ((0, (vP t N k).2), h') ∧ At h' c p L M' ∧ FGO M M' ∧ RI M' (vP t N k).1 ∧ M' 75 20 = vO t N k := by
  have W := I.2.1
  have D := I.2.2.1
  have A1 := fun x => A.fput (v := 75) (i := 20) x (by decide) (by decide) (by decide) (by decide +kernel) (by decide)
  have main : ∀ x, x = (if isO t = true then (-2 : Int) else -1) → ∃ h' M', f_Md_goesBy_J14 75 τ 75 x h = some ((0, (vP t N k).2), h') ∧ At h' c p L M' ∧ FGO M M' ∧ RI M' (vP t N k).1 ∧ M' 75 20 = vO t N k := fun x hx => by
    unfold f_Md_goesBy_J14
    rw [chk_t (I.mh A).T, wth]
    refine loop_r (F := fun n (b : mH × Int) => f_Md_goesBy_L19 75 τ n b.1 b.2) (P := fun o => ∃ h' M', o = some ((0, (vP t N k).2), h') ∧ At h' c p L M' ∧ FGO M M' ∧ RI M' (vP t N k).1 ∧ M' 75 20 = vO t N k) (fun i b => b.2 = (i : Int) ∧ ∃ M', At b.1 c p L M' ∧ FGO M M' ∧ (vP t N i).2 = i ∧ RI M' (vP t N i).1 ∧ M' 75 20 = vO t N i) k (fun i hi b hb n => ?_) (fun b hb n => ?_) (i := 0) (b := (hput h 75 20 x, 0)) ⟨rfl, _, A1 x, (Fs.rf _ _ _ _).ps (by decide), rfl, ⟨by rw [mup_fn (by decide)]; exact I.1, W, D, by rw [mup_ne (Or.inr (by decide))]; exact I.2.2.2⟩, by rw [mup_eq, hx]; rfl⟩ (by omega) (by omega)
    · obtain ⟨h1, r⟩ := b
      obtain ⟨hr_, M1, A1_, F1, p1, I1, o1⟩ := hb
      have hr : r = (i : Int) := hr_
      have A1 : At h1 c p L M1 := A1_
      clear hr_ A1_
      subst hr
      have C1 := A1.md
      have B1 := (vP_ok W D B (N := N) i).2.2
      have e97 : M1 97 τ = (k : Int) := by rw [F1.1 97 (by decide) (by decide)]; exact hk
      have e98 : M1 98 (40 * τ + i) = N i := by rw [F1.1 98 (by decide) (by decide)]; exact hN i
      have hx : w32 (w32 (40 * τ) + (i : Int)) = 40 * τ + i := by rw [w32_id (x := 40 * τ) (by omega) (by omega), w32_id (by omega) (by omega)]
      have hT := T i (by omega) (by omega)
      obtain ⟨h2, M2, f2, A2, F2⟩ := s_verseWhy A1 I1 (v := N i) hT
      have I2 := I1.fm (F2.fm (by decide) (by decide))
      have F2' : FGO M M2 := F1.tr ((F2.fs (d := 75) (is := []) (by decide)).mono (by decide) (fun _ q => by cases q))
      have C2 := A2.md
      have o2 : M2 75 20 = vO t N i := by rw [F2 75 (by decide)]; exact o1
      have e98' : M2 98 (40 * τ + i) = N i := by rw [F2 98 (by decide)]; exact e98
      show (∃ h' M', f_Md_goesBy_L19 75 τ (n + 1) h1 i = some ((0, (vP t N k).2), h') ∧ _) ∨ ∃ b' : mH × Int, _ ∧ f_Md_goesBy_L19 75 τ (n + 1) h1 i = _
      rw [f_Md_goesBy_L19, hx]
      simp only [C1]
      rw [chk_t trivial, chk_t trivial, chk_t (by omega), e97, if_neg (by omega), chk_t trivial, chk_t trivial, chk_t (by omega), chk_t trivial, e98, f2, bndT_ok (by decide)]
      by_cases g : whN (vP t N i).1 (N i) = 0
      · right
        have hr : 0 ≤ N i ∧ N i < 2 * nb (vP t N i).1 := by
          by_cases q : 0 ≤ N i ∧ N i < 2 * nb (vP t N i).1
          · exact q
          · unfold whN at g; rw [if_neg q] at g; exact absurd g (by decide)
        have hnb := I1.2.1.1
        have hs : vP t N (i + 1) = (stp (vP t N i).1 (N i / 2) (N i % 2), (i : Int) + 1) := by
          rw [vP, if_pos ⟨p1, g⟩]; unfold stN; rw [if_pos hr]
        have ho : vO t N (i + 1) = if vO t N i = -1 ∧ isO (vP t N (i + 1)).1 = true then (i : Int) else vO t N i := by rw [vO, if_pos ⟨p1, g⟩]
        have j76 : ∀ s2, s2 = N i % 2 → ∃ b' : mH × Int, (b'.2 = ((i + 1 : Nat) : Int) ∧ ∃ M', At b'.1 c p L M' ∧ FGO M M' ∧ (vP t N (i + 1)).2 = ((i + 1 : Nat) : Int) ∧ RI M' (vP t N (i + 1)).1 ∧ M' 75 20 = vO t N (i + 1)) ∧ f_Md_goesBy_J76 (f_Md_goesBy_L19 75 τ n) 75 i 75 (N i / 2) s2 h2 = f_Md_goesBy_L19 75 τ n b'.1 b'.2 := fun s2 hs2 => by
          obtain ⟨h3, M3, f3, A3, F3, e3, I3⟩ := s_makes A2 I2 B1 (by omega) (N i / 2) s2
          rw [hs2, show stp (vP t N i).1 (N i / 2) (N i % 2) = (vP t N (i + 1)).1 by rw [hs]] at I3
          have F3' : FGO M M3 := F2'.tr ((F3.fs (d := 75) (is := []) (by decide)).mono (by decide) (fun _ q => by cases q))
          have C3 := A3.md
          have o3 : M3 75 20 = vO t N i := by rw [F3 75 (by decide)]; exact o2
          have p3 : (vP t N (i + 1)).2 = ((i + 1 : Nat) : Int) := by rw [hs]; rfl
          have j100 : ∀ h, f_Md_goesBy_J100 (f_Md_goesBy_L19 75 τ n) i h = f_Md_goesBy_L19 75 τ n h ((i + 1 : Nat) : Int) := fun h => by
            unfold f_Md_goesBy_J100; rw [wtv, w32_n i (by omega)]
          unfold f_Md_goesBy_J76
          rw [chk_t (I2.mh A2).T, f3, bndT_ok (by decide)]
          simp only [C3]
          rw [chk_t trivial, o3]
          by_cases g1 : vO t N i = -1
          · rw [if_pos g1, chk_t trivial, s_Md_isOpenNow A3 I3, bndT_ok (by decide)]
            cases q : isO (vP t N (i + 1)).1
            · rw [if_pos (show b2i false = 0 from rfl), j100]
              exact ⟨(h3, ((i + 1 : Nat) : Int)), ⟨rfl, M3, A3, F3', p3, I3, by rw [ho, if_neg (by rw [q]; simp)]; exact o3⟩, rfl⟩
            · have A4 := A3.fput (v := 75) (i := 20) (i : Int) (by decide) (by decide) (by decide) (by decide +kernel) (by decide)
              rw [if_neg (by decide), chk_t (I3.mh A3).T, wth, j100]
              exact ⟨(hput h3 75 20 i, ((i + 1 : Nat) : Int)), ⟨rfl, _, A4, F3'.ps (by decide), p3, ⟨by rw [mup_fn (by decide)]; exact I3.1, I3.2.1, I3.2.2.1, by rw [mup_ne (Or.inr (by decide))]; exact I3.2.2.2⟩, by rw [ho, if_pos ⟨g1, q⟩, mup_eq]⟩, rfl⟩
          · rw [if_neg g1, j100]
            exact ⟨(h3, ((i + 1 : Nat) : Int)), ⟨rfl, M3, A3, F3', p3, I3, by rw [ho, if_neg (fun q => g1 q.1)]; exact o3⟩, rfl⟩
        rw [if_pos g]
        simp only [C2]
        rw [chk_t trivial, chk_t trivial, chk_t (by omega), wtv, e98', w32_id (x := N i) (by omega) (by omega), chk_t (by decide), chk_t (by decide), Int.tmod_eq_emod_of_nonneg hr.1, Int.tdiv_eq_ediv_of_nonneg hr.1, w32_id (x := N i / 2) (by omega) (by omega)]
        by_cases g1 : N i % 2 = 1
        · rw [if_pos g1]; exact j76 1 g1.symm
        · rw [if_neg g1]; exact j76 0 (by omega)
      · left
        have hs : vP t N (i + 1) = vP t N i := by rw [vP, if_neg (fun q => g q.2)]
        have ho : vO t N (i + 1) = vO t N i := by rw [vO, if_neg (fun q => g q.2)]
        have hlt : (vP t N (i + 1)).2 < ((i + 1 : Nat) : Int) := by rw [hs, p1]; omega
        have hs2 : vP t N k = vP t N i := by rw [vP_end hlt (by omega), hs]
        have ho2 : vO t N k = vO t N i := by rw [vO_end hlt (by omega), ho]
        rw [if_neg g, hs2, ho2]
        exact ⟨h2, M2, by rw [p1], A2, F2', I2, o2⟩
    · obtain ⟨h1, r⟩ := b
      obtain ⟨hr_, M1, A1_, F1, p1, I1, o1⟩ := hb
      have hr : r = (k : Int) := hr_
      have A1 : At h1 c p L M1 := A1_
      clear hr_ A1_
      subst hr
      have C1 := A1.md
      have e97 : M1 97 τ = (k : Int) := by rw [F1.1 97 (by decide) (by decide)]; exact hk
      refine ⟨h1, M1, ?_, A1, F1, I1, o1⟩
      show f_Md_goesBy_L19 75 τ (n + 1) h1 k = _
      rw [f_Md_goesBy_L19]
      simp only [C1]
      rw [chk_t trivial, chk_t trivial, chk_t (by omega), e97, if_pos (by omega), p1]
  unfold f_Md_goesBy
  rw [chk_t (I.mh A).T, s_Md_isOpenNow A I, bndT_ok (by decide)]
  cases q : isO t
  · rw [if_pos (show b2i false = 0 from rfl)]; exact main (-1) (by rw [q]; rfl)
  · rw [if_neg (by decide)]; exact main (-2) (by rw [q]; rfl)
end
