/-! pour, THE REFERENCE -/
section
variable {h : mH} {c : Int} {p L : Int → Int} {M : aM} {t : tT}
theorem RP.f98 {M' : aM} {S : tB} (P : RP M t S) (F : Fr [82, 98] M M') : RP M' t S := by
  unfold RP PI at P ⊢
  rw [F 84 (by decide), F 85 (by decide), F 75 (by decide)]; exact P
theorem RI.f98 {M' : aM} (I : RI M t) (F : Fr [82, 98] M M') : RI M' t := ⟨by rw [F 76 (by decide)]; exact I.1, I.2.1, I.2.2.1, by rw [F 75 (by decide)]; exact I.2.2.2⟩
theorem r_pour (A : At h c p L M) (I : RI M t) {τ : Int} (hs : 0 ≤ τ → τ < 4 → M 96 τ ≠ -1 → (0 ≤ M 96 τ ∧ M 96 τ ≤ 3) ∧ 0 ≤ M 97 τ ∧ M 97 τ ≤ 40) : ∃ h' M' y, f_Md_pour h 75 τ = some ((0, y), h') ∧ At h' c p L M' ∧ Fs (98 :: rL) 75 rS M M' ∧ M' 75 5 = (if 0 ≤ τ ∧ τ < 4 then (if M 96 τ = -1 then 2 else if nS t ≤ 20000 then 0 else 2) else 1) ∧ ((0 ≤ τ ∧ τ < 4) ∧ M 96 τ ≠ -1 ∧ nS t ≤ 20000 → y = poN t (M 97 τ)) ∧ ∀ j : Int, M' 98 j = if ((0 ≤ τ ∧ τ < 4) ∧ M 96 τ ≠ -1 ∧ nS t ≤ 20000) ∧ 40 * τ ≤ j ∧ j < 40 * τ + poN t (M 97 τ) then wln t (SB t (st t (po t))) (st t (pa t)) (j - 40 * τ).toNat else M 98 j := by
  have W := I.2.1
  have hz := I.nowr
  have ho := I.opnr
  have no : ∀ (h1 : mH) (M1 : aM) (k : Int), 0 < k → At h1 c p L M1 → Fs [] 75 [5] M M1 → M1 75 5 = k → ¬ ((0 ≤ τ ∧ τ < 4) ∧ M 96 τ ≠ -1 ∧ nS t ≤ 20000) → ∃ h' M' y, f_Md_pour_J28 75 τ h1 = some ((0, y), h') ∧ At h' c p L M' ∧ Fs (98 :: rL) 75 rS M M' ∧ M' 75 5 = k ∧ ((0 ≤ τ ∧ τ < 4) ∧ M 96 τ ≠ -1 ∧ nS t ≤ 20000 → y = poN t (M 97 τ)) ∧ ∀ j : Int, M' 98 j = if ((0 ≤ τ ∧ τ < 4) ∧ M 96 τ ≠ -1 ∧ nS t ≤ 20000) ∧ 40 * τ ≤ j ∧ j < 40 * τ + poN t (M 97 τ) then wln t (SB t (st t (po t))) (st t (pa t)) (j - 40 * τ).toNat else M 98 j := fun h1 M1 k k0 A1 F1 e1 g => by
    have C1 := A1.md
    refine ⟨h1, M1, 0, ?_, A1, F1.mono (by decide) (by decide), e1, fun q => absurd q g, fun j => by rw [if_neg (fun q => g q.1), F1.1 98 (by decide) (by decide)]⟩
    unfold f_Md_pour_J28
    simp only [C1]
    rw [chk_t trivial, e1, if_neg (by omega)]
  have f5 : ∀ k, Fs [] 75 [5] M (mup M 75 5 k) := fun k => (Fs.rf _ _ _ _).ps (by decide)
  unfold f_Md_pour
  rw [chk_t A.md.1, s_trayFault A τ, bndT_ok (by decide), chk_t A.md.1, wth]
  by_cases g1 : 0 ≤ τ ∧ τ < 4
  · by_cases g2 : M 96 τ = -1
    · rw [if_pos g1, if_pos g2, if_pos g1, if_pos g2, chk_t (A.thr 2).md.1, hp_thr A 2, if_neg (by decide)]
      exact no _ _ 2 (by decide) (A.thr 2) (f5 2) (thr_eq M 2) (fun q => q.2.1 g2)
    · have A1 := A.thr 0
      have I1 := I.fm (FM.thr M 0)
      rw [if_pos g1, if_neg g2, if_pos g1, if_neg g2, chk_t A1.md.1, hp_thr A 0, if_pos rfl, chk_t A1.md.1, s_Md_spent A1 I1, bndT_ok (by decide)]
      by_cases g3 : nS t ≤ 20000
      · rw [if_pos g3, if_pos rfl, if_pos g3]
        obtain ⟨s1, s2⟩ := hs g1.1 g1.2 g2
        have C1 := A1.md
        obtain ⟨h2, M2, f2, A2, F2, P2⟩ := s_shortestOf A1 I1 g3 hz.1 hz.2 ho.1 ho.2 (k := -1) (by omega)
        have I2 := I1.fm F2.fm
        have C2 := A2.md
        have k97 : M2 97 = M 97 := by rw [F2.1 97 (by decide) (by decide)]; exact mup_fn (by decide)
        have k96 : M2 96 = M 96 := by rw [F2.1 96 (by decide) (by decide)]; exact mup_fn (by decide)
        have k98 : M2 98 = M 98 := by rw [F2.1 98 (by decide) (by decide)]; exact mup_fn (by decide)
        have k5 : M2 75 5 = 0 := by rw [F2.2 5 (by decide)]; exact thr_eq M 0
        have F2' : Fs (98 :: rL) 75 rS M M2 := (FM.thr M 0 |>.mono (by decide) (fun _ q => q)).tr (F2.fm.mono (by decide) (fun _ q => q))
        have hlof : lof t (SB t (st t (po t))) (st t (pa t)) (-1) = bF (SB t (st t (po t))) (st t (pa t)) := by unfold lof; rw [if_pos rfl]
        have pr := poN_rng t (m := M 97 τ) s2.1
        unfold f_Md_pour_J28
        simp only [C1]
        rw [chk_t trivial, thr_eq, if_pos (by decide), chk_t trivial, s_now A1 I1, bndT_ok (by decide), chk_t A1.md.1, s_opn A1 I1, bndT_ok (by decide), chk_t A1.md.1, f2, bndT_ok (by decide), wtv, chk_t C2.1, s_now A2 I2, bndT_ok (by decide), hlof]
        generalize hB : (if 0 < bF (SB t (st t (po t))) (st t (pa t)) then bF (SB t (st t (po t))) (st t (pa t)) else 0) = B
        have hpo : poN t (M 97 τ) = if B < M 97 τ then B else M 97 τ := by unfold poN; rw [hB]
        generalize hz' : st t (pa t) = z at *
        generalize ho' : st t (po t) = o at *
        have BI := SB_B W ho.1 ho.2
        have hfle := BI.fle z
        have hn := nN_eq W
        have hBr : 0 ≤ B ∧ B ≤ 20000 ∧ (0 < B → B = bF (SB t o) z) := by
          rw [← hB]
          by_cases q : 0 < bF (SB t o) z
          · rw [if_pos q]; exact ⟨by omega, by omega, fun _ => rfl⟩
          · rw [if_neg q]; exact ⟨by omega, by omega, fun q => by omega⟩
        have hN : ((poN t (M 97 τ)).toNat : Int) = poN t (M 97 τ) := by omega
        refine loop_r (F := fun n (b : mH × Int × Int) => f_Md_pour_L63 75 τ B n b.1 b.2.1 b.2.2) (P := fun w => ∃ h' M' y, w = some ((0, y), h') ∧ At h' c p L M' ∧ Fs (98 :: rL) 75 rS M M' ∧ M' 75 5 = 0 ∧ ((0 ≤ τ ∧ τ < 4) ∧ M 96 τ ≠ -1 ∧ nS t ≤ 20000 → y = poN t (M 97 τ)) ∧ ∀ j : Int, M' 98 j = if ((0 ≤ τ ∧ τ < 4) ∧ M 96 τ ≠ -1 ∧ nS t ≤ 20000) ∧ 40 * τ ≤ j ∧ j < 40 * τ + poN t (M 97 τ) then wln t (SB t o) z (j - 40 * τ).toNat else M 98 j) (fun i b => b.2 = (wlk t (SB t o) z i, (i : Int)) ∧ ∃ M', At b.1 c p L M' ∧ Fr [82, 98] M2 M' ∧ ∀ j : Int, M' 98 j = if 40 * τ ≤ j ∧ j < 40 * τ + i then wln t (SB t o) z (j - 40 * τ).toNat else M 98 j) (poN t (M 97 τ)).toNat (fun i hi b hb n => ?_) (fun b hb n => ?_) (i := 0) (b := (h2, z, 0)) ⟨rfl, M2, A2, Fr.rf _ _, fun j => by rw [if_neg (by omega), k98]⟩ (by omega) (by omega)
        · obtain ⟨h3, r⟩ := b
          obtain ⟨hr_, M3, A3_, F3, v3⟩ := hb
          have hr : r = (wlk t (SB t o) z i, (i : Int)) := hr_
          have A3 : At h3 c p L M3 := A3_
          clear hr_ A3_
          subst hr
          right
          have I3 := I2.f98 F3
          have C3 := A3.md
          have hle : poN t (M 97 τ) ≤ B := by rw [hpo]; split <;> omega
          have hib : (i : Int) < bF (SB t o) z := by have := hBr.2.2 (by omega); omega
          have ws := wlk_spec W ho.1 ho.2 hz.1 hz.2 (i := i) (by omega)
          have ls := lnx_spec W ho.1 ho.2 ws.1.1 ws.1.2 (by omega)
          obtain ⟨h4, M4, f4, A4, F4⟩ := s_firstStep A3 I3 g3 ho.1 ho.2 (P2.f98 F3) ws.1.1 ws.1.2 (by omega)
          have F4' : Fr [82, 98] M2 M4 := F3.tr (F4.mono (by decide))
          have x96 : M4 96 = M 96 := by rw [F4' 96 (by decide), k96]
          have x97 : M3 97 = M 97 := by rw [F3 97 (by decide), k97]
          have hnb := W.1
          have cu := s_cut A4 (τ := τ) (i := (i : Int)) (v := lnx t (SB t o) (wlk t (SB t o) z i)) g1.1 g1.2 (by omega) (by omega) (by rw [x96]; exact s1) (by omega) (by omega)
          rw [cutV_small ls.1.1 (by omega)] at cu
          obtain ⟨f5', A5⟩ := cu
          have F5 : Fr [82, 98] M2 (mup M4 98 (40 * τ + i) (lnx t (SB t o) (wlk t (SB t o) z i))) := F4'.pu (by decide)
          have I5 := I2.f98 F5
          have v5 : ∀ j : Int, mup M4 98 (40 * τ + i) (lnx t (SB t o) (wlk t (SB t o) z i)) 98 j = if 40 * τ ≤ j ∧ j < 40 * τ + ((i + 1 : Nat) : Int) then wln t (SB t o) z (j - 40 * τ).toNat else M 98 j := fun j => by
            by_cases q : j = 40 * τ + i
            · rw [q, mup_eq, if_pos (by omega), show (40 * τ + (i : Int) - 40 * τ).toNat = i by omega]; rfl
            · rw [mup_ne (Or.inr q), F4 98 (by decide), v3 j]
              by_cases q2 : 40 * τ ≤ j ∧ j < 40 * τ + i
              · rw [if_pos q2, if_pos (by omega)]
              · rw [if_neg q2, if_neg (by omega)]
          generalize hput h4 98 (40 * τ + i) (lnx t (SB t o) (wlk t (SB t o) z i)) = h5 at f5' A5
          generalize mup M4 98 (40 * τ + i) (lnx t (SB t o) (wlk t (SB t o) z i)) = M5 at A5 F5 I5 v5
          obtain ⟨h6, M6, f6, A6, F6⟩ := s_thn A5 I5 ws.1.1 ws.1.2 ls.1.1 ls.1.2
          refine ⟨(h6, wlk t (SB t o) z (i + 1), ((i + 1 : Nat) : Int)), ⟨rfl, M6, A6, F5.tr (F6.mono (by decide)), fun j => by rw [F6 98 (by decide)]; exact v5 j⟩, ?_⟩
          have hnx : nF t (wlk t (SB t o) z i) (lnx t (SB t o) (wlk t (SB t o) z i)) = wlk t (SB t o) z (i + 1) := by
            rcases nF_gs W (v := lnx t (SB t o) (wlk t (SB t o) z i)) ws.1.1 ws.1.2 with ⟨_, q⟩ | ⟨_, q, _, _⟩
            · rw [ls.2.1] at q; exact absurd q (by decide)
            · exact q
          show f_Md_pour_L63 75 τ B (n + 1) h3 (wlk t (SB t o) z i) i = _
          rw [f_Md_pour_L63, if_neg (by omega)]
          simp only [C3]
          rw [chk_t trivial, chk_t trivial, chk_t (by omega), x97, if_neg (by omega), chk_t trivial, f4, bndT_ok (by decide), chk_t A4.md.1, f5', bndT_ok (by decide), chk_t A5.md.1, s_wn A5 I5, bndT_ok (by decide), chk_t A5.md.1, f6, bndT_ok (by decide), hnx, wtv, w32_n i (by omega)]
        · obtain ⟨h3, r⟩ := b
          obtain ⟨hr_, M3, A3_, F3, v3⟩ := hb
          have hr : r = (wlk t (SB t o) z (poN t (M 97 τ)).toNat, ((poN t (M 97 τ)).toNat : Int)) := hr_
          have A3 : At h3 c p L M3 := A3_
          clear hr_ A3_
          subst hr
          have C3 := A3.md
          have x97 : M3 97 = M 97 := by rw [F3 97 (by decide), k97]
          refine ⟨h3, M3, poN t (M 97 τ), ?_, A3, F2'.tr ((F3.fs (d := 75) (is := []) (by decide)).mono (by decide) (fun _ q => by cases q)), by rw [F3 75 (by decide)]; exact k5, fun _ => rfl, fun j => ?_⟩
          · show f_Md_pour_L63 75 τ B (n + 1) h3 _ _ = _
            rw [f_Md_pour_L63, hN]
            by_cases q : B ≤ poN t (M 97 τ)
            · rw [if_pos q]
            · rw [if_neg q]
              simp only [C3]
              have hq : M 97 τ ≤ poN t (M 97 τ) := by
                rw [hpo] at q ⊢
                by_cases q2 : B < M 97 τ
                · rw [if_pos q2] at q; omega
                · rw [if_neg q2]; omega
              rw [chk_t trivial, chk_t trivial, chk_t (by omega), x97, if_pos hq]
          · rw [v3 j, hN]
            by_cases q : 40 * τ ≤ j ∧ j < 40 * τ + poN t (M 97 τ)
            · rw [if_pos q, if_pos ⟨⟨g1, g2, g3⟩, q⟩]
            · rw [if_neg q, if_neg (fun k => q k.2)]
      · rw [if_neg g3, if_neg (by decide), if_neg g3, chk_t A1.md.1, wth]
        exact no _ _ 2 (by decide) (A1.thr 2) ((f5 0).ps (by decide)) (thr_eq _ 2) (fun q => g3 q.2.2)
  · rw [if_neg g1, if_neg g1, chk_t (A.thr 1).md.1, hp_thr A 1, if_neg (by decide)]
    exact no _ _ 1 (by decide) (A.thr 1) (f5 1) (thr_eq M 1) (fun q => g1 q.1)
end
