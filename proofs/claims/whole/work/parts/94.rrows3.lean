/-! ROWS, THE REFERENCE -/
section
variable {h : mH} {c : Int} {p L : Int → Int} {M : aM} {t : tT}
theorem s_sum1 (A : At h c p L M) (I : RI M t) (hS2 : nS t ≤ 20000) {K : mH → Int → Option mR} {V : Int → Int} (HV : WVQ M 86 t V) : f_Md_rows_L79 K 75 1000000 h 0 0 = K h (sq V (nN t)) := by
  have W := I.2.1
  have hn := nN_eq W
  have B := I.mh A
  have C := A.md
  refine loop_r (F := fun n (b : Int × Int) => f_Md_rows_L79 K 75 n h b.1 b.2) (P := fun r => r = K h (sq V (nN t))) (fun i b => b = (sq V i, (i : Int))) (nN t) (fun i hi b hb n => ?_) (fun b hb n => ?_) (i := 0) (b := (0, 0)) rfl (by omega) (by omega)
  · subst hb
    right
    refine ⟨(sq V (i + 1), ((i + 1 : Nat) : Int)), rfl, ?_⟩
    show f_Md_rows_L79 K 75 (n + 1) h (sq V i) i = _
    rw [f_Md_rows_L79, chk_t B.T, s_Md_stands B W, bndT_ok (by decide), if_neg (by omega)]
    simp only [C]
    rw [chk_t trivial, chk_t trivial, chk_t (by omega), wtv, wtv, w32_n i (by omega), HV i (by omega) (by omega)]
    rfl
  · subst hb
    show f_Md_rows_L79 K 75 (n + 1) h (sq V (nN t)) ((nN t : Nat) : Int) = _
    rw [f_Md_rows_L79, chk_t B.T, s_Md_stands B W, bndT_ok (by decide), if_pos (show nS t ≤ ((nN t : Nat) : Int) by omega)]
theorem s_sum2 (A : At h c p L M) (I : RI M t) (hS2 : nS t ≤ 20000) {K : mH → Int → Option mR} {V : Int → Int} (HV : WVQ M 86 t V) : f_Md_rows_L153 K 75 1000000 h 0 0 = K h (sq V (nN t)) := by
  have W := I.2.1
  have hn := nN_eq W
  have B := I.mh A
  have C := A.md
  refine loop_r (F := fun n (b : Int × Int) => f_Md_rows_L153 K 75 n h b.1 b.2) (P := fun r => r = K h (sq V (nN t))) (fun i b => b = (sq V i, (i : Int))) (nN t) (fun i hi b hb n => ?_) (fun b hb n => ?_) (i := 0) (b := (0, 0)) rfl (by omega) (by omega)
  · subst hb
    right
    refine ⟨(sq V (i + 1), ((i + 1 : Nat) : Int)), rfl, ?_⟩
    show f_Md_rows_L153 K 75 (n + 1) h (sq V i) i = _
    rw [f_Md_rows_L153, chk_t B.T, s_Md_stands B W, bndT_ok (by decide), if_neg (by omega)]
    simp only [C]
    rw [chk_t trivial, chk_t trivial, chk_t (by omega), wtv, wtv, w32_n i (by omega), HV i (by omega) (by omega)]
    rfl
  · subst hb
    show f_Md_rows_L153 K 75 (n + 1) h (sq V (nN t)) ((nN t : Nat) : Int) = _
    rw [f_Md_rows_L153, chk_t B.T, s_Md_stands B W, bndT_ok (by decide), if_pos (show nS t ≤ ((nN t : Nat) : Int) by omega)]
theorem s_rowsA (A : At h c p L M) (I : RI M t) (hS2 : nS t ≤ 20000) (Q : LQ M t) {K : mH → Option mR} {m z : Int} (hm0 : 0 ≤ m) (hm1 : m ≤ 20) (HV : WVQ M 86 t (dl z)) : ∃ h' M', f_Md_rows_L57 K 75 m 1000000 h 0 = K h' ∧ At h' c p L M' ∧ Fr [86, 87] M M' ∧ WVQ M' 86 t (it t (-1) z m.toNat) := by
  refine loop_r (F := fun n (b : mH × Int) => f_Md_rows_L57 K 75 m n b.1 b.2) (P := fun r => ∃ h' M', r = K h' ∧ At h' c p L M' ∧ Fr [86, 87] M M' ∧ WVQ M' 86 t (it t (-1) z m.toNat)) (fun i b => b.2 = (i : Int) ∧ ∃ M', At b.1 c p L M' ∧ Fr [86, 87] M M' ∧ WVQ M' 86 t (it t (-1) z i)) m.toNat (fun i hi b hb n => ?_) (fun b hb n => ?_) (i := 0) (b := (h, 0)) ⟨rfl, M, A, Fr.rf _ _, HV⟩ (by omega) (by omega)
  · obtain ⟨h2, r⟩ := b
    obtain ⟨hr_, M2, A2_, F2, v2⟩ := hb
    have hr : r = (i : Int) := hr_
    have A2 : At h2 c p L M2 := A2_
    clear hr_ A2_
    subst hr
    right
    have I2 := I.fm (F2.fm (by decide) (by decide))
    obtain ⟨h3, M3, f3, A3, F3, V3⟩ := s_waysGo A2 I2 hS2 (Q.fr F2) (w := -1) v2
    rw [flT_all] at V3
    refine ⟨(h3, ((i + 1 : Nat) : Int)), ⟨rfl, M3, A3, F2.tr F3, V3⟩, ?_⟩
    show f_Md_rows_L57 K 75 m (n + 1) h2 i = _
    rw [f_Md_rows_L57, if_neg (by omega), chk_t (I2.mh A2).T, f3, bndT_ok (by decide), wtv, w32_n i (by omega)]
  · obtain ⟨h2, r⟩ := b
    obtain ⟨hr_, M2, A2_, F2, v2⟩ := hb
    have hr : r = (m.toNat : Int) := hr_
    have A2 : At h2 c p L M2 := A2_
    clear hr_ A2_
    subst hr
    refine ⟨h2, M2, ?_, A2, F2, v2⟩
    show f_Md_rows_L57 K 75 m (n + 1) h2 (m.toNat : Int) = _
    rw [f_Md_rows_L57, if_pos (by omega)]
theorem s_rowsB (A : At h c p L M) (I : RI M t) (hS2 : nS t ≤ 20000) (Q : LQ M t) {K : mH → Option mR} {m z : Int} (hm0 : 0 ≤ m) (hm1 : m ≤ 20) (HV : WVQ M 86 t (it2 t z (st t (po t)) 0)) : ∃ h' M', f_Md_rows_L121 K 75 m 1000000 h 0 = K h' ∧ At h' c p L M' ∧ Fr [86, 87] M M' ∧ WVQ M' 86 t (it2 t z (st t (po t)) m.toNat) := by
  have W := I.2.1
  have ho := I.opnr
  refine loop_r (F := fun n (b : mH × Int) => f_Md_rows_L121 K 75 m n b.1 b.2) (P := fun r => ∃ h' M', r = K h' ∧ At h' c p L M' ∧ Fr [86, 87] M M' ∧ WVQ M' 86 t (it2 t z (st t (po t)) m.toNat)) (fun i b => b.2 = (i : Int) ∧ ∃ M', At b.1 c p L M' ∧ Fr [86, 87] M M' ∧ WVQ M' 86 t (it2 t z (st t (po t)) i)) m.toNat (fun i hi b hb n => ?_) (fun b hb n => ?_) (i := 0) (b := (h, 0)) ⟨rfl, M, A, Fr.rf _ _, HV⟩ (by omega) (by omega)
  · obtain ⟨h2, r⟩ := b
    obtain ⟨hr_, M2, A2_, F2, v2⟩ := hb
    have hr : r = (i : Int) := hr_
    have A2 : At h2 c p L M2 := A2_
    clear hr_ A2_
    subst hr
    right
    have I2 := I.fm (F2.fm (by decide) (by decide))
    obtain ⟨h3, M3, f3, A3, F3, V3⟩ := s_waysGo A2 I2 hS2 (Q.fr F2) (w := -1) v2
    have I3 := I2.fm (F3.fm (by decide) (by decide))
    have B3 := I3.mh A3
    have C3 := A3.md
    have A4 := A3.aput (v := 86) (st t (po t)) 0 (by decide) (by decide) (by decide) (by decide +kernel) (by decide) (by decide)
    have V4 := V3.ct (sh := st t (po t))
    refine ⟨(hput h3 86 (st t (po t)) 0, ((i + 1 : Nat) : Int)), ⟨rfl, _, A4, (F2.tr F3).pu (by decide), fun s g0 g1 => by rw [V4 s g0 g1, it2_s W]⟩, ?_⟩
    show f_Md_rows_L121 K 75 m (n + 1) h2 i = _
    rw [f_Md_rows_L121, if_neg (by omega), chk_t (I2.mh A2).T, f3, bndT_ok (by decide), chk_t B3.T, chk_t B3.T, s_opn A3 I3, bndT_ok (by decide)]
    simp only [C3]
    rw [chk_t trivial, chk_t (by omega), wth, wtv, w32_n i (by omega)]
  · obtain ⟨h2, r⟩ := b
    obtain ⟨hr_, M2, A2_, F2, v2⟩ := hb
    have hr : r = (m.toNat : Int) := hr_
    have A2 : At h2 c p L M2 := A2_
    clear hr_ A2_
    subst hr
    refine ⟨h2, M2, ?_, A2, F2, v2⟩
    show f_Md_rows_L121 K 75 m (n + 1) h2 (m.toNat : Int) = _
    rw [f_Md_rows_L121, if_pos (by omega)]
theorem r_rows (A : At h c p L M) (I : RI M t) (m o : Int) : RV c p L M 1 (f_Md_rows h 75 m o) (if o = 0 then rwV t (st t (pa t)) m (-1) else w64 (rwV t (st t (pa t)) m (-1) - rwV t (st t (pa t)) m (st t (po t)))) (if 0 ≤ m ∧ m ≤ 20 then (if nS t ≤ 20000 then 0 else 2) else 1) := by
  have W := I.2.1
  have B := I.mh A
  have hz := I.nowr
  have ho := I.opnr
  have j : ∀ x : Int, 0 ≤ x → (x = 0 → nS t ≤ 20000 ∧ 0 ≤ m ∧ m ≤ 20) → RV c p L M 1 (f_Md_rows_J29 75 m o 75 x h) (if o = 0 then rwV t (st t (pa t)) m (-1) else w64 (rwV t (st t (pa t)) m (-1) - rwV t (st t (pa t)) m (st t (po t)))) x := by
    intro x h0 hx
    unfold f_Md_rows_J29
    refine RV_head A I h0 (fun _ => rfl) (fun g h1 M1 A1 I1 e1 F1 => ?_)
    obtain ⟨hS2, hm0, hm1⟩ := hx g
    obtain ⟨h2, M2, f2, A2, F2, Q2⟩ := s_laysLeads A1 I1 hS2
    have I2 := I1.fm (F2.fm (by decide) (by decide))
    obtain ⟨h3, M3, f3, A3, F3, V3⟩ := s_waysBegin A2 I2 hS2
    have F3' : Fr [86, 87] M2 M3 := F3.mono (by decide)
    have I3 := I2.fm (F3.fm (by decide) (by decide))
    have e2 : M2 75 5 = 0 := by rw [F2 75 (by decide)]; exact e1
    rw [chk_t (I1.mh A1).T, f2, bndT_ok (by decide), chk_t (I2.mh A2).T, f3, bndT_ok (by decide)]
    refine RV_mv (F2.fm (by decide) (by decide)) ?_
    obtain ⟨h4, M4, f4, A4, F4, V4⟩ := s_rowsA A3 I3 hS2 (Q2.fr F3') (K := fun h6  => f_Md_rows_L79 (fun h7 x8 => chk (hpT h7 75 = 12) (bndT 3 (f_Md_waysBegin h7 75) (fun x10 h9 => chk (hpT h9 75 = 12) (chk (hpT h9 75 = 12) (bndT 0 (f_Md_openStand h9 75) (fun x12 h11 => chk (hpT h11 (hpV h9 75 25) = 22) (chk (0 ≤ x12 ∧ x12 < hpL h11 (hpV h9 75 25)) (wth (hput h11 (hpV h9 75 25) x12 0) (fun h13 => f_Md_rows_L121 (fun h14  => f_Md_rows_L153 (fun h15 x16 => (if o = 0 then some ((1, x8), h15) else some ((1, w64 (x8 - x16)), h15))) 75 1000000 h14 0 0) 75 m 1000000 h13 0))))))))) 75 1000000 h6 0 0) hm0 hm1 V3
    have I4 := I3.fm (F4.fm (by decide) (by decide))
    have F4' := F3'.tr F4
    rw [f4, s_sum1 A4 I4 hS2 V4]
    obtain ⟨h5, M5, f5, A5, F5, V5⟩ := s_waysBegin A4 I4 hS2
    have F5' : Fr [86, 87] M2 M5 := F4'.tr (F5.mono (by decide))
    have I5 := I4.fm (F5.fm (by decide) (by decide))
    have B5 := I5.mh A5
    have C5 := A5.md
    rw [chk_t (I4.mh A4).T, f5, bndT_ok (by decide), chk_t B5.T, chk_t B5.T, s_opn A5 I5, bndT_ok (by decide)]
    simp only [C5]
    have A6 := A5.aput (v := 86) (st t (po t)) 0 (by decide) (by decide) (by decide) (by decide +kernel) (by decide) (by decide)
    have V6 : WVQ (mup M5 86 (st t (po t)) 0) 86 t (it2 t (st t (pa t)) (st t (po t)) 0) := fun s g0 g1 => by rw [V5.ct s g0 g1, it2_0]
    have F6' : Fr [86, 87] M2 (mup M5 86 (st t (po t)) 0) := F5'.pu (by decide)
    rw [chk_t trivial, chk_t (by omega), wth]
    have I6 := I2.fm (F6'.fm (by decide) (by decide))
    obtain ⟨h7, M7, f7, A7, F7, V7⟩ := s_rowsB A6 I6 hS2 (Q2.fr F6') (K := fun h14  => f_Md_rows_L153 (fun h15 x16 => (if o = 0 then some ((1, sq (it t (-1) (st t (pa t)) m.toNat) (nN t)), h15) else some ((1, w64 (sq (it t (-1) (st t (pa t)) m.toNat) (nN t) - x16)), h15))) 75 1000000 h14 0 0) hm0 hm1 V6
    have F7' := F6'.tr F7
    have I7 := I2.fm (F7'.fm (by decide) (by decide))
    rw [f7, s_sum2 A7 I7 hS2 V7, it2_r]
    have e7 : M7 75 5 = 0 := by rw [F7' 75 (by decide)]; exact e2
    have er : rwV t (st t (pa t)) m (-1) = sq (it t (-1) (st t (pa t)) m.toNat) (nN t) := by unfold rwV; rw [if_neg (by omega)]
    rw [er]
    refine RV_mv (F7'.fm (by decide) (by decide)) ?_
    by_cases q : o = 0
    · rw [if_pos q, if_pos q]; exact RV_ok A7 e7
    · rw [if_neg q, if_neg q]; exact RV_ok A7 e7
  unfold f_Md_rows
  rw [s_Md_amid, bndT_ok (by decide)]
  by_cases g1 : 0 ≤ m ∧ m ≤ 20
  · rw [b2d g1, if_neg (by decide), if_pos g1, chk_t B.T, s_Md_spent A I, bndT_ok (by decide)]
    by_cases g2 : nS t ≤ 20000
    · rw [if_pos g2, if_pos rfl, if_pos g2]; exact j 0 (by decide) (fun _ => ⟨g2, g1⟩)
    · rw [if_neg g2, if_neg (by decide), if_neg g2]; exact j 2 (by decide) (fun q => absurd q (by decide))
  · rw [b2n g1, if_pos rfl, if_neg g1]; exact j 1 (by decide) (fun q => absurd q (by decide))
end
