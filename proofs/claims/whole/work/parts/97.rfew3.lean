/-! THE REFERENCE'S fewestOf: ITS LEVELS -/
section
variable {h : mH} {c : Int} {p L : Int → Int} {M : aM} {t : tT}
theorem s_few95 (A : At h c p L M) (I : RI M t) (hS2 : nS t ≤ 20000) {K : mH → Option mR} {b z r : Int} (D : DI (nF t) b (nK t) (nN t) z (M 88) r) (hl : r ≤ cnN (fun s => decide (0 ≤ M 88 s) && decide (M 88 s < r)) (nN t)) (h24 : M 75 24 = 0) : ∃ h' M', f_Md_fewestOf_L95 K 75 r 1000000 h 0 = K h' ∧ At h' c p L M' ∧ FW M M' ∧ M' 88 = M 88 ∧ NV M' t b z r := by
  have W := I.2.1
  have hn := nN_eq W
  have hS := nS_rng W
  refine loop_r (F := fun n (b' : mH × Int) => f_Md_fewestOf_L95 K 75 r n b'.1 b'.2) (P := fun o => ∃ h' M', o = K h' ∧ At h' c p L M' ∧ FW M M' ∧ M' 88 = M 88 ∧ NV M' t b z r) (fun i b' => b'.2 = (i : Int) ∧ ∃ M', At b'.1 c p L M' ∧ FW M M' ∧ M' 88 = M 88 ∧ M' 75 24 = cnN (fun s => decide (M 88 s = r)) i ∧ (∀ i : Int, 0 ≤ i → i < M' 75 24 → (0 ≤ M' 85 i ∧ M' 85 i < nN t) ∧ M 88 (M' 85 i) = r) ∧ ∀ s : Int, 0 ≤ s → s < (i : Int) → M 88 s = r → ∃ i : Int, 0 ≤ i ∧ i < M' 75 24 ∧ M' 85 i = s) (nN t) (fun i hi b' hb n => ?_) (fun b' hb n => ?_) (i := 0) (b := (h, 0)) ⟨rfl, M, A, Fs.rf _ _ _ _, rfl, h24, fun i i0 i1 => by omega, fun s s0 s1 => by omega⟩ (by omega) (by omega)
  · obtain ⟨h1, r1⟩ := b'
    obtain ⟨hr_, M1, A1_, F1, e88, e24, q1, q2⟩ := hb
    have hr1 : r1 = (i : Int) := hr_
    have A1 : At h1 c p L M1 := A1_
    clear hr_ A1_
    subst hr1
    right
    have I1 := I.fm F1.fw
    have B1 := I1.mh A1
    have C1 := A1.md
    have hcn := cnN_rng (fun s => decide (M 88 s = r)) i
    have hcs : cnN (fun s => decide (M 88 s = r)) (i + 1) = cnN (fun s => decide (M 88 s = r)) i + (if decide (M 88 i = r) = true then 1 else 0) := rfl
    have j140 : ∀ h, f_Md_fewestOf_J140 (f_Md_fewestOf_L95 K 75 r n) i h = f_Md_fewestOf_L95 K 75 r n h ((i + 1 : Nat) : Int) := fun h => by
      unfold f_Md_fewestOf_J140; rw [wtv, w32_n i (by omega)]
    show ∃ b' : mH × Int, _ ∧ f_Md_fewestOf_L95 K 75 r (n + 1) h1 i = _
    rw [f_Md_fewestOf_L95, chk_t B1.T, s_Md_stands B1 W, bndT_ok (by decide), if_neg (by omega)]
    simp only [C1]
    rw [chk_t trivial, chk_t trivial, chk_t (by omega), e88]
    by_cases g : M 88 i = r
    · rw [decide_eq_true g, if_pos rfl] at hcs
      have A2 := A1.aput (v := 85) (M1 75 24) i (by decide) (by decide) (by decide) (by decide +kernel) (by decide) (by decide)
      have C2 := A2.md
      have A3 := A2.fput (v := 75) (i := 24) (M1 75 24 + 1) (by decide) (by decide) (by decide) (by decide +kernel) (by decide)
      have x24 : mup M1 85 (M1 75 24) i 75 24 = M1 75 24 := mup_ne (Or.inl (by decide))
      rw [if_pos g, chk_t trivial, chk_t trivial, chk_t trivial, chk_t (by omega), wth]
      simp only [C2]
      rw [chk_t trivial, chk_t trivial, wth, x24, w32_id (by omega) (by omega), j140]
      have y24 : mup (mup M1 85 (M1 75 24) i) 75 24 (M1 75 24 + 1) 75 24 = M1 75 24 + 1 := mup_eq _ _ _ _
      have y85 : mup (mup M1 85 (M1 75 24) i) 75 24 (M1 75 24 + 1) 85 = u1 (M1 85) (M1 75 24) i := by rw [mup_fn (by decide), mup_self]
      refine ⟨(hput (hput h1 85 (M1 75 24) i) 75 24 (M1 75 24 + 1), ((i + 1 : Nat) : Int)), ⟨rfl, _, A3, (F1.pu (by decide) (by decide)).ps (by decide), by rw [mup_fn (by decide), mup_fn (by decide)]; exact e88, by rw [y24, hcs, e24], fun k k0 k1 => ?_, fun s s0 s1 hs => ?_⟩, rfl⟩
      · rw [y24] at k1
        rw [y85]
        by_cases ek : k = M1 75 24
        · rw [ek, u1_eq]; exact ⟨by omega, g⟩
        · rw [u1_ne ek]; exact q1 k k0 (by omega)
      · rw [y24, y85]
        by_cases es : s = i
        · exact ⟨M1 75 24, by omega, by omega, by rw [u1_eq, es]⟩
        · obtain ⟨k, k0, k1, k2⟩ := q2 s s0 (by omega) hs
          exact ⟨k, k0, by omega, by rw [u1_ne (by omega)]; exact k2⟩
    · rw [decide_eq_false g, if_neg (by decide), Int.add_zero] at hcs
      rw [if_neg g, j140]
      refine ⟨(h1, ((i + 1 : Nat) : Int)), ⟨rfl, M1, A1, F1, e88, by rw [hcs, e24], q1, fun s s0 s1 hs => ?_⟩, rfl⟩
      by_cases es : s = i
      · rw [es] at hs; exact absurd hs g
      · exact q2 s s0 (by omega) hs
  · obtain ⟨h1, r1⟩ := b'
    obtain ⟨hr_, M1, A1_, F1, e88, e24, q1, q2⟩ := hb
    have hr1 : r1 = ((nN t : Nat) : Int) := hr_
    have A1 : At h1 c p L M1 := A1_
    clear hr_ A1_
    subst hr1
    have I1 := I.fm F1.fw
    have B1 := I1.mh A1
    refine ⟨h1, M1, ?_, A1, F1, e88, by rw [e88]; exact D, fun i i0 i1 => by rw [e88]; exact q1 i i0 i1, fun s s0 s1 hs => q2 s s0 s1 (by rw [e88] at hs; exact hs), by rw [e88]; exact e24, by rw [e88]; exact hl⟩
    show f_Md_fewestOf_L95 K 75 r (n + 1) h1 _ = _
    rw [f_Md_fewestOf_L95, chk_t B1.T, s_Md_stands B1 W, bndT_ok (by decide), if_pos (show nS t ≤ ((nN t : Nat) : Int) by omega)]
theorem s_few149 (A : At h c p L M) (I : RI M t) (hS2 : nS t ≤ 20000) {K : mH → Int → Option mR} {P : Option mR → Prop} {b z r : Int} (V : NV M t b z r) (hr : r ≤ 20000) (T : ∀ s : Int, 0 ≤ s → s < nS t → M 88 s ≤ r) (hK : ∀ h' M' e, At h' c p L M' → FW M M' → DI (nF t) b (nK t) (nN t) z (M' 88) (r + 1) → (e = 0 ∨ e = 1) → (e = 0 → ∀ s : Int, 0 ≤ s → s < nS t → M' 88 s ≤ r) → (e ≠ 0 → r + 1 ≤ cnN (fun s => decide (0 ≤ M' 88 s) && decide (M' 88 s < r + 1)) (nN t)) → (∀ s : Int, 0 ≤ s → s < nS t → M' 88 s ≤ r + 1) → P (K h' e)) : P (f_Md_fewestOf_L149 K 75 b (wnk t) r 1000000 h 0 0) := by
  have W := I.2.1
  have hn := nN_eq W
  have hS := nS_rng W
  have fin : ∀ (h1 : mH) (M1 : aM) (e j : Int) (n : Nat), At h1 c p L M1 → FW M M1 → NV M1 t b z r → (e = 0 ∨ e = 1) → (e = 0 → ∀ s : Int, 0 ≤ s → s < nS t → M1 88 s ≤ r) → (∀ i v : Int, 0 ≤ i → i < j → 0 ≤ v → v < nK t → cl (nF t) b (M1 88) (M1 85 i) v) → (e ≠ 0 → 0 < j) → j ≤ M1 75 24 → M1 75 24 ≤ j → P (f_Md_fewestOf_L149 K 75 b (wnk t) r (n + 1) h1 e j) := fun h1 M1 e j n A1 F1 V1 e1 t1 c1 z1 l1_ g => by
    have C1 := A1.md
    rw [f_Md_fewestOf_L149]
    simp only [C1]
    rw [chk_t trivial, if_pos g]
    have q := DV_next V1 (fun i v i0 i1 => c1 i v i0 (by omega))
    exact hK h1 M1 e A1 F1 q.1 e1 t1 (fun q2 => q.2 (by have := z1 q2; omega)) (fun s s0 s1 => by
      by_cases e7 : M1 88 s = -1
      · have := V1.1.2.1; omega
      · exact (V1.1.2.2.1 s s0 (by omega) e7).1.2)
  refine loop_r (F := fun n (b' : mH × Int × Int) => f_Md_fewestOf_L149 K 75 b (wnk t) r n b'.1 b'.2.1 b'.2.2) (P := P) (fun j b' => b'.2.2 = (j : Int) ∧ ∃ M', At b'.1 c p L M' ∧ FW M M' ∧ NV M' t b z r ∧ (b'.2.1 = 0 ∨ b'.2.1 = 1) ∧ (b'.2.1 = 0 → ∀ s : Int, 0 ≤ s → s < nS t → M' 88 s ≤ r) ∧ (∀ i v : Int, 0 ≤ i → i < (j : Int) → 0 ≤ v → v < nK t → cl (nF t) b (M' 88) (M' 85 i) v) ∧ (b'.2.1 ≠ 0 → 0 < (j : Int)) ∧ (j : Int) ≤ M' 75 24) (nN t) (fun j hj b' hb n => ?_) (fun b' hb n => ?_) (i := 0) (b := (h, 0, 0)) ⟨rfl, M, A, Fs.rf _ _ _ _, V, Or.inl rfl, fun _ => T, fun i v i0 i1 => by omega, fun q => absurd rfl q, by have := V.2.2.2.1; have := cnN_rng (fun s => decide (M 88 s = r)) (nN t); show ((0 : Nat) : Int) ≤ _; omega⟩ (by omega) (by omega)
  · obtain ⟨h1, e, r1⟩ := b'
    obtain ⟨hr_, M1, A1_, F1, V1, e1_, t1_, c1, z1_, l1_⟩ := hb
    have hr1 : r1 = (j : Int) := hr_
    have A1 : At h1 c p L M1 := A1_
    have e1 : e = 0 ∨ e = 1 := e1_
    have t1 : e = 0 → ∀ s : Int, 0 ≤ s → s < nS t → M1 88 s ≤ r := t1_
    have z1 : e ≠ 0 → 0 < (j : Int) := z1_
    clear hr_ A1_ e1_ t1_ z1_
    subst hr1
    by_cases g : M1 75 24 ≤ j
    · left; exact fin h1 M1 e j n A1 F1 V1 e1 t1 c1 z1 l1_ g
    · right
      have I1 := I.fm F1.fw
      have B1 := I1.mh A1
      have C1 := A1.md
      obtain ⟨h2, M2, x, f2, A2, S2, n2⟩ := s_spreads A1 I1 hS2 V1 hr t1 (j := (j : Int)) (by omega) (by omega)
      obtain ⟨F2, V2, l2, o2, x2, t2, c2⟩ := S2
      have hq : (qor e x = 0 ∨ qor e x = 1) ∧ (qor e x = 0 → e = 0 ∧ x = 0) := by
        rcases e1 with e1 | e1 <;> rcases x2 with x2 | x2 <;> rw [e1, x2] <;> decide
      refine ⟨(h2, qor e x, ((j + 1 : Nat) : Int)), ⟨rfl, M2, A2, F1.tr F2, V2, hq.1, fun q => t2 (hq.2 q).1 (hq.2 q).2, fun i v i0 i1 v0 v1 => ?_, fun _ => by omega, by omega⟩, ?_⟩
      · rw [o2 i i0 (by omega)]
        by_cases ei : i = j
        · rw [ei]; exact n2 v v0 v1
        · exact c2 i v i0 (by omega) (c1 i v i0 (by omega) v0 v1)
      · show f_Md_fewestOf_L149 K 75 b (wnk t) r (n + 1) h1 e j = _
        rw [f_Md_fewestOf_L149]
        simp only [C1]
        rw [chk_t trivial, if_neg g, chk_t trivial, chk_t trivial, chk_t (by omega), chk_t trivial, f2, bndT_ok (by decide), wtv, wtv, w32_n j (by omega)]
  · obtain ⟨h1, e, r1⟩ := b'
    obtain ⟨hr_, M1, A1_, F1, V1, e1_, t1_, c1, z1_, l1_⟩ := hb
    have hr1 : r1 = ((nN t : Nat) : Int) := hr_
    subst hr1
    exact fin h1 M1 e _ n A1_ F1 V1 e1_ t1_ c1 z1_ l1_ (by have := V1.2.2.2.1; have := cnN_rng (fun s => decide (M1 88 s = r)) (nN t); omega)
theorem s_few45 (A : At h c p L M) (I : RI M t) (hS2 : nS t ≤ 20000) {K : mH → Option mR} : ∃ h' M', f_Md_fewestOf_L45 K 75 1000000 h 0 = K h' ∧ At h' c p L M' ∧ Fr [88] M M' ∧ WVQ M' 88 t (fun _ => -1) := by
  have W := I.2.1
  have hn := nN_eq W
  have hS := nS_rng W
  refine loop_r (F := fun n (b : mH × Int) => f_Md_fewestOf_L45 K 75 n b.1 b.2) (P := fun r => ∃ h' M', r = K h' ∧ At h' c p L M' ∧ Fr [88] M M' ∧ WVQ M' 88 t (fun _ => -1)) (fun i b => b.2 = (i : Int) ∧ ∃ M', At b.1 c p L M' ∧ Fr [88] M M' ∧ ∀ s, 0 ≤ s → s < (i : Int) → M' 88 s = -1) (nN t) (fun i hi b hb n => ?_) (fun b hb n => ?_) (i := 0) (b := (h, 0)) ⟨rfl, M, A, Fr.rf _ _, fun s g0 g1 => by omega⟩ (by omega) (by omega)
  · obtain ⟨h2, r⟩ := b
    obtain ⟨hr_, M2, A2_, F2, v2⟩ := hb
    have hr : r = (i : Int) := hr_
    have A2 : At h2 c p L M2 := A2_
    clear hr_ A2_
    subst hr
    right
    have I2 := I.fm (F2.fm (by decide) (by decide))
    have B2 := I2.mh A2
    have C2 := A2.md
    have A3 := A2.aput (v := 88) i (-1) (by decide) (by decide) (by decide) (by decide +kernel) (by decide) (by decide)
    refine ⟨(hput h2 88 i (-1), ((i + 1 : Nat) : Int)), ⟨rfl, _, A3, F2.pu (by decide), fun s g0 g1 => ?_⟩, ?_⟩
    · by_cases e : s = i
      · rw [e, mup_eq]
      · rw [mup_ne (Or.inr e)]; exact v2 s g0 (by omega)
    · show f_Md_fewestOf_L45 K 75 (n + 1) h2 i = f_Md_fewestOf_L45 K 75 n (hput h2 88 i (-1)) ((i + 1 : Nat) : Int)
      rw [f_Md_fewestOf_L45, chk_t B2.T, s_Md_stands B2 W, bndT_ok (by decide), if_neg (by omega)]
      simp only [C2]
      rw [chk_t trivial, chk_t trivial, chk_t (by omega), wth, wtv, w32_n i (by omega)]
  · obtain ⟨h2, r⟩ := b
    obtain ⟨hr_, M2, A2_, F2, v2⟩ := hb
    have hr : r = ((nN t : Nat) : Int) := hr_
    have A2 : At h2 c p L M2 := A2_
    clear hr_ A2_
    subst hr
    have I2 := I.fm (F2.fm (by decide) (by decide))
    have B2 := I2.mh A2
    refine ⟨h2, M2, ?_, A2, F2, fun s g0 g1 => v2 s g0 (by omega)⟩
    show f_Md_fewestOf_L45 K 75 (n + 1) h2 _ = _
    rw [f_Md_fewestOf_L45, chk_t B2.T, s_Md_stands B2 W, bndT_ok (by decide), if_pos (show nS t ≤ ((nN t : Nat) : Int) by omega)]
theorem r_fewestOf (A : At h c p L M) (I : RI M t) (b : Int) {d : Int} (hd : 0 ≤ b ∧ b < nb t → nS t ≤ 20000 → DW (nF t) b (nK t) (nN t) (st t (pa t)) (st t (po t)) d) : RV c p L M 0 (f_Md_fewestOf h 75 b) d (if 0 ≤ b ∧ b < nb t then (if nS t ≤ 20000 then 0 else 2) else 1) := by
  have W := I.2.1
  have B := I.mh A
  have hn := nN_eq W
  have hS := nS_rng W
  have hz := I.nowr
  have ho := I.opnr
  have N : NX (nF t) (nK t) (nN t) := NX_F W false X0 (wS t)
  have j : ∀ x : Int, 0 ≤ x → (x = 0 → nS t ≤ 20000 ∧ 0 ≤ b ∧ b < nb t) → RV c p L M 0 (f_Md_fewestOf_J26 75 b 75 x h) d x := by
    intro x h0 hx
    unfold f_Md_fewestOf_J26
    refine RV_head A I h0 (fun _ => rfl) (fun g h1 M1 A1 I1 e1 F1 => ?_)
    obtain ⟨hS2, hb0, hb1⟩ := hx g
    have hd := hd ⟨hb0, hb1⟩ hS2
    rw [chk_t (I1.mh A1).T, s_wn A1 I1, bndT_ok (by decide)]
    generalize hz' : st t (pa t) = z at hd hz
    obtain ⟨h2, M2, f2, A2, F2, V2⟩ := s_few45 A1 I1 hS2 (K := fun h4  => chk (hpT h4 75 = 12) (chk (hpT h4 75 = 12) (bndT 0 (f_Md_standNow h4 75) (fun x6 h5 => chk (hpT h5 (hpV h4 75 27) = 21) (chk (0 ≤ x6 ∧ x6 < hpL h5 (hpV h4 75 27)) (wth (hput h5 (hpV h4 75 27) x6 0) (fun h7 => f_Md_fewestOf_L81 (fun h8  => chk (hpT h8 75 = 12) (chk (hpT h8 75 = 12) (bndT 0 (f_Md_openStand h8 75) (fun x10 h9 => chk (hpT h9 (hpV h8 75 27) = 21) (chk (0 ≤ x10 ∧ x10 < hpL h9 (hpV h8 75 27)) (some ((0, hpV h9 (hpV h8 75 27) x10), h9))))))) 75 b (wnk t) 1000000 h7 1 0)))))))
    have I2 := I1.fm (F2.fm (by decide) (by decide))
    have B2 := I2.mh A2
    have C2 := A2.md
    have A3 := A2.aput (v := 88) z 0 (by decide) (by decide) (by decide) (by decide +kernel) (by decide) (by decide)
    have F3 : FW M1 (mup M2 88 z 0) := ((F2.fs (d := 75) (is := [24]) (by decide)).mono (by decide) (fun _ q => q)).pu (by decide) (by decide)
    have k88 : ∀ s, 0 ≤ s → s < nS t → mup M2 88 z 0 88 s = if s = z then 0 else -1 := fun s s0 s1 => by
      by_cases e : s = z
      · rw [e, mup_eq, if_pos rfl]
      · rw [mup_ne (Or.inr e), if_neg e]; exact V2 s s0 s1
    rw [f2, chk_t B2.T, chk_t B2.T, s_now A2 I2, bndT_ok (by decide), hz']
    simp only [C2]
    rw [chk_t trivial, chk_t (by omega), wth]
    generalize hput h2 88 z 0 = h3 at A3 ⊢
    generalize mup M2 88 z 0 = M3 at A3 F3 k88
    refine RV_mv F3.fw ?_
    have e3 : M3 75 5 = 0 := by rw [F3.2 5 (by decide)]; exact e1
    have I3 := I1.fm F3.fw
    have D3 : DI (nF t) b (nK t) (nN t) z (M3 88) 0 := by
      refine ⟨by rw [k88 z hz.1 hz.2, if_pos rfl], Int.le_refl _, fun s s0 s1 hs => ?_, fun u v u0 u1_ _ _ a b_ => by omega⟩
      rw [k88 s s0 (by omega)] at hs ⊢
      by_cases e : s = z
      · rw [if_pos e]; exact ⟨by omega, 0, by rw [pth]; exact ⟨e, rfl⟩⟩
      · rw [if_neg e] at hs; exact absurd rfl hs
    have T3 : ∀ s : Int, 0 ≤ s → s < nS t → M3 88 s ≤ 0 := fun s s0 s1 => by rw [k88 s s0 s1]; split <;> omega
    have fin : ∀ (h4 : mH) (M4 : aM) (r : Int) (n : Nat), At h4 c p L M4 → FW M3 M4 → DI (nF t) b (nK t) (nN t) z (M4 88) r → (∀ s : Int, 0 ≤ s → s < nS t → M4 88 s < r) → RV c p L M3 0 (f_Md_fewestOf_L81 (fun h8  => chk (hpT h8 75 = 12) (chk (hpT h8 75 = 12) (bndT 0 (f_Md_openStand h8 75) (fun x10 h9 => chk (hpT h9 (hpV h8 75 27) = 21) (chk (0 ≤ x10 ∧ x10 < hpL h9 (hpV h8 75 27)) (some ((0, hpV h9 (hpV h8 75 27) x10), h9))))))) 75 b (wnk t) (n + 1) h4 0 r) d 0 := fun h4 M4 r n A4 F4 D4 T4 => by
      have I4 := I3.fm F4.fw
      have C4 := A4.md
      rw [f_Md_fewestOf_L81, if_pos rfl]
      simp only [C4]
      rw [chk_t trivial, chk_t trivial, s_opn A4 I4, bndT_ok (by decide)]
      simp only [C4]
      rw [chk_t trivial, chk_t (by omega)]
      have q := DI_end N hz.1 (by omega) D4 (fun s s0 s1 => T4 s s0 (by omega)) (s := st t (po t)) ho.1 (by omega)
      rw [q.uniq hd]
      exact RV_mv F4.fw (RV_ok A4 (by rw [F4.2 5 (by decide)]; exact e3))
    refine loop_r (F := fun n (b' : mH × Int × Int) => f_Md_fewestOf_L81 (fun h8  => chk (hpT h8 75 = 12) (chk (hpT h8 75 = 12) (bndT 0 (f_Md_openStand h8 75) (fun x10 h9 => chk (hpT h9 (hpV h8 75 27) = 21) (chk (0 ≤ x10 ∧ x10 < hpL h9 (hpV h8 75 27)) (some ((0, hpV h9 (hpV h8 75 27) x10), h9))))))) 75 b (wnk t) n b'.1 b'.2.1 b'.2.2) (P := fun o => RV c p L M3 0 o d 0) (fun i b' => b'.2.2 = (i : Int) ∧ ∃ M', At b'.1 c p L M' ∧ FW M3 M' ∧ DI (nF t) b (nK t) (nN t) z (M' 88) i ∧ (∀ s : Int, 0 ≤ s → s < nS t → M' 88 s ≤ i) ∧ (b'.2.1 = 0 → ∀ s : Int, 0 ≤ s → s < nS t → M' 88 s < i) ∧ (b'.2.1 ≠ 0 → (i : Int) ≤ cnN (fun s => decide (0 ≤ M' 88 s) && decide (M' 88 s < i)) (nN t))) (nN t + 1) (fun i hi b' hb n => ?_) (fun b' hb n => ?_) (i := 0) (b := (h3, 1, 0)) ⟨rfl, M3, A3, Fs.rf _ _ _ _, D3, T3, fun q => absurd (show (1 : Int) = 0 from q) (by decide), fun _ => (cnN_rng _ _).1⟩ (by omega) (by omega)
    · obtain ⟨h4, e, r1⟩ := b'
      obtain ⟨hr_, M4, A4_, F4, D4, T4, t4_, l4_⟩ := hb
      have hr1 : r1 = (i : Int) := hr_
      have A4 : At h4 c p L M4 := A4_
      have t4 : e = 0 → ∀ s : Int, 0 ≤ s → s < nS t → M4 88 s < i := t4_
      have l4 : e ≠ 0 → (i : Int) ≤ cnN (fun s => decide (0 ≤ M4 88 s) && decide (M4 88 s < i)) (nN t) := l4_
      clear hr_ A4_ t4_ l4_
      subst hr1
      by_cases g : e = 0
      · left
        show RV c p L M3 0 (f_Md_fewestOf_L81 _ 75 b (wnk t) (n + 1) h4 e i) d 0
        rw [g]; exact fin h4 M4 i n A4 F4 D4 (t4 g)
      · right
        have A5 := A4.fput (v := 75) (i := 24) 0 (by decide) (by decide) (by decide) (by decide +kernel) (by decide)
        have F5 : FW M3 (mup M4 75 24 0) := F4.ps (by decide)
        have I5 := I3.fm F5.fw
        have k5 : mup M4 75 24 0 88 = M4 88 := mup_fn (by decide)
        have l4 := l4 g
        have hcr := cnN_rng (fun s => decide (0 ≤ M4 88 s) && decide (M4 88 s < i)) (nN t)
        have T4' : ∀ s : Int, 0 ≤ s → s < nS t → mup M4 75 24 0 88 s ≤ i := by rw [k5]; exact T4
        have D5 : DI (nF t) b (nK t) (nN t) z (mup M4 75 24 0 88) i := by rw [k5]; exact D4
        have l5 : (i : Int) ≤ cnN (fun s => decide (0 ≤ mup M4 75 24 0 88 s) && decide (mup M4 75 24 0 88 s < i)) (nN t) := by rw [k5]; exact l4
        have x5 : mup M4 75 24 0 75 24 = 0 := mup_eq _ _ _ _
        show ∃ b' : mH × Int × Int, _ ∧ f_Md_fewestOf_L81 _ 75 b (wnk t) (n + 1) h4 e i = _
        rw [f_Md_fewestOf_L81, if_neg g, chk_t ((I3.fm F4.fw).mh A4).T, wth]
        generalize mup M4 75 24 0 = M5 at *
        generalize hput h4 75 24 0 = h5 at *
        obtain ⟨h6, M6, f6, A6, F6, k6, V6⟩ := s_few95 A5 I5 hS2 (K := fun h2  => f_Md_fewestOf_L149 (fun h3 x4 => wtv (w32 ((i : Int) + 1)) (fun x5 => (f_Md_fewestOf_L81 (fun h8  => chk (hpT h8 75 = 12) (chk (hpT h8 75 = 12) (bndT 0 (f_Md_openStand h8 75) (fun x10 h9 => chk (hpT h9 (hpV h8 75 27) = 21) (chk (0 ≤ x10 ∧ x10 < hpL h9 (hpV h8 75 27)) (some ((0, hpV h9 (hpV h8 75 27) x10), h9))))))) 75 b (wnk t) n) h3 x4 x5)) 75 b (wnk t) i 1000000 h2 0 0) D5 l5 x5
        rw [f6]
        refine s_few149 A6 (I5.fm F6.fw) hS2 (P := fun o => ∃ b' : mH × Int × Int, (b'.2.2 = ((i + 1 : Nat) : Int) ∧ ∃ M', At b'.1 c p L M' ∧ FW M3 M' ∧ DI (nF t) b (nK t) (nN t) z (M' 88) ((i + 1 : Nat) : Int) ∧ (∀ s : Int, 0 ≤ s → s < nS t → M' 88 s ≤ ((i + 1 : Nat) : Int)) ∧ (b'.2.1 = 0 → ∀ s : Int, 0 ≤ s → s < nS t → M' 88 s < ((i + 1 : Nat) : Int)) ∧ (b'.2.1 ≠ 0 → ((i + 1 : Nat) : Int) ≤ cnN (fun s => decide (0 ≤ M' 88 s) && decide (M' 88 s < ((i + 1 : Nat) : Int))) (nN t))) ∧ o = f_Md_fewestOf_L81 _ 75 b (wnk t) n b'.1 b'.2.1 b'.2.2) V6 (by omega) (by rw [k6]; exact T4') (fun h7 M7 x A7 F7 D7 x7 t7 l7 u7 => ?_)
        have ei : (i : Int) + 1 = ((i + 1 : Nat) : Int) := by omega
        refine ⟨(h7, x, ((i + 1 : Nat) : Int)), ⟨rfl, M7, A7, (F5.tr F6).tr F7, by rw [← ei]; exact D7, fun s s0 s1 => by rw [← ei]; exact u7 s s0 s1, fun q s s0 s1 => by have := t7 q s s0 s1; omega, fun q => by rw [← ei]; exact l7 q⟩, by rw [wtv, w32_n i (by omega)]⟩
    · obtain ⟨h4, e, r1⟩ := b'
      obtain ⟨hr_, M4, A4_, F4, D4, T4, t4_, l4_⟩ := hb
      have hr1 : r1 = ((nN t + 1 : Nat) : Int) := hr_
      have A4 : At h4 c p L M4 := A4_
      have t4 : e = 0 → ∀ s : Int, 0 ≤ s → s < nS t → M4 88 s < ((nN t + 1 : Nat) : Int) := t4_
      have l4 : e ≠ 0 → ((nN t + 1 : Nat) : Int) ≤ cnN (fun s => decide (0 ≤ M4 88 s) && decide (M4 88 s < ((nN t + 1 : Nat) : Int))) (nN t) := l4_
      clear hr_ A4_ t4_ l4_
      subst hr1
      have hcr := cnN_rng (fun s => decide (0 ≤ M4 88 s) && decide (M4 88 s < ((nN t + 1 : Nat) : Int))) (nN t)
      have g : e = 0 := by
        by_cases g : e = 0
        · exact g
        · have := l4 g; omega
      show RV c p L M3 0 (f_Md_fewestOf_L81 _ 75 b (wnk t) (n + 1) h4 e _) d 0
      rw [g]; exact fin h4 M4 _ n A4 F4 D4 (t4 g)
  unfold f_Md_fewestOf
  rw [chk_t B.T, s_Md_isBar B W, bndT_ok (by decide)]
  by_cases g1 : 0 ≤ b ∧ b < nb t
  · rw [b2d g1, if_neg (by decide), if_pos g1, chk_t B.T, s_Md_spent A I, bndT_ok (by decide)]
    by_cases g2 : nS t ≤ 20000
    · rw [if_pos g2, if_pos rfl, if_pos g2]; exact j 0 (by decide) (fun _ => ⟨g2, g1⟩)
    · rw [if_neg g2, if_neg (by decide), if_neg g2]; exact j 2 (by decide) (fun q => absurd q (by decide))
  · rw [b2n g1, if_pos rfl, if_neg g1]; exact j 1 (by decide) (fun q => absurd q (by decide))
end
