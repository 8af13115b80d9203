/-! IMAGES -/
theorem pt_in {v j : Int} (h : pt v j ≠ 0) : (v ≤ 99 → 1 ≤ pt v j ∧ pt v j ≤ 99) ∧ (100 ≤ v → (v - 100) % 13 = 0 ∧ v < 139 ∧ 6 ≤ j ∧ j ≤ 17 ∧ pt v j = v + (j - 5)) := by
  unfold pt at h ⊢
  by_cases q : 21 ≤ kd v ∧ v ≠ 32
  · rw [if_pos q] at h; exact absurd rfl h
  · rw [if_neg q] at h ⊢
    by_cases q2 : kd v = 1
    · rw [if_pos q2] at h ⊢
      by_cases q3 : 6 ≤ j ∧ j ≤ 17
      · rw [if_pos q3]
        refine ⟨fun h1 => ?_, fun h1 => ?_⟩
        · unfold kd at q2
          by_cases q4 : 0 ≤ v ∧ v ≤ 99
          · rw [if_pos q4] at q2
            have H : ∀ n : Fin 100, kdL.getD n.val 0 = 1 → n.val = 5 ∨ n.val = 18 := by decide +kernel
            have := H ⟨v.toNat, by omega⟩ q2
            have : v.toNat = 5 ∨ v.toNat = 18 := this
            omega
          · rw [if_neg q4, if_neg (by omega)] at q2; exact absurd q2 (by decide)
        · unfold kd at q2
          rw [if_neg (by omega)] at q2
          by_cases q4 : 100 ≤ v ∧ v < 139
          · rw [if_pos q4] at q2
            by_cases q5 : (v - 100) % 13 = 0
            · exact ⟨q5, q4.2, q3.1, q3.2, rfl⟩
            · rw [if_neg q5] at q2; exact absurd q2 (by decide)
          · rw [if_neg q4] at q2; exact absurd q2 (by decide)
      · rw [if_neg q3] at h; exact absurd rfl h
    · rw [if_neg q2] at h ⊢
      cases e : ptL.find? (fun q => q.1 == v && q.2.1 == j) with
      | none => rw [e] at h; exact absurd rfl h
      | some w =>
        rw [e] at h
        have hm := List.mem_of_find?_eq_some e
        have hp := List.find?_some e
        have H : ∀ q ∈ ptL, 1 ≤ q.1 ∧ q.1 ≤ 99 ∧ 1 ≤ q.2.2 ∧ q.2.2 ≤ 99 := by decide +kernel
        have := H w hm
        simp only [Bool.and_eq_true, beq_iff_eq] at hp
        exact ⟨fun _ => ⟨this.2.2.1, this.2.2.2⟩, fun h1 => by omega⟩
theorem kd_im {v : Int} (h0 : 100 ≤ v) (h1 : v < 139) : kd v = if (v - 100) % 13 = 0 then 1 else 21 := by
  unfold kd; rw [if_neg (by omega), if_pos ⟨h0, h1⟩]
theorem ln_im {v : Int} (h0 : 100 ≤ v) : ln v = bln ((v - 100) % 13) := by
  unfold ln bln; rw [if_neg (by omega)]
/-- a box made anew: k of its rows stand -/
def NBx (h0 hk : mH) (k sz : Int) : Prop := hpN hk = hpN h0 + 1 + k ∧ hpS hk = hpS h0 + sz ∧ (∀ w, hpT hk w = if w = hpN h0 + 1 then 1 else if hpN h0 + 1 < w ∧ w ≤ hpN h0 + 1 + k then 21 else hpT h0 w) ∧
  (∀ w, w ≠ hpN h0 + 1 → hpL hk w = if hpN h0 + 1 < w ∧ w ≤ hpN h0 + 1 + k then bln (w - (hpN h0 + 1)) else hpL h0 w) ∧
  ∀ w j, hpV hk w j = if w = hpN h0 + 1 then (if 6 ≤ j ∧ j < 6 + k then hpN h0 + 1 + (j - 5) else 0) else if hpN h0 + 1 < w ∧ w ≤ hpN h0 + 1 + k then 0 else hpV h0 w j
theorem NBx_0 (h : mH) : NBx h (halc h 1 0 18) 0 18 := by
  refine ⟨by rw [qa_N]; omega, qa_S .., fun w => ?_, fun w hw => ?_, fun w j => ?_⟩
  · rw [qa_T]
    by_cases e : w = hpN h + 1
    · rw [if_pos e, if_pos e]
    · rw [if_neg e, if_neg e, if_neg (by omega)]
  · rw [qa_L, if_neg hw, if_neg (by omega)]
  · rw [qa_V]
    by_cases e : w = hpN h + 1
    · rw [if_pos e, if_pos e, if_neg (by omega)]
    · rw [if_neg e, if_neg e, if_neg (by omega)]
theorem NBx_s {h0 hk : mH} {k sz len j : Int} (B : NBx h0 hk k sz) (hk0 : 0 ≤ k) (hl : len = bln (k + 1)) (hj : j = 6 + k) : hpT (halc hk 21 len len) (hpN h0 + 1) = 1 ∧ NBx h0 (hput (halc hk 21 len len) (hpN h0 + 1) j (hpN hk + 1)) (k + 1) (sz + len) := by
  obtain ⟨b1, b2, b3, b4, b5⟩ := B
  refine ⟨?_, ?_, ?_, fun w => ?_, fun w hw => ?_, fun w i => ?_⟩
  · rw [qa_T, if_neg (by omega), b3, if_pos rfl]
  · rw [qp_N, qa_N]; omega
  · rw [qp_S, qa_S]; omega
  · rw [qp_T, qa_T, b3]
    by_cases e : w = hpN h0 + 1
    · rw [if_neg (by omega), if_pos e, if_pos e]
    · by_cases e2 : w = hpN hk + 1
      · rw [if_pos e2, if_neg e, if_pos (by omega)]
      · rw [if_neg e2, if_neg e, if_neg e]
        by_cases e3 : hpN h0 + 1 < w ∧ w ≤ hpN h0 + 1 + k
        · rw [if_pos e3, if_pos (by omega)]
        · rw [if_neg e3, if_neg (by omega)]
  · rw [qp_L, qa_L, b4 w hw]
    by_cases e2 : w = hpN hk + 1
    · rw [if_pos e2, if_pos (by omega), hl, show w - (hpN h0 + 1) = k + 1 by omega]
    · rw [if_neg e2]
      by_cases e3 : hpN h0 + 1 < w ∧ w ≤ hpN h0 + 1 + k
      · rw [if_pos e3, if_pos (by omega)]
      · rw [if_neg e3, if_neg (by omega)]
  · rw [qp_V, qa_V, b5]
    by_cases e : w = hpN h0 + 1
    · by_cases e2 : i = j
      · rw [if_pos ⟨e, e2⟩, if_pos e, if_pos (by omega)]; omega
      · rw [if_neg (fun q => e2 q.2), if_neg (by omega), if_pos e, if_pos e]
        by_cases e3 : 6 ≤ i ∧ i < 6 + k
        · rw [if_pos e3, if_pos (by omega)]
        · rw [if_neg e3, if_neg (by omega)]
    · rw [if_neg (fun q => e q.1)]
      by_cases e2 : w = hpN hk + 1
      · rw [if_pos e2, if_neg e, if_pos (by omega)]
      · rw [if_neg e2, if_neg e, if_neg e]
        by_cases e3 : hpN h0 + 1 < w ∧ w ≤ hpN h0 + 1 + k
        · rw [if_pos e3, if_pos (by omega)]
        · rw [if_neg e3, if_neg (by omega)]
theorem s_Box_init {h : mH} (hN : 0 ≤ hpN h) : ∃ h', f_Box_init (halc h 1 0 18) (hpN h + 1) = some ((3, 0), h') ∧ NBx h h' 12 447 := by
  unfold f_Box_init
  have B0 := NBx_0 h
  rw [chk_t (by omega)]
  obtain ⟨T0, B1⟩ := NBx_s B0 (len := 9) (j := 6) (by decide) rfl rfl
  rw [chk_t (by decide), wth, chk_t T0, wth]
  obtain ⟨T1, B2⟩ := NBx_s B1 (len := 9) (j := 7) (by decide) rfl rfl
  rw [chk_t (by decide), wth, chk_t T1, wth]
  obtain ⟨T2, B3⟩ := NBx_s B2 (len := 9) (j := 8) (by decide) rfl rfl
  rw [chk_t (by decide), wth, chk_t T2, wth]
  obtain ⟨T3, B4⟩ := NBx_s B3 (len := 9) (j := 9) (by decide) rfl rfl
  rw [chk_t (by decide), wth, chk_t T3, wth]
  obtain ⟨T4, B5⟩ := NBx_s B4 (len := 9) (j := 10) (by decide) rfl rfl
  rw [chk_t (by decide), wth, chk_t T4, wth]
  obtain ⟨T5, B6⟩ := NBx_s B5 (len := 24) (j := 11) (by decide) rfl rfl
  rw [chk_t (by decide), wth, chk_t T5, wth]
  obtain ⟨T6, B7⟩ := NBx_s B6 (len := 24) (j := 12) (by decide) rfl rfl
  rw [chk_t (by decide), wth, chk_t T6, wth]
  obtain ⟨T7, B8⟩ := NBx_s B7 (len := 24) (j := 13) (by decide) rfl rfl
  rw [chk_t (by decide), wth, chk_t T7, wth]
  obtain ⟨T8, B9⟩ := NBx_s B8 (len := 24) (j := 14) (by decide) rfl rfl
  rw [chk_t (by decide), wth, chk_t T8, wth]
  obtain ⟨T9, B10⟩ := NBx_s B9 (len := 96) (j := 15) (by decide) rfl rfl
  rw [chk_t (by decide), wth, chk_t T9, wth]
  obtain ⟨T10, B11⟩ := NBx_s B10 (len := 96) (j := 16) (by decide) rfl rfl
  rw [chk_t (by decide), wth, chk_t T10, wth]
  obtain ⟨T11, B12⟩ := NBx_s B11 (len := 96) (j := 17) (by decide) rfl rfl
  rw [chk_t (by decide), wth, chk_t T11, wth]
  exact ⟨_, rfl, B12⟩
section
variable {h : mH} {c : Int} {p L : Int → Int} {M : aM} {E : Int → tT} {t : tT}
def nwM (M : aM) (i z : Int) : aM := fun w j => if w = 31 ∧ j = i then z else if 100 + 13 * i ≤ w ∧ w ≤ 112 + 13 * i then 0 else M w j
def nwP (p : Int → Int) (i z : Int) : Int → Int := fun v => if 100 + 13 * i ≤ v ∧ v ≤ 112 + 13 * i then z + (v - (100 + 13 * i)) else p v
theorem At.newbox (A : At h c p L M) {i : Int} (h0 : 0 ≤ i) (h1 : i < 3) (hz : M 31 i = 0) {h2 : mH} (B : NBx h h2 12 447) : At (hput h2 31 i (hpN h + 1)) (c + 447) (nwP p i (hpN h + 1)) L (nwM M i (hpN h + 1)) := by
  obtain ⟨⟨n1, n2, n3⟩, a2, a3, a4, a5, a6, a7, a8, a9⟩ := A
  obtain ⟨b1, b2, b3, b4, b5⟩ := B
  have hM31 : ∀ k, k ≠ i → nwM M i (hpN h + 1) 31 k = M 31 k := fun k hk => by
    unfold nwM; rw [if_neg (fun q => hk q.2), if_neg (by omega)]
  have hold : ∀ v, ¬ (100 + 13 * i ≤ v ∧ v ≤ 112 + 13 * i) → lv (nwM M i (hpN h + 1)) v → lv M v := fun v hv g => by
    unfold lv at g ⊢
    rcases g with g | ⟨g1, g2, g3⟩
    · exact Or.inl g
    · right; refine ⟨g1, g2, ?_⟩
      rw [hM31 _ (by omega)] at g3; exact g3
  have hP : ∀ v, ¬ (100 + 13 * i ≤ v ∧ v ≤ 112 + 13 * i) → nwP p i (hpN h + 1) v = p v := fun v hv => by unfold nwP; rw [if_neg hv]
  have hP2 : ∀ v, 100 + 13 * i ≤ v ∧ v ≤ 112 + 13 * i → nwP p i (hpN h + 1) v = hpN h + 1 + (v - (100 + 13 * i)) := fun v hv => by unfold nwP; rw [if_pos hv]
  have p31 : p 31 = 31 := (a4 31 (by decide) (by decide) (by decide)).1
  have i31 : ∀ v, lv M v → p v = 31 → v = 31 := fun v hv e => a3 v 31 hv (lv_fix M (by decide) (by decide)) (by rw [e, p31])
  have hz31 : (31 : Int) ≤ hpN h := by omega
  refine ⟨⟨by rw [qp_N]; omega, by rw [qp_N]; omega, by rw [qp_S]; omega⟩, fun v hv => ?_, fun v w hv hw => ?_, fun v g0 g1 g2 => ?_, a5, a6, fun v j hv hj => ?_, fun v j hv hj => ?_, fun k g0 g1 g2 => ?_⟩
  · rw [qp_N, qp_T, qp_L]
    by_cases q : 100 + 13 * i ≤ v ∧ v ≤ 112 + 13 * i
    · rw [hP2 v q, b3, kd_im (by omega) (by omega)]
      refine ⟨by omega, by omega, ?_, fun hk => ?_⟩
      · by_cases e : v = 100 + 13 * i
        · rw [if_pos (by omega), if_pos (by omega)]
        · rw [if_neg (by omega), if_pos (by omega), if_neg (by omega)]
      · have e : v ≠ 100 + 13 * i := fun e => by rw [if_pos (by omega)] at hk; omega
        rw [b4 _ (by omega), if_pos (by omega), a5 v (by omega) (by omega), ln_im (by omega)]
        congr 1; omega
    · have hv' := hold v q hv
      have := a2 v hv'
      rw [hP v q, b3, if_neg (by omega), if_neg (by omega)]
      refine ⟨this.1, by omega, this.2.2.1, fun hk => ?_⟩
      rw [b4 _ (by omega), if_neg (by omega)]; exact this.2.2.2 hk
  · by_cases q : 100 + 13 * i ≤ v ∧ v ≤ 112 + 13 * i <;> by_cases q2 : 100 + 13 * i ≤ w ∧ w ≤ 112 + 13 * i
    · rw [hP2 v q, hP2 w q2]; omega
    · rw [hP2 v q, hP w q2]; have := a2 w (hold w q2 hw); omega
    · rw [hP v q, hP2 w q2]; have := a2 v (hold v q hv); omega
    · rw [hP v q, hP w q2]; exact a3 v w (hold v q hv) (hold w q2 hw)
  · rw [hP v (by omega)]; exact a4 v g0 g1 g2
  · rw [qp_V, b5]
    by_cases q : 100 + 13 * i ≤ v ∧ v ≤ 112 + 13 * i
    · rw [hP2 v q, if_neg (by omega)]
      have e0 : nwM M i (hpN h + 1) v j = 0 := by unfold nwM; rw [if_neg (by omega), if_pos q]
      rw [e0]
      by_cases e : v = 100 + 13 * i
      · rw [if_pos (by omega), if_neg]
        intro q2
        apply absurd hj
        unfold pt
        rw [kd_im (by omega) (by omega), if_pos (show (v - 100) % 13 = 0 by omega), if_neg (by omega), if_pos rfl, if_pos (by omega)]; omega
      · rw [if_neg (by omega), if_pos (by omega)]
    · have hv' := hold v q hv
      have hr := a2 v hv'
      rw [hP v q, if_neg (show ¬ p v = hpN h + 1 by omega), if_neg (show ¬ (hpN h + 1 < p v ∧ p v ≤ hpN h + 1 + 12) by omega)]
      unfold nwM
      by_cases e : p v = 31 ∧ j = i
      · rw [if_pos e, if_pos ⟨i31 v hv' e.1, e.2⟩]
      · rw [if_neg e, if_neg (fun q2 => e ⟨by rw [q2.1, p31], q2.2⟩), if_neg q]
        exact a7 v j hv' hj
  · rw [qp_V, b5]
    have hin := pt_in hj
    by_cases q : 100 + 13 * i ≤ v ∧ v ≤ 112 + 13 * i
    · obtain ⟨e1, e2, e3, e4, e5⟩ := hin.2 (by omega)
      rw [hP2 v q, if_neg (by omega), if_pos (by omega), if_pos (by omega), e5, hP2 _ (by omega)]; omega
    · have hv' := hold v q hv
      have hr := a2 v hv'
      rw [hP v q, if_neg (show ¬ p v = hpN h + 1 by omega), if_neg (show ¬ (hpN h + 1 < p v ∧ p v ≤ hpN h + 1 + 12) by omega)]
      have e31 : ¬ (p v = 31 ∧ j = i) := fun e => by
        have := i31 v hv' e.1
        subst this
        exact hj (pt_arr (by decide +kernel) (by decide))
      rw [if_neg e31, a8 v j hv' hj, hP]
      intro q2
      by_cases g : v ≤ 99
      · have := (hin.1 g).2; omega
      · obtain ⟨e1, e2, e3, e4, e5⟩ := hin.2 (by omega)
        omega
  · by_cases e : k = i
    · rw [e, hP2 _ (by omega)]
      unfold nwM; rw [if_pos ⟨rfl, rfl⟩]; omega
    · rw [hM31 k e] at g2 ⊢
      rw [hP _ (by omega)]; exact a9 k g0 g1 g2
def IQ (E : Int → tT) (M : aM) (i : Int) (u : tT) (m : Int) : Prop := BRx M (100 + 13 * i) u ∧ WS u ∧ RW u (pa u) ∧ MDB u m ∧ Sq u (E (M (100 + 13 * i) 0)) ∧ 0 ≤ M (100 + 13 * i) 0 ∧ M (100 + 13 * i) 0 ≤ M 1 4
theorem BXi {i : Int} (h0 : 0 ≤ i) (h1 : i < 3) (hz : M 31 i ≠ 0) : BX M (100 + 13 * i) := by
  refine ⟨?_, Or.inr ⟨by omega, by omega, by rw [show (100 + 13 * i - 100) / 13 = i by omega]; exact hz⟩⟩
  have : i = 0 ∨ i = 1 ∨ i = 2 := by omega
  rcases this with rfl | rfl | rfl <;> decide
def cN : List Int := [5, 6, 7, 8, 9, 10, 11, 12, 13, 14, 15, 16, 17]
/-- restore() -/
theorem c_restore (A : At h c p L M) (K : KS E M L t) {i : Int} {u : tT} {m : Int} (hi : 0 ≤ i → i < 3 → M 31 i ≠ 0 → IQ E M i u m) :
    (¬ (0 ≤ i ∧ i < 3) ∧ f_Nb_restore h 1 i = some ((4, xN), halc h 0 0 6)) ∨ ((0 ≤ i ∧ i < 3) ∧ M 31 i = 0 ∧ f_Nb_restore h 1 i = some ((4, xS), halc h 0 0 6)) ∨
    ((0 ≤ i ∧ i < 3) ∧ M 31 i ≠ 0 ∧ ∃ h' M', f_Nb_restore h 1 i = some ((3, 0), h') ∧ At h' c p L M' ∧ Fr cN M M' ∧ KS E M' L u) := by
  have C := A.nb
  have D := A.b5
  unfold f_Nb_restore f_Nb_needImageNumber
  simp only [C]
  rw [chk_t trivial]
  by_cases g : i < 0
  · left; rw [if_pos g, bndT_ex]; exact ⟨by omega, rfl⟩
  rw [if_neg g]
  by_cases g1 : i < 3
  · right
    rw [if_pos g1, bndT_ok (by decide)]
    simp only [C]
    rw [chk_t trivial, chk_t trivial, chk_t (by omega)]
    by_cases g2 : M 31 i = 0
    · left; rw [if_pos g2]; exact ⟨by omega, g2, rfl⟩
    · right
      refine ⟨by omega, g2, ?_⟩
      obtain ⟨i1, i2, i3, i4, i5, i6, i7⟩ := hi (by omega) g1 g2
      have bi := BXi (M := M) (by omega) g1 g2
      have ep : M 31 i = p (100 + 13 * i) := A.2.2.2.2.2.2.2.2 i (by omega) g1 g2
      obtain ⟨h1, f1, A1⟩ := s_become A bi (BX5 M) (by omega)
      rw [A.p5, ← ep] at f1
      rw [if_neg g2, chk_t trivial, chk_t trivial, chk_t trivial, chk_t (by omega), D.1, chk_t rfl, f1, bndT_ok (by decide)]
      have hF : ∀ v, v < 5 ∨ 17 < v → bcc M (100 + 13 * i) 5 12 v = M v := fun v hv => bcc_o (by omega)
      have e0 : bcc M (100 + 13 * i) 5 12 5 0 = M (100 + 13 * i) 0 := bcc_d (by decide) (by decide)
      refine ⟨h1, _, rfl, A1, fun v hv => hF v ?_, ?_⟩
      · simp only [cN, List.mem_cons, List.not_mem_nil, or_false, not_or] at hv; omega
      · refine ⟨(i1.become i2).five, i2, i3, by rw [e0]; exact i5, by rw [e0, hF 1 (by decide)]; exact ⟨i6, i7⟩, K.G.keep (fun v hv => hF v ?_) (fun _ _ => rfl), K.p1.keep (hF _ (by decide)) (hF _ (by decide)) (hF _ (by decide)) (hF _ (by decide)) rfl rfl, K.p2.keep (hF _ (by decide)) (hF _ (by decide)) (hF _ (by decide)) (hF _ (by decide)) rfl rfl, K.p3.keep (hF _ (by decide)) (hF _ (by decide)) (hF _ (by decide)) (hF _ (by decide)) rfl rfl, K.N.keep (hF _ (by decide)) (hF _ (by decide)) (hF _ (by decide))⟩
        simp only [List.mem_cons, List.not_mem_nil, or_false] at hv; omega
  · left; rw [if_neg g1, bndT_ex]; exact ⟨by omega, rfl⟩
/-- image() -/
theorem c_image (A : At h c p L M) (K : KS E M L t) (i : Int) {m : Int} (B : MDB t m) :
    (¬ (0 ≤ i ∧ i < 3) ∧ f_Nb_image h 1 i = some ((4, xN), halc h 0 0 6)) ∨
    ((0 ≤ i ∧ i < 3) ∧ ∃ h' c' p' M', f_Nb_image h 1 i = some ((3, 0), h') ∧ At h' c' p' L M' ∧ c' ≤ c + 447 ∧ (∀ v, v ≠ 31 → ¬ (100 + 13 * i ≤ v ∧ v ≤ 112 + 13 * i) → M' v = M v) ∧ (∀ k, k ≠ i → M' 31 k = M 31 k) ∧ M' 31 i ≠ 0 ∧ KS E M' L t ∧ IQ E M' i t m) := by
  have C := A.nb
  unfold f_Nb_image f_Nb_needImageNumber
  simp only [C]
  rw [chk_t trivial]
  by_cases g : i < 0
  · left; rw [if_pos g, bndT_ex]; exact ⟨by omega, rfl⟩
  rw [if_neg g]
  by_cases g1 : i < 3
  · right
    refine ⟨by omega, ?_⟩
    rw [if_pos g1, bndT_ok (by decide)]
    -- an image that is there becomes the box
    have j27 : ∀ h1 c1 p1 M1, At h1 c1 p1 L M1 → c1 ≤ c + 447 → (∀ v, v ≠ 31 → ¬ (100 + 13 * i ≤ v ∧ v ≤ 112 + 13 * i) → M1 v = M v) → (∀ k, k ≠ i → M1 31 k = M 31 k) → M1 31 i ≠ 0 → ∃ h' c' p' M', f_Nb_image_J27 1 i h1 = some ((3, 0), h') ∧ At h' c' p' L M' ∧ c' ≤ c + 447 ∧ (∀ v, v ≠ 31 → ¬ (100 + 13 * i ≤ v ∧ v ≤ 112 + 13 * i) → M' v = M v) ∧ (∀ k, k ≠ i → M' 31 k = M 31 k) ∧ M' 31 i ≠ 0 ∧ KS E M' L t ∧ IQ E M' i t m := by
      intro h1 c1 p1 M1 A1 hc F1 k1 z1
      have C1 := A1.nb
      have D1 := A1.b5
      have bi := BXi (M := M1) (by omega) g1 z1
      have ep : M1 31 i = p1 (100 + 13 * i) := A1.2.2.2.2.2.2.2.2 i (by omega) g1 z1
      obtain ⟨h2, f2, A2⟩ := s_become A1 (BX5 M1) bi (by omega)
      have T := (A1.bx bi).1
      rw [A1.p5, ← ep] at f2
      rw [← ep] at T
      have hF : ∀ v, v < 100 + 13 * i ∨ 112 + 13 * i < v → bcc M1 5 (100 + 13 * i) 12 v = M1 v := fun v hv => bcc_o (by omega)
      have K1 : KS E M1 L t := K.keep (fun v hv => F1 v (by unfold kO at hv; omega) (by unfold kO at hv; omega)) (fun _ _ => rfl)
      have e0 : bcc M1 5 (100 + 13 * i) 12 (100 + 13 * i) 0 = M1 5 0 := bcc_d (by decide) (by decide)
      refine ⟨h2, c1, p1, _, ?_, A2, hc, fun v q0 q1 => by rw [hF v (by omega)]; exact F1 v q0 q1, fun k hk => by rw [hF 31 (by omega)]; exact k1 k hk, by rw [hF 31 (by omega)]; exact z1, K1.keep (fun v hv => hF v (by unfold kO at hv; omega)) (fun _ _ => rfl), ?_⟩
      · unfold f_Nb_image_J27
        simp only [C1]
        rw [chk_t trivial, chk_t trivial, chk_t (by omega), chk_t trivial, chk_t T, f2, bndT_ok (by decide)]
      · refine ⟨K1.R.x.become K.W, K.W, K.D, B, by rw [e0]; exact K1.S, by rw [e0]; exact K1.e.1, by rw [e0, hF 1 (by omega)]; exact K1.e.2⟩
    simp only [C]
    rw [chk_t trivial, chk_t trivial, chk_t (by omega)]
    by_cases g2 : M 31 i = 0
    · have hN : 99 ≤ hpN h := A.1.1
      obtain ⟨h2, f2, B2⟩ := s_Box_init (h := h) (by omega)
      have A3 := A.newbox (by omega) g1 g2 B2
      have t31 : hpT h2 31 = 25 := by rw [B2.2.2.1, if_neg (by omega), if_neg (by omega)]; simp only [C]
      have l31 : hpL h2 31 = 3 := by rw [B2.2.2.2.1 _ (by omega), if_neg (by omega)]; simp only [C]
      have tz : hpT h2 (hpN h + 1) = 1 := by rw [B2.2.2.1, if_pos rfl]
      rw [if_pos g2, chk_t trivial, wth, chk_t (by omega), f2, bndR_ok, t31, chk_t rfl, l31, chk_t (by omega), tz, chk_t rfl, wth]
      refine j27 _ _ _ _ A3 (Int.le_refl _) (fun v q0 q1 => ?_) (fun k hk => ?_) ?_
      · funext j; unfold nwM; rw [if_neg (fun q => q0 q.1), if_neg q1]
      · unfold nwM; rw [if_neg (fun q => hk q.2), if_neg (by omega)]
      · unfold nwM; rw [if_pos ⟨rfl, rfl⟩]; omega
    · rw [if_neg g2]
      exact j27 h c p M A (by omega) (fun _ _ _ => rfl) (fun _ _ => rfl) g2
  · left; rw [if_neg g1, bndT_ex]; exact ⟨by omega, rfl⟩
end
