/-! THE REFERENCE'S keys: ITS ROUNDS -/
def KX (t : tT) (n : Int) (q : Nat) (x : Int) : Prop := (x = -1 ∧ wn t q n = false) ∨ (x ≤ q ∧ RK t n x)
theorem KX.dec0 {t : tT} {n x : Int} {q : Nat} (h : KX t n q x) : (x ≠ -1 ∧ x ≤ q) ↔ wn t q n = true := by
  rcases h with ⟨a, b⟩ | ⟨a, b, c, d⟩
  · constructor
    · intro q; exact absurd a q.1
    · intro q; rw [b] at q; exact absurd q (by decide)
  · constructor
    · intro _; exact wn_le c (by omega)
    · intro _; exact ⟨by omega, a⟩
theorem KX.dec1 {t : tT} {n x : Int} {q : Nat} (h : KX t n (q + 1) x) : (x ≠ -1 ∧ x ≤ q) ↔ wn t q n = true := by
  rcases h with ⟨a, b⟩ | ⟨a, b, c, d⟩
  · constructor
    · intro q; exact absurd a q.1
    · intro k; rw [wn_le k (show q ≤ q + 1 by omega)] at b; exact absurd b (by decide)
  · constructor
    · intro k; exact wn_le c (by omega)
    · intro k
      refine ⟨by omega, ?_⟩
      by_cases g : x ≤ q
      · exact g
      · rw [d q (by omega)] at k; exact absurd k (by decide)
theorem KX.up {t : tT} {n x : Int} {q : Nat} (h : KX t n q x) (hx : x ≠ -1 ∨ en t (wn t q) n = false) : KX t n (q + 1) x := by
  rcases h with ⟨a, b⟩ | ⟨a, b⟩
  · rcases hx with hx | hx
    · exact absurd a hx
    · exact Or.inl ⟨a, by rw [wn, b, hx]; rfl⟩
  · exact Or.inr ⟨by omega, b⟩
theorem KX.hit {t : tT} {n : Int} {q : Nat} (h : KX t n q (-1)) (he : en t (wn t q) n = true) : KX t n (q + 1) ((q : Int) + 1) := by
  rcases h with ⟨_, b⟩ | ⟨a, b, _⟩
  · refine Or.inr ⟨by omega, by omega, ?_, fun e he2 => ?_⟩
    · rw [show ((q : Int) + 1).toNat = q + 1 by omega, wn, he, Bool.or_true]
    · cases k : wn t e n
      · rfl
      · rw [wn_le k (show e ≤ q by omega)] at b; exact absurd b (by decide)
  · omega
section
variable {h : mH} {c : Int} {p L : Int → Int} {M : aM} {t : tT}
theorem LQ.fk {M' : aM} (Q : LQ M t) (F : Fr [94, 95] M M') : LQ M' t := fun s v q0 q1 q2 q3 => by rw [F 90 (by decide)]; exact Q s v q0 q1 q2 q3
def KW (M : aM) (t : tT) (q : Nat) : Prop := ∀ x, 0 ≤ x → x < nS t → KX t (2 * x) q (M 94 x) ∧ KX t (2 * x + 1) q (M 95 x)
theorem s_keys99 (A : At h c p L M) (I : RI M t) (hS2 : nS t ≤ 20000) (Q : LQ M t) {K : mH → Option mR} {q : Nat} (hq : q < 60) (H : KW M t q) : ∃ h' M', f_Md_keys_L99 K 75 (((q + 1 : Nat) : Int)) 1000000 h 0 = K h' ∧ At h' c p L M' ∧ Fr [94, 95] M M' ∧ KW M' t (q + 1) := by
  have W := I.2.1
  have hn := nN_eq W
  have hS := nS_rng W
  have ew : w32 (((q + 1 : Nat) : Int) - 1) = (q : Int) := by rw [w32_id (by omega) (by omega)]; omega
  refine loop_r (F := fun n (b : mH × Int) => f_Md_keys_L99 K 75 (((q + 1 : Nat) : Int)) n b.1 b.2) (P := fun r => ∃ h' M', r = K h' ∧ At h' c p L M' ∧ Fr [94, 95] M M' ∧ KW M' t (q + 1)) (fun i b => b.2 = (i : Int) ∧ ∃ M', At b.1 c p L M' ∧ Fr [94, 95] M M' ∧ (∀ x, 0 ≤ x → x < (i : Int) → KX t (2 * x) (q + 1) (M' 94 x) ∧ KX t (2 * x + 1) (q + 1) (M' 95 x)) ∧ ∀ x, (i : Int) ≤ x → x < nS t → KX t (2 * x) q (M' 94 x) ∧ KX t (2 * x + 1) q (M' 95 x)) (nN t) (fun i hi b hb n => ?_) (fun b hb n => ?_) (i := 0) (b := (h, 0)) ⟨rfl, M, A, Fr.rf _ _, fun x g0 g1 => by omega, fun x g0 g1 => H x (by omega) g1⟩ (by omega) (by omega)
  · obtain ⟨h1, r⟩ := b
    obtain ⟨hr_, M1, A1_, F1, a1, b1⟩ := hb
    have hr : r = (i : Int) := hr_
    have A1 : At h1 c p L M1 := A1_
    clear hr_ A1_
    subst hr
    right
    have I1 := I.fm (F1.fm (by decide) (by decide))
    have B1 := I1.mh A1
    have C1 := A1.md
    have bi := b1 i (by omega) (by omega)
    have j171 : ∀ h, f_Md_keys_J171 (f_Md_keys_L99 K 75 (((q + 1 : Nat) : Int)) n) i h = f_Md_keys_L99 K 75 (((q + 1 : Nat) : Int)) n h ((i + 1 : Nat) : Int) := fun h => by
      unfold f_Md_keys_J171; rw [wtv, w32_n i (by omega)]
    have j139 : ∀ h2 M2, At h2 c p L M2 → Fr [94, 95] M M2 → M2 95 = M1 95 → (∀ x, 0 ≤ x → x < ((i + 1 : Nat) : Int) → KX t (2 * x) (q + 1) (M2 94 x)) → (∀ x, ((i + 1 : Nat) : Int) ≤ x → x < nS t → KX t (2 * x) q (M2 94 x)) → ∃ b' : mH × Int, (b'.2 = ((i + 1 : Nat) : Int) ∧ ∃ M', At b'.1 c p L M' ∧ Fr [94, 95] M M' ∧ (∀ x, 0 ≤ x → x < ((i + 1 : Nat) : Int) → KX t (2 * x) (q + 1) (M' 94 x) ∧ KX t (2 * x + 1) (q + 1) (M' 95 x)) ∧ ∀ x, ((i + 1 : Nat) : Int) ≤ x → x < nS t → KX t (2 * x) q (M' 94 x) ∧ KX t (2 * x + 1) q (M' 95 x)) ∧ f_Md_keys_J139 (f_Md_keys_L99 K 75 (((q + 1 : Nat) : Int)) n) 75 (((q + 1 : Nat) : Int)) i h2 = f_Md_keys_L99 K 75 (((q + 1 : Nat) : Int)) n b'.1 b'.2 := fun h2 M2 A2 F2 k95 x1 x2 => by
      have I2 := I.fm (F2.fm (by decide) (by decide))
      have B2 := I2.mh A2
      have C2 := A2.md
      have stay : (M1 95 i ≠ -1 ∨ en t (wn t q) (2 * i + 1) = false) → ∃ b' : mH × Int, (b'.2 = ((i + 1 : Nat) : Int) ∧ ∃ M', At b'.1 c p L M' ∧ Fr [94, 95] M M' ∧ (∀ x, 0 ≤ x → x < ((i + 1 : Nat) : Int) → KX t (2 * x) (q + 1) (M' 94 x) ∧ KX t (2 * x + 1) (q + 1) (M' 95 x)) ∧ ∀ x, ((i + 1 : Nat) : Int) ≤ x → x < nS t → KX t (2 * x) q (M' 94 x) ∧ KX t (2 * x + 1) q (M' 95 x)) ∧ f_Md_keys_L99 K 75 (((q + 1 : Nat) : Int)) n h2 ((i + 1 : Nat) : Int) = f_Md_keys_L99 K 75 (((q + 1 : Nat) : Int)) n b'.1 b'.2 := fun g => by
        refine ⟨(h2, ((i + 1 : Nat) : Int)), ⟨rfl, M2, A2, F2, fun x g0 g1 => ⟨x1 x g0 g1, ?_⟩, fun x g0 g1 => ⟨x2 x g0 g1, by rw [k95]; exact (b1 x (by omega) g1).2⟩⟩, rfl⟩
        rw [k95]
        by_cases e : x = i
        · rw [e]; exact bi.2.up g
        · exact (a1 x g0 (by omega)).2
      unfold f_Md_keys_J139
      simp only [C2]
      rw [chk_t trivial, chk_t trivial, chk_t (by omega), k95, j171]
      by_cases g1 : M1 95 i = -1
      · rw [if_pos g1, chk_t trivial, chk_t trivial, ew, s_allLead A2 I2 hS2 (Q.fk F2) (r := (q : Int)) (s := (i : Int)) (by omega) (by omega) (P := wn t q) (fun x g0 g1 => by
          by_cases e : x < ((i + 1 : Nat) : Int)
          · exact (x1 x g0 e).dec1
          · exact (x2 x (by omega) g1).dec0), bndT_ok (by decide)]
        cases k : en t (wn t q) (2 * i + 1)
        · rw [if_pos (show b2i false = 0 from rfl), j171]; exact stay (Or.inr k)
        · have A3 := A2.aput (v := 95) i ((q : Int) + 1) (by decide) (by decide) (by decide) (by decide +kernel) (by decide) (by decide)
          rw [if_neg (by decide)]
          simp only [C2]
          rw [chk_t trivial, chk_t trivial, chk_t (by omega), wth, j171, show ((q + 1 : Nat) : Int) = (q : Int) + 1 by omega]
          refine ⟨(hput h2 95 i ((q : Int) + 1), ((i + 1 : Nat) : Int)), ⟨rfl, _, A3, F2.pu (by decide), fun x g0 g1' => ⟨by rw [mup_fn (by decide)]; exact x1 x g0 g1', ?_⟩, fun x g0 g1' => ⟨by rw [mup_fn (by decide)]; exact x2 x g0 g1', ?_⟩⟩, rfl⟩
          · by_cases e : x = i
            · rw [e, mup_eq]
              have := bi.2
              rw [g1] at this
              exact this.hit k
            · rw [mup_ne (Or.inr e), k95]; exact (a1 x g0 (by omega)).2
          · rw [mup_ne (Or.inr (by omega)), k95]; exact (b1 x (by omega) g1').2
      · rw [if_neg g1]; exact stay (Or.inl g1)
    have go1 : (M1 94 i ≠ -1 ∨ en t (wn t q) (2 * i) = false) → ∃ b' : mH × Int, (b'.2 = ((i + 1 : Nat) : Int) ∧ ∃ M', At b'.1 c p L M' ∧ Fr [94, 95] M M' ∧ (∀ x, 0 ≤ x → x < ((i + 1 : Nat) : Int) → KX t (2 * x) (q + 1) (M' 94 x) ∧ KX t (2 * x + 1) (q + 1) (M' 95 x)) ∧ ∀ x, ((i + 1 : Nat) : Int) ≤ x → x < nS t → KX t (2 * x) q (M' 94 x) ∧ KX t (2 * x + 1) q (M' 95 x)) ∧ f_Md_keys_J139 (f_Md_keys_L99 K 75 (((q + 1 : Nat) : Int)) n) 75 (((q + 1 : Nat) : Int)) i h1 = f_Md_keys_L99 K 75 (((q + 1 : Nat) : Int)) n b'.1 b'.2 := fun g => by
      refine j139 h1 M1 A1 F1 rfl (fun x g0 g1 => ?_) (fun x g0 g1 => (b1 x (by omega) g1).1)
      by_cases e : x = i
      · rw [e]; exact bi.1.up g
      · exact (a1 x g0 (by omega)).1
    show ∃ b' : mH × Int, _ ∧ f_Md_keys_L99 K 75 (((q + 1 : Nat) : Int)) (n + 1) h1 i = _
    rw [f_Md_keys_L99, chk_t B1.T, s_Md_stands B1 W, bndT_ok (by decide), if_neg (by omega)]
    simp only [C1]
    rw [chk_t trivial, chk_t trivial, chk_t (by omega)]
    by_cases g1 : M1 94 i = -1
    · rw [if_pos g1, chk_t trivial, chk_t trivial, ew, s_someLeads A1 I1 hS2 (Q.fk F1) (r := (q : Int)) (s := (i : Int)) (by omega) (by omega) (P := wn t q) (fun x g0 g1 => by
        by_cases e : x < (i : Int)
        · exact (a1 x g0 e).2.dec1
        · exact (b1 x (by omega) g1).2.dec0), bndT_ok (by decide)]
      cases k : en t (wn t q) (2 * i)
      · rw [if_pos (show b2i false = 0 from rfl)]; exact go1 (Or.inr k)
      · have A2 := A1.aput (v := 94) i ((q : Int) + 1) (by decide) (by decide) (by decide) (by decide +kernel) (by decide) (by decide)
        rw [if_neg (by decide)]
        simp only [C1]
        rw [chk_t trivial, chk_t trivial, chk_t (by omega), wth, show hput h1 94 (i : Int) ((q + 1 : Nat) : Int) = hput h1 94 (i : Int) ((q : Int) + 1) by rw [show ((q + 1 : Nat) : Int) = (q : Int) + 1 by omega]]
        refine j139 _ _ A2 (F1.pu (by decide)) (mup_fn (by decide)) (fun x g0 g1' => ?_) (fun x g0 g1' => ?_)
        · by_cases e : x = i
          · rw [e, mup_eq]
            have := bi.1
            rw [g1] at this
            exact this.hit k
          · rw [mup_ne (Or.inr e)]; exact (a1 x g0 (by omega)).1
        · rw [mup_ne (Or.inr (by omega))]; exact (b1 x (by omega) g1').1
    · rw [if_neg g1]; exact go1 (Or.inl g1)
  · obtain ⟨h1, r⟩ := b
    obtain ⟨hr_, M1, A1_, F1, a1, b1⟩ := hb
    have hr : r = ((nN t : Nat) : Int) := hr_
    have A1 : At h1 c p L M1 := A1_
    clear hr_ A1_
    subst hr
    have I1 := I.fm (F1.fm (by decide) (by decide))
    have B1 := I1.mh A1
    refine ⟨h1, M1, ?_, A1, F1, fun x g0 g1 => a1 x g0 (by omega)⟩
    show f_Md_keys_L99 K 75 (((q + 1 : Nat) : Int)) (n + 1) h1 _ = _
    rw [f_Md_keys_L99, chk_t B1.T, s_Md_stands B1 W, bndT_ok (by decide), if_pos (show nS t ≤ ((nN t : Nat) : Int) by omega)]
theorem s_keys31 (A : At h c p L M) (I : RI M t) (hS2 : nS t ≤ 20000) {K : mH → Option mR} : ∃ h' M', f_Md_keys_L31 K 75 1000000 h 0 = K h' ∧ At h' c p L M' ∧ Fr [94, 95] M M' ∧ KW M' t 0 := by
  have W := I.2.1
  have hn := nN_eq W
  have hS := nS_rng W
  have kx : ∀ s : Int, KX t (2 * s) 0 (if s = st t (po t) then 0 else -1) ∧ KX t (2 * s + 1) 0 (if s = st t (po t) then 0 else -1) := fun s => by
    by_cases e : s = st t (po t)
    · rw [if_pos e]
      exact ⟨Or.inr ⟨by omega, by omega, by show decide _ = true; rw [show 2 * s / 2 = s by omega]; exact decide_eq_true e, fun k g => by omega⟩, Or.inr ⟨by omega, by omega, by show decide _ = true; rw [show (2 * s + 1) / 2 = s by omega]; exact decide_eq_true e, fun k g => by omega⟩⟩
    · rw [if_neg e]
      exact ⟨Or.inl ⟨rfl, by show decide _ = false; rw [show 2 * s / 2 = s by omega]; exact decide_eq_false e⟩, Or.inl ⟨rfl, by show decide _ = false; rw [show (2 * s + 1) / 2 = s by omega]; exact decide_eq_false e⟩⟩
  refine loop_r (F := fun n (b : mH × Int) => f_Md_keys_L31 K 75 n b.1 b.2) (P := fun r => ∃ h' M', r = K h' ∧ At h' c p L M' ∧ Fr [94, 95] M M' ∧ KW M' t 0) (fun i b => b.2 = (i : Int) ∧ ∃ M', At b.1 c p L M' ∧ Fr [94, 95] M M' ∧ ∀ s, 0 ≤ s → s < (i : Int) → M' 94 s = (if s = st t (po t) then 0 else -1) ∧ M' 95 s = (if s = st t (po t) then 0 else -1)) (nN t) (fun i hi b hb n => ?_) (fun b hb n => ?_) (i := 0) (b := (h, 0)) ⟨rfl, M, A, Fr.rf _ _, fun s g0 g1 => by omega⟩ (by omega) (by omega)
  · obtain ⟨h2, r⟩ := b
    obtain ⟨hr_, M2, A2_, F2, v2⟩ := hb
    have hr : r = (i : Int) := hr_
    have A2 : At h2 c p L M2 := A2_
    clear hr_ A2_
    subst hr
    right
    have I2 := I.fm (F2.fm (by decide) (by decide))
    have B2 := I2.mh A2
    have C2 := A2.md
    have j57 : ∀ x, x = (if (i : Int) = st t (po t) then (0 : Int) else -1) → ∃ b' : mH × Int, (b'.2 = ((i + 1 : Nat) : Int) ∧ ∃ M', At b'.1 c p L M' ∧ Fr [94, 95] M M' ∧ ∀ s, 0 ≤ s → s < ((i + 1 : Nat) : Int) → M' 94 s = (if s = st t (po t) then 0 else -1) ∧ M' 95 s = (if s = st t (po t) then 0 else -1)) ∧ f_Md_keys_J57 (f_Md_keys_L31 K 75 n) 75 i 94 i x h2 = f_Md_keys_L31 K 75 n b'.1 b'.2 := fun x hx => by
      have A3 := A2.aput (v := 94) i x (by decide) (by decide) (by decide) (by decide +kernel) (by decide) (by decide)
      have C3 := A3.md
      have A4 := A3.aput (v := 95) i x (by decide) (by decide) (by decide) (by decide +kernel) (by decide) (by decide)
      refine ⟨(hput (hput h2 94 i x) 95 i x, ((i + 1 : Nat) : Int)), ⟨rfl, _, A4, (F2.pu (by decide)).pu (by decide), fun s g0 g1 => ?_⟩, ?_⟩
      · by_cases e : s = i
        · rw [e, mup_eq, mup_ne (Or.inl (by decide)), mup_eq, hx]; exact ⟨rfl, rfl⟩
        · rw [mup_ne (Or.inl (by decide)), mup_ne (Or.inr e), mup_ne (Or.inr e), mup_ne (Or.inl (by decide))]; exact v2 s g0 (by omega)
      · unfold f_Md_keys_J57
        simp only [C2]
        rw [chk_t trivial, chk_t (by omega), wth]
        simp only [C3]
        rw [chk_t trivial, chk_t trivial, chk_t trivial, chk_t (by omega), chk_t trivial, chk_t (by omega), mup_eq, wth, wtv, w32_n i (by omega)]
    show ∃ b' : mH × Int, _ ∧ f_Md_keys_L31 K 75 (n + 1) h2 i = _
    rw [f_Md_keys_L31, chk_t B2.T, s_Md_stands B2 W, bndT_ok (by decide), if_neg (by omega)]
    simp only [C2]
    rw [chk_t trivial, chk_t trivial, s_opn A2 I2, bndT_ok (by decide)]
    by_cases e : (i : Int) = st t (po t)
    · rw [if_pos e]; exact j57 0 (by rw [if_pos e])
    · rw [if_neg e]; exact j57 (-1) (by rw [if_neg e])
  · obtain ⟨h2, r⟩ := b
    obtain ⟨hr_, M2, A2_, F2, v2⟩ := hb
    have hr : r = ((nN t : Nat) : Int) := hr_
    have A2 : At h2 c p L M2 := A2_
    clear hr_ A2_
    subst hr
    have I2 := I.fm (F2.fm (by decide) (by decide))
    have B2 := I2.mh A2
    refine ⟨h2, M2, ?_, A2, F2, fun s g0 g1 => by rw [(v2 s g0 (by omega)).1, (v2 s g0 (by omega)).2]; exact kx s⟩
    show f_Md_keys_L31 K 75 (n + 1) h2 _ = _
    rw [f_Md_keys_L31, chk_t B2.T, s_Md_stands B2 W, bndT_ok (by decide), if_pos (show nS t ≤ ((nN t : Nat) : Int) by omega)]
theorem r_keys (A : At h c p L M) (I : RI M t) {d : Int} (hd : nS t ≤ 20000 → KY t d) : RV c p L M 0 (f_Md_keys h 75) d (if nS t ≤ 20000 then 0 else 1) := by
  have W := I.2.1
  have B := I.mh A
  have hz := I.nowr
  have j : ∀ x : Int, 0 ≤ x → (x = 0 → nS t ≤ 20000) → RV c p L M 0 (f_Md_keys_J13 75 75 x h) d x := by
    intro x h0 hx
    unfold f_Md_keys_J13
    refine RV_head A I h0 (fun _ => rfl) (fun g h1 M1 A1 I1 e1 F1 => ?_)
    have hS2 := hx g
    have hd := hd hS2
    obtain ⟨h2, M2, f2, A2, F2, Q2⟩ := s_laysLeads A1 I1 hS2
    have I2 := I1.fm (F2.fm (by decide) (by decide))
    have e2 : M2 75 5 = 0 := by rw [F2 75 (by decide)]; exact e1
    rw [chk_t (I1.mh A1).T, f2, bndT_ok (by decide)]
    refine RV_mv (F2.fm (by decide) (by decide)) ?_
    obtain ⟨h3, M3, f3, A3, F3, K3⟩ := s_keys31 A2 I2 hS2 (K := fun h4  => f_Md_keys_L78 (fun h5  => f_Md_keys_J183 75 h5) 75 1000000 h4 1)
    rw [f3]
    have fin : ∀ (h4 : mH) (M4 : aM) (q : Nat), At h4 c p L M4 → Fr [94, 95] M2 M4 → q ≤ 60 → KW M4 t q → (M4 94 (st t (pa t)) ≠ -1 ∨ q = 60) → RV c p L M2 0 (f_Md_keys_J183 75 h4) d 0 := fun h4 M4 q A4 F4 hq K4 hh => by
      have I4 := I2.fm (F4.fm (by decide) (by decide))
      have C4 := A4.md
      unfold f_Md_keys_J183
      simp only [C4]
      rw [chk_t trivial, chk_t trivial, s_now A4 I4, bndT_ok (by decide)]
      simp only [C4]
      rw [chk_t trivial, chk_t (by omega)]
      have ky : KY t (M4 94 (st t (pa t))) := by
        rcases (K4 _ hz.1 hz.2).1 with ⟨a, b⟩ | ⟨a, b⟩
        · rcases hh with hh | hh
          · exact absurd a hh
          · rw [hh] at b; exact Or.inl ⟨a, b⟩
        · exact Or.inr ⟨by omega, b⟩
      rw [ky.uniq hd]
      exact RV_mv (F4.fm (by decide) (by decide)) (RV_ok A4 (by rw [F4 75 (by decide)]; exact e2))
    refine loop_r (F := fun n (b : mH × Int) => f_Md_keys_L78 (fun h5  => f_Md_keys_J183 75 h5) 75 n b.1 b.2) (P := fun o => RV c p L M2 0 o d 0) (fun i b => b.2 = ((i + 1 : Nat) : Int) ∧ ∃ M', At b.1 c p L M' ∧ Fr [94, 95] M2 M' ∧ KW M' t i) 60 (fun i hi b hb n => ?_) (fun b hb n => ?_) (i := 0) (b := (h3, 1)) ⟨rfl, M3, A3, F3, K3⟩ (by omega) (by omega)
    · obtain ⟨h4, r⟩ := b
      obtain ⟨hr_, M4, A4_, F4, K4⟩ := hb
      have hr : r = ((i + 1 : Nat) : Int) := hr_
      have A4 : At h4 c p L M4 := A4_
      clear hr_ A4_
      subst hr
      have I4 := I2.fm (F4.fm (by decide) (by decide))
      have C4 := A4.md
      show RV c p L M2 0 (f_Md_keys_L78 _ 75 (n + 1) h4 _) d 0 ∨ ∃ b' : mH × Int, _ ∧ f_Md_keys_L78 _ 75 (n + 1) h4 _ = _
      rw [f_Md_keys_L78, if_neg (by omega)]
      simp only [C4]
      rw [chk_t trivial, chk_t trivial, s_now A4 I4, bndT_ok (by decide)]
      simp only [C4]
      rw [chk_t trivial, chk_t (by omega)]
      by_cases g : M4 94 (st t (pa t)) = -1
      · right
        obtain ⟨h5, M5, f5, A5, F5, K5⟩ := s_keys99 A4 I4 hS2 (Q2.fk F4) (K := fun h3  => wtv (w32 (((i + 1 : Nat) : Int) + 1)) (fun x4 => (f_Md_keys_L78 (fun h5  => f_Md_keys_J183 75 h5) 75 n) h3 x4)) hi K4
        rw [if_pos g, f5, wtv, w32_n (i + 1) (by omega)]
        exact ⟨(h5, ((i + 1 + 1 : Nat) : Int)), ⟨rfl, M5, A5, F4.tr F5, K5⟩, rfl⟩
      · left
        rw [if_neg g]
        exact fin h4 M4 i A4 F4 (by omega) K4 (Or.inl g)
    · obtain ⟨h4, r⟩ := b
      obtain ⟨hr_, M4, A4_, F4, K4⟩ := hb
      have hr : r = ((60 + 1 : Nat) : Int) := hr_
      subst hr
      show RV c p L M2 0 (f_Md_keys_L78 _ 75 (n + 1) h4 _) d 0
      rw [f_Md_keys_L78, if_pos (by omega)]
      exact fin h4 M4 60 A4_ F4 (by omega) K4 (Or.inr rfl)
  unfold f_Md_keys
  rw [chk_t B.T, s_Md_spent A I, bndT_ok (by decide)]
  by_cases g2 : nS t ≤ 20000
  · rw [if_pos g2, if_pos rfl]; exact j 0 (by decide) (fun _ => g2)
  · rw [if_neg g2, if_neg (by decide)]; exact j 1 (by decide) (fun q => absurd q (by decide))
end
