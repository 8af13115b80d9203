/-! THE REFERENCE'S fewestOf -/
theorem mup_self (M : aM) (v i x : Int) : mup M v i x v = u1 (M v) i x := by
  funext j
  by_cases e : j = i
  · rw [e, mup_eq, u1_eq]
  · rw [mup_ne (Or.inr e), u1_ne e]
section
variable {h : mH} {c : Int} {p L : Int → Int} {M : aM} {t : tT}
abbrev FW : aM → aM → Prop := Fs [82, 85, 88] 75 [24]
theorem Fs.fw {N : aM} (F : FW M N) : FM M N := F.mono (by decide) (by decide)
def NV (M : aM) (t : tT) (b z r : Int) : Prop := DV (nF t) b (nK t) (nN t) z (M 88) (M 85) (M 75 24) r
def SPI (g : Int) (M M' : aM) (t : tT) (b z r e : Int) : Prop := FW M M' ∧ NV M' t b z r ∧ M 75 24 ≤ M' 75 24 ∧ (∀ i : Int, 0 ≤ i → i < M 75 24 → M' 85 i = M 85 i) ∧ (e = 0 ∨ e = 1) ∧ (g = 0 → e = 0 → ∀ s : Int, 0 ≤ s → s < nS t → M' 88 s ≤ r) ∧ ∀ i v : Int, 0 ≤ i → i < M 75 24 → cl (nF t) b (M 88) (M 85 i) v → cl (nF t) b (M' 88) (M 85 i) v
theorem s_spreads (A : At h c p L M) (I : RI M t) (hS2 : nS t ≤ 20000) {b z r j g : Int} (V : NV M t b z r) (hr : r ≤ 20000) (T : g = 0 → ∀ s : Int, 0 ≤ s → s < nS t → M 88 s ≤ r) (j0 : 0 ≤ j) (j1 : j < M 75 24) : ∃ h' M' e, f_Md_spreads h 75 (M 85 j) r b (wnk t) = some ((0, e), h') ∧ At h' c p L M' ∧ SPI g M M' t b z r e ∧ ∀ v : Int, 0 ≤ v → v < nK t → cl (nF t) b (M' 88) (M 85 j) v := by
  have W := I.2.1
  have hn := nN_eq W
  have hk := nK_rng W
  have hk2 : ((nK t : Nat) : Int) = 2 * nb t := by unfold nK; have := W.1; omega
  have N : NX (nF t) (nK t) (nN t) := NX_F W false X0 (wS t)
  have hr0 := V.1.2.1
  obtain ⟨hu, hur⟩ := V.2.1 j j0 j1
  unfold f_Md_spreads
  refine loop_r (F := fun n (b' : mH × Int × Int) => f_Md_spreads_L6 75 (M 85 j) r b (wnk t) n b'.1 b'.2.1 b'.2.2) (P := fun o => ∃ h' M' e, o = some ((0, e), h') ∧ At h' c p L M' ∧ SPI g M M' t b z r e ∧ ∀ v : Int, 0 ≤ v → v < nK t → cl (nF t) b (M' 88) (M 85 j) v) (fun v b' => b'.2.2 = (v : Int) ∧ ∃ M', At b'.1 c p L M' ∧ SPI g M M' t b z r b'.2.1 ∧ ∀ w : Int, 0 ≤ w → w < (v : Int) → cl (nF t) b (M' 88) (M 85 j) w) (nK t) (fun v hv b' hb n => ?_) (fun b' hb n => ?_) (i := 0) (b := (h, 0, 0)) ⟨rfl, M, A, ⟨Fs.rf _ _ _ _, V, Int.le_refl _, fun _ _ _ => rfl, Or.inl rfl, fun q _ => T q, fun _ _ _ _ q => q⟩, fun w g0 g1 => by omega⟩ (by omega) (by omega)
  · obtain ⟨h1, e, r1⟩ := b'
    obtain ⟨hr_, M1, A1_, S1_, C1_⟩ := hb
    have hr1 : r1 = (v : Int) := hr_
    have A1 : At h1 c p L M1 := A1_
    have S1 : SPI g M M1 t b z r e := S1_
    have Q1 : ∀ w : Int, 0 ≤ w → w < (v : Int) → cl (nF t) b (M1 88) (M 85 j) w := C1_
    clear hr_ A1_ S1_ C1_
    subst hr1
    right
    obtain ⟨F1, V1, l1_, o1, e1, t1, c1⟩ := S1
    have I1 := I.fm F1.fw
    have B1 := I1.mh A1
    obtain ⟨h2, M2, f2, A2, F2⟩ := s_thn A1 I1 (s := M 85 j) (v := v) hu.1 (by omega) (by omega) (by omega)
    have F2' : FW M M2 := F1.tr ((F2.fs (d := 75) (is := []) (by decide)).mono (by decide) (fun _ q => by cases q))
    have I2 := I.fm F2'.fw
    have C2 := A2.md
    have q88 : M2 88 = M1 88 := F2 88 (by decide)
    have q85 : M2 85 = M1 85 := F2 85 (by decide)
    have q24 : M2 75 24 = M1 75 24 := by rw [F2 75 (by decide)]
    have V2 : NV M2 t b z r := by unfold NV; rw [q88, q85, q24]; exact V1
    have hu1 : M1 88 (M 85 j) = r := by have := (V1.2.1 j j0 (by omega)).2; rw [o1 j j0 j1] at this; exact this
    have j135 : ∀ (h3 : mH) (M3 : aM) (e3 : Int), At h3 c p L M3 → FW M M3 → NV M3 t b z r → M1 75 24 ≤ M3 75 24 → (∀ i : Int, 0 ≤ i → i < M1 75 24 → M3 85 i = M1 85 i) → (e3 = 0 ∨ e3 = 1) → (g = 0 → e3 = 0 → ∀ s : Int, 0 ≤ s → s < nS t → M3 88 s ≤ r) → (∀ u w : Int, M1 88 u ≤ r → 0 ≤ M1 88 u → cl (nF t) b (M1 88) u w → cl (nF t) b (M3 88) u w) → cl (nF t) b (M3 88) (M 85 j) v → ∃ b' : mH × Int × Int, (b'.2.2 = ((v + 1 : Nat) : Int) ∧ ∃ M', At b'.1 c p L M' ∧ SPI g M M' t b z r b'.2.1 ∧ ∀ w : Int, 0 ≤ w → w < ((v + 1 : Nat) : Int) → cl (nF t) b (M' 88) (M 85 j) w) ∧ f_Md_spreads_J135 (f_Md_spreads_L6 75 (M 85 j) r b (wnk t) n) e3 v h3 = f_Md_spreads_L6 75 (M 85 j) r b (wnk t) n b'.1 b'.2.1 b'.2.2 := fun h3 M3 e3 A3 F3 V3 l3 o3 g3 t3 c3 n3 => by
      refine ⟨(h3, e3, ((v + 1 : Nat) : Int)), ⟨rfl, M3, A3, ⟨F3, V3, by omega, fun i i0 i1 => by rw [o3 i i0 (by omega)]; exact o1 i i0 i1, g3, t3, fun i w i0 i1 q => ?_⟩, fun w w0 w1 => ?_⟩, ?_⟩
      · have q2 := (V1.2.1 i i0 (by omega)).2
        rw [o1 i i0 i1] at q2
        exact c3 _ _ (by omega) (by omega) (c1 i w i0 i1 q)
      · by_cases ew : w = v
        · rw [ew]; exact n3
        · exact c3 _ _ (by omega) (by omega) (Q1 w w0 (by omega))
      · unfold f_Md_spreads_J135
        rw [wtv, w32_n v (by omega)]
    have own : w32 (Int.tdiv (v : Int) 2) = v / 2 := by rw [Int.tdiv_eq_ediv_of_nonneg (by omega), w32_id (by omega) (by omega)]
    show ∃ b' : mH × Int × Int, _ ∧ f_Md_spreads_L6 75 (M 85 j) r b (wnk t) (n + 1) h1 e v = _
    rw [f_Md_spreads_L6, chk_t B1.T, s_Md_steps B1 W, bndT_ok (by decide), if_neg (by omega), chk_t B1.T, f2, bndT_ok (by decide)]
    have skip : cl (nF t) b (M1 88) (M 85 j) v → ∃ b' : mH × Int × Int, (b'.2.2 = ((v + 1 : Nat) : Int) ∧ ∃ M', At b'.1 c p L M' ∧ SPI g M M' t b z r b'.2.1 ∧ ∀ w : Int, 0 ≤ w → w < ((v + 1 : Nat) : Int) → cl (nF t) b (M' 88) (M 85 j) w) ∧ f_Md_spreads_J135 (f_Md_spreads_L6 75 (M 85 j) r b (wnk t) n) e v h2 = f_Md_spreads_L6 75 (M 85 j) r b (wnk t) n b'.1 b'.2.1 b'.2.2 := fun q => by
      exact j135 h2 M2 e A2 F2' V2 (by omega) (fun i _ _ => by rw [q85]) e1 (fun a b_ => by rw [q88]; exact t1 a b_) (fun u w _ _ k => by rw [q88]; exact k) (by rw [q88]; exact q)
    by_cases ex : nF t (M 85 j) v = -1
    · rw [if_pos ex]
      exact skip (fun q => absurd ex q)
    · rw [if_neg ex, chk_t (by decide), own]
      have hx := N (M 85 j) v hu.1 hu.2 (by omega) (by omega) ex
      have upd : (M1 88 (nF t (M 85 j) v) = -1 ∨ r + ownV b v < M1 88 (nF t (M 85 j) v)) → ∃ b' : mH × Int × Int, (b'.2.2 = ((v + 1 : Nat) : Int) ∧ ∃ M', At b'.1 c p L M' ∧ SPI g M M' t b z r b'.2.1 ∧ ∀ w : Int, 0 ≤ w → w < ((v + 1 : Nat) : Int) → cl (nF t) b (M' 88) (M 85 j) w) ∧ f_Md_spreads_J78 (f_Md_spreads_L6 75 (M 85 j) r b (wnk t) n) 75 r e v (nF t (M 85 j) v) (r + ownV b v) h2 = f_Md_spreads_L6 75 (M 85 j) r b (wnk t) n b'.1 b'.2.1 b'.2.2 := fun q => by
        obtain ⟨m0, u0_, u1_⟩ := DV_upd N V1 hu hu1 (v := (v : Int)) ⟨by omega, by omega⟩ ex q
        obtain ⟨d1, d2, d3, d4⟩ := DI_upd N V1.1 hu hu1 (v := (v : Int)) ⟨by omega, by omega⟩ ex q
        have A3 := A2.aput (v := 88) (nF t (M 85 j) v) (r + ownV b v) (by decide) (by decide) (by decide) (by decide +kernel) (by decide) (by decide)
        have C3 := A3.md
        have k24 : mup M2 88 (nF t (M 85 j) v) (r + ownV b v) 75 24 = M1 75 24 := by rw [mup_ne (Or.inl (by decide))]; exact q24
        have k88 : mup M2 88 (nF t (M 85 j) v) (r + ownV b v) 88 = u1 (M1 88) (nF t (M 85 j) v) (r + ownV b v) := by rw [mup_self, q88]
        have k85 : mup M2 88 (nF t (M 85 j) v) (r + ownV b v) 85 = M1 85 := by rw [mup_fn (by decide)]; exact q85
        have F3 : FW M (mup M2 88 (nF t (M 85 j) v) (r + ownV b v)) := F2'.pu (by decide) (by decide)
        unfold f_Md_spreads_J78
        simp only [C2]
        rw [chk_t trivial, chk_t trivial, chk_t (by omega), wth]
        generalize hput h2 88 (nF t (M 85 j) v) (r + ownV b v) = h3 at A3 C3 ⊢
        generalize mup M2 88 (nF t (M 85 j) v) (r + ownV b v) = M3 at A3 C3 F3 k24 k88 k85
        unfold f_Md_spreads_J98 f_Md_spreads_J103
        rcases own_01 b v with o | o
        · obtain ⟨m1, V3⟩ := u0_ o
          have A4 := A3.aput (v := 85) (M3 75 24) (nF t (M 85 j) v) (by decide) (by decide) (by decide) (by decide +kernel) (by decide) (by decide)
          have C4 := A4.md
          have A5 := A4.fput (v := 75) (i := 24) (M3 75 24 + 1) (by decide) (by decide) (by decide) (by decide +kernel) (by decide)
          have x24 : mup M3 85 (M3 75 24) (nF t (M 85 j) v) 75 24 = M3 75 24 := mup_ne (Or.inl (by decide))
          have fin : ∀ e3, (e3 = 0 ∨ e3 = 1) → (e3 = 0 → e = 0) → ∃ b' : mH × Int × Int, (b'.2.2 = ((v + 1 : Nat) : Int) ∧ ∃ M', At b'.1 c p L M' ∧ SPI g M M' t b z r b'.2.1 ∧ ∀ w : Int, 0 ≤ w → w < ((v + 1 : Nat) : Int) → cl (nF t) b (M' 88) (M 85 j) w) ∧ f_Md_spreads_J135 (f_Md_spreads_L6 75 (M 85 j) r b (wnk t) n) e3 v (hput (hput h3 85 (M3 75 24) (nF t (M 85 j) v)) 75 24 (M3 75 24 + 1)) = f_Md_spreads_L6 75 (M 85 j) r b (wnk t) n b'.1 b'.2.1 b'.2.2 := fun e3 g3 g4 => by
            have y88 : mup (mup M3 85 (M3 75 24) (nF t (M 85 j) v)) 75 24 (M3 75 24 + 1) 88 = u1 (M1 88) (nF t (M 85 j) v) (r + ownV b v) := by rw [mup_fn (by decide), mup_fn (by decide)]; exact k88
            have y85 : mup (mup M3 85 (M3 75 24) (nF t (M 85 j) v)) 75 24 (M3 75 24 + 1) 85 = u1 (M1 85) (M1 75 24) (nF t (M 85 j) v) := by rw [mup_fn (by decide), mup_self, k85, k24]
            have y24 : mup (mup M3 85 (M3 75 24) (nF t (M 85 j) v)) 75 24 (M3 75 24 + 1) 75 24 = M1 75 24 + 1 := by rw [mup_eq, k24]
            refine j135 _ _ e3 A5 ((F3.pu (by decide) (by decide)).ps (by decide)) ?_ ?_ (fun i i0 i1 => ?_) g3 (fun a b_ s s0 s1 => ?_) (fun u w a b_ k => ?_) ?_
            · unfold NV; rw [y88, y85, y24]; exact V3
            · rw [y24]; omega
            · rw [y85, u1_ne (by omega)]
            · rw [y88]
              by_cases es : s = nF t (M 85 j) v
              · rw [es, u1_eq]; omega
              · rw [u1_ne es]; exact t1 a (g4 b_) s s0 s1
            · rw [y88]; exact (d2 u w b_ a).2 k
            · rw [y88]; exact d3
          have r0 : r + ownV b v ≤ r := by omega
          have store : ∀ e3, (e3 = 0 ∨ e3 = 1) → (e3 = 0 → e = 0) → ∃ b' : mH × Int × Int, (b'.2.2 = ((v + 1 : Nat) : Int) ∧ ∃ M', At b'.1 c p L M' ∧ SPI g M M' t b z r b'.2.1 ∧ ∀ w : Int, 0 ≤ w → w < ((v + 1 : Nat) : Int) → cl (nF t) b (M' 88) (M 85 j) w) ∧ (if r + ownV b v ≤ r then chk (hpT h3 75 = 12) (chk (hpT h3 75 = 12) (chk (hpT h3 (hpV h3 75 23) = 21) (chk (0 ≤ hpV h3 75 24 ∧ hpV h3 75 24 < hpL h3 (hpV h3 75 23)) (wth (hput h3 (hpV h3 75 23) (hpV h3 75 24) (nF t (M 85 j) v)) (fun h1 => chk (hpT h1 75 = 12) (chk (hpT h1 75 = 12) (wth (hput h1 75 24 (w32 ((hpV h1 75 24) + 1))) (fun h2 => f_Md_spreads_J135 (f_Md_spreads_L6 75 (M 85 j) r b (wnk t) n) e3 v h2)))))))) else f_Md_spreads_J135 (f_Md_spreads_L6 75 (M 85 j) r b (wnk t) n) e3 v h3) = f_Md_spreads_L6 75 (M 85 j) r b (wnk t) n b'.1 b'.2.1 b'.2.2 := fun e3 g3 g4 => by
            rw [if_pos r0]
            simp only [C3]
            rw [chk_t trivial, chk_t trivial, chk_t trivial, chk_t (by have := V1.2.2.2.1; have := cnN_rng (fun s => decide (M1 88 s = r)) (nN t); omega), wth]
            simp only [C4]
            rw [chk_t trivial, chk_t trivial, wth, x24, w32_id (by have := V1.2.2.2.1; have := cnN_rng (fun s => decide (M1 88 s = r)) (nN t); omega) (by omega)]
            exact fin e3 g3 g4
          by_cases e0 : e = 0
          · rw [if_pos e0, if_pos r0]; exact store 0 (Or.inl rfl) (fun _ => e0)
          · rw [if_neg e0]; exact store 1 (Or.inr rfl) (fun q => by omega)
        · have V3 := u1_ o
          have r0 : ¬ (r + ownV b v ≤ r) := by omega
          have fin := j135 h3 M3 1 A3 F3 (by unfold NV; rw [k88, k85, k24]; exact V3) (by omega) (fun i _ _ => by rw [k85]) (Or.inr rfl) (fun _ q => absurd q (by decide)) (fun u w a b_ k => by rw [k88]; exact (d2 u w b_ a).2 k) (by rw [k88]; exact d3)
          by_cases e0 : e = 0
          · rw [if_pos e0, if_neg r0, if_neg r0]; exact fin
          · rw [if_neg e0, if_neg r0]; exact fin
      have j50 : ∃ b' : mH × Int × Int, (b'.2.2 = ((v + 1 : Nat) : Int) ∧ ∃ M', At b'.1 c p L M' ∧ SPI g M M' t b z r b'.2.1 ∧ ∀ w : Int, 0 ≤ w → w < ((v + 1 : Nat) : Int) → cl (nF t) b (M' 88) (M 85 j) w) ∧ f_Md_spreads_J50 (f_Md_spreads_L6 75 (M 85 j) r b (wnk t) n) 75 r e v (nF t (M 85 j) v) (r + ownV b v) h2 = f_Md_spreads_L6 75 (M 85 j) r b (wnk t) n b'.1 b'.2.1 b'.2.2 := by
        unfold f_Md_spreads_J50
        simp only [C2]
        rw [chk_t trivial, chk_t trivial, chk_t (by omega), q88]
        by_cases g1 : M1 88 (nF t (M 85 j) v) = -1
        · rw [if_pos g1]; exact upd (Or.inl g1)
        · rw [if_neg g1, chk_t trivial, chk_t trivial, chk_t (by omega)]
          by_cases g2 : r + ownV b v < M1 88 (nF t (M 85 j) v)
          · rw [if_pos g2]; exact upd (Or.inr g2)
          · rw [if_neg g2]
            exact skip (fun _ => ⟨g1, by omega⟩)
      by_cases g1 : (v : Int) / 2 = b
      · have o : ownV b v = 1 := by unfold ownV; rw [if_pos g1]
        rw [o] at j50
        rw [if_pos g1, w32_id (by omega) (by omega)]; exact j50
      · have o : ownV b v = 0 := by unfold ownV; rw [if_neg g1]
        rw [o, Int.add_zero] at j50
        rw [if_neg g1]; exact j50
  · obtain ⟨h1, e, r1⟩ := b'
    obtain ⟨hr_, M1, A1_, S1_, C1_⟩ := hb
    have hr1 : r1 = ((nK t : Nat) : Int) := hr_
    have A1 : At h1 c p L M1 := A1_
    have S1 : SPI g M M1 t b z r e := S1_
    clear hr_ A1_ S1_
    subst hr1
    have I1 := I.fm S1.1.fw
    have B1 := I1.mh A1
    refine ⟨h1, M1, e, ?_, A1, S1, C1_⟩
    show f_Md_spreads_L6 75 (M 85 j) r b (wnk t) (n + 1) h1 e _ = _
    rw [f_Md_spreads_L6, chk_t B1.T, s_Md_steps B1 W, bndT_ok (by decide), if_pos (show 2 * nb t ≤ ((nK t : Nat) : Int) by omega), chk_t S1.2.2.2.2.1]
end
