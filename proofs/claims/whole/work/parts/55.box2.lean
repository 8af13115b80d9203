/-! TOLD ALIKE: all but where bars stand and what they made -/
def Sq (t u : tT) : Prop := nb t = nb u ∧ nr t = nr u ∧ ne t = ne u ∧ we t = we u ∧ pl t = pl u ∧ po t = po u ∧ (∀ b, 0 ≤ b → ps t b = ps u b) ∧ (∀ r, 0 ≤ r → rb t r = rb u r) ∧ (∀ r, 0 ≤ r → rf t r = rf u r) ∧ (∀ r, 0 ≤ r → rt t r = rt u r) ∧ (∀ r, 0 ≤ r → rn t r = rn u r) ∧ (∀ r f, 0 ≤ r → 0 ≤ f → fb t r f = fb u r f) ∧ (∀ r f, 0 ≤ r → 0 ≤ f → fp t r f = fp u r f) ∧ (∀ r f, 0 ≤ r → 0 ≤ f → fn t r f = fn u r f) ∧ t 0 = u 0
theorem Sq.e1 {t u : tT} (B : Sq t u) : nb t = nb u := B.1
theorem Sq.e2 {t u : tT} (B : Sq t u) : nr t = nr u := B.2.1
theorem Sq.e3 {t u : tT} (B : Sq t u) : ne t = ne u := B.2.2.1
theorem Sq.e4 {t u : tT} (B : Sq t u) : we t = we u := B.2.2.2.1
theorem Sq.e5 {t u : tT} (B : Sq t u) : pl t = pl u := B.2.2.2.2.1
theorem Sq.e6 {t u : tT} (B : Sq t u) : po t = po u := B.2.2.2.2.2.1
theorem Sq.e7 {t u : tT} (B : Sq t u) : ∀ b, 0 ≤ b → ps t b = ps u b := B.2.2.2.2.2.2.1
theorem Sq.e8 {t u : tT} (B : Sq t u) : ∀ r, 0 ≤ r → rb t r = rb u r := B.2.2.2.2.2.2.2.1
theorem Sq.e9 {t u : tT} (B : Sq t u) : ∀ r, 0 ≤ r → rf t r = rf u r := B.2.2.2.2.2.2.2.2.1
theorem Sq.e10 {t u : tT} (B : Sq t u) : ∀ r, 0 ≤ r → rt t r = rt u r := B.2.2.2.2.2.2.2.2.2.1
theorem Sq.e11 {t u : tT} (B : Sq t u) : ∀ r, 0 ≤ r → rn t r = rn u r := B.2.2.2.2.2.2.2.2.2.2.1
theorem Sq.e12 {t u : tT} (B : Sq t u) : ∀ r f, 0 ≤ r → 0 ≤ f → fb t r f = fb u r f := B.2.2.2.2.2.2.2.2.2.2.2.1
theorem Sq.e13 {t u : tT} (B : Sq t u) : ∀ r f, 0 ≤ r → 0 ≤ f → fp t r f = fp u r f := B.2.2.2.2.2.2.2.2.2.2.2.2.1
theorem Sq.e14 {t u : tT} (B : Sq t u) : ∀ r f, 0 ≤ r → 0 ≤ f → fn t r f = fn u r f := B.2.2.2.2.2.2.2.2.2.2.2.2.2.1
theorem Sq.e15 {t u : tT} (B : Sq t u) : t 0 = u 0 := B.2.2.2.2.2.2.2.2.2.2.2.2.2.2
theorem Sq.refl (t : tT) : Sq t t := ⟨rfl, rfl, rfl, rfl, rfl, rfl, fun _ _ => rfl, fun _ _ => rfl, fun _ _ => rfl, fun _ _ => rfl, fun _ _ => rfl, fun _ _ _ _ => rfl, fun _ _ _ _ => rfl, fun _ _ _ _ => rfl, rfl⟩
theorem Sq.symm {t u : tT} (q : Sq t u) : Sq u t := ⟨q.e1.symm, q.e2.symm, q.e3.symm, q.e4.symm, q.e5.symm, q.e6.symm, fun b h => (q.e7 b h).symm, fun b h => (q.e8 b h).symm, fun b h => (q.e9 b h).symm, fun b h => (q.e10 b h).symm, fun b h => (q.e11 b h).symm, fun b f h g => (q.e12 b f h g).symm, fun b f h g => (q.e13 b f h g).symm, fun b f h g => (q.e14 b f h g).symm, q.e15.symm⟩
theorem Sq.trans {t u w : tT} (q : Sq t u) (r : Sq u w) : Sq t w := ⟨q.e1.trans r.e1, q.e2.trans r.e2, q.e3.trans r.e3, q.e4.trans r.e4, q.e5.trans r.e5, q.e6.trans r.e6, fun b h => (q.e7 b h).trans (r.e7 b h), fun b h => (q.e8 b h).trans (r.e8 b h), fun b h => (q.e9 b h).trans (r.e9 b h), fun b h => (q.e10 b h).trans (r.e10 b h), fun b h => (q.e11 b h).trans (r.e11 b h), fun b f h g => (q.e12 b f h g).trans (r.e12 b f h g), fun b f h g => (q.e13 b f h g).trans (r.e13 b f h g), fun b f h g => (q.e14 b f h g).trans (r.e14 b f h g), q.e15.trans r.e15⟩
section
variable {t u : tT}
theorem Sq_pw (q : Sq t u) : pw t = pw u := by
  funext n
  induction n with
  | zero => rfl
  | succ n ih => show pw t n * pl t n = pw u n * pl u n; rw [ih, q.e5]
theorem Sq_wg (q : Sq t u) : wg t = wg u := by funext b; unfold wg; rw [Sq_pw q]
theorem Sq_nS (q : Sq t u) : nS t = nS u := by unfold nS; rw [Sq_pw q, q.e1]
theorem Sq_nN (q : Sq t u) : nN t = nN u := by unfold nN; rw [Sq_nS q]
theorem Sq_nK (q : Sq t u) : nK t = nK u := by unfold nK; rw [q.e1]
theorem Sq_sd (q : Sq t u) : sd t = sd u := by
  funext row n
  induction n with
  | zero => rfl
  | succ n ih => show sd t row n + row n * pw t n = sd u row n + row n * pw u n; rw [ih, Sq_pw q]
theorem Sq_st (q : Sq t u) : st t = st u := by funext row; unfold st; rw [Sq_sd q, q.e1]
theorem Sq_dg (q : Sq t u) : dg t = dg u := by funext s b; unfold dg; rw [Sq_wg q, q.e5]
theorem Sq_sf (q : Sq t u) : sf t = sf u := by funext v; unfold sf; rw [Sq_wg q]
theorem Sq_hR (q : Sq t u) (row : Int → Int) {r : Int} (h : 0 ≤ r) : hR t row r = hR u row r := by
  unfold hR
  rw [q.e11 r h]
  exact allN_congr fun f h0 _ => by unfold fT; rw [q.e12 r f h h0, q.e13 r f h h0, q.e14 r f h h0]
theorem Sq_mc (q : Sq t u) (b f w : Int) {r : Int} (h : 0 ≤ r) : mc t b f w r = mc u b f w r := by unfold mc; rw [q.e8 r h, q.e9 r h, q.e10 r h]
theorem Sq_rld (q : Sq t u) : rld t = rld u := by funext b f w; unfold rld; rw [q.e2]; exact anyN_congr fun r h0 _ => Sq_mc q b f w h0
theorem Sq_hld (q : Sq t u) : hld t = hld u := by funext row b f w; unfold hld; rw [q.e2]; exact anyN_congr fun r h0 _ => by rw [Sq_mc q b f w h0, Sq_hR q row h0]
theorem Sq_why (q : Sq t u) : why t = why u := by funext x X row wn b up; unfold why; rw [q.e1, q.e5, q.e3, Sq_hld q, Sq_rld q]
theorem Sq_go (q : Sq t u) : go t = go u := by funext x X wn s v; unfold go; rw [Sq_why q, Sq_dg q]
theorem Sq_th (q : Sq t u) : th t = th u := by funext x X wn s v; unfold th; rw [Sq_go q, Sq_sf q]
theorem Sq_nxB (q : Sq t u) : nxB t = nxB u := by funext x X wn s v; unfold nxB; rw [Sq_go q, Sq_sf q, Sq_nS q]
theorem Sq_abl (q : Sq t u) : abl t = abl u := by funext row v; unfold abl; rw [q.e5, q.e3]
theorem Sq_shu (q : Sq t u) : shu t = shu u := by funext row v; unfold shu; rw [Sq_rld q, Sq_hld q]
theorem Sq_WS (q : Sq t u) (W : WS t) : WS u := by
  obtain ⟨a1, a2, a3, a4, a5, a6, a7⟩ := W
  rw [q.e1] at a1; rw [q.e2] at a2; rw [q.e3] at a3; rw [q.e4] at a4; rw [q.e15] at a5
  refine ⟨a1, a2, a3, a4, a5, fun b h0 h1 => ?_, fun r h0 h1 => ?_⟩
  · have := a6 b h0 (by rw [q.e1]; exact h1)
    rw [q.e5, q.e6, q.e7 b h0] at this
    exact this
  · obtain ⟨b1, b2, b3, b4, b5, b6⟩ := a7 r h0 (by rw [q.e2]; exact h1)
    rw [q.e8 r h0, q.e1] at b1
    rw [q.e9 r h0, q.e5, q.e8 r h0] at b2
    rw [q.e10 r h0, q.e5, q.e8 r h0] at b3
    rw [q.e10 r h0, q.e9 r h0] at b4
    rw [q.e11 r h0] at b5
    refine ⟨b1, b2, b3, b4, b5, fun f g0 g1 => ?_⟩
    have := b6 f g0 (by rw [q.e11 r h0]; exact g1)
    rw [q.e12 r f h0 g0, q.e13 r f h0 g0, q.e14 r f h0 g0, q.e1] at this
    exact this
end
/-! THE CLASS'S BOXES -/
/-- the box 5 holds what t tells -/
def BR5 (M : aM) (t : tT) : Prop := (M 5 1 = t 0 ∧ M 5 2 = nb t ∧ M 5 3 = nr t ∧ M 5 4 = ne t ∧ M 5 5 = we t) ∧
  (∀ b, 0 ≤ b → b < nb t → M 6 b = pl t b ∧ M 7 b = ps t b ∧ M 8 b = po t b ∧ M 9 b = pa t b ∧ M 10 b = md t b) ∧
  (∀ r, 0 ≤ r → r < nr t → M 11 r = rb t r ∧ M 12 r = rf t r ∧ M 13 r = rt t r ∧ M 14 r = rn t r ∧ ∀ f, 0 ≤ f → f < rn t r → M 15 (4 * r + f) = fb t r f ∧ M 16 (4 * r + f) = fp t r f ∧ M 17 (4 * r + f) = fn t r f)
theorem BH.of5 {h : mH} {c : Int} {p L : Int → Int} {M : aM} (A : At h c p L M) {t : tT} (R : BR5 M t) : BH h 5 t := by
  have B := A.b5
  obtain ⟨⟨r1, r2, r3, r4, r5⟩, rB, rR⟩ := R
  refine ⟨?_, ?_, ?_, ?_, ?_, ?_, ?_, ?_, fun b g0 g1 => ?_, ?_, ?_, fun b g0 g1 => ?_, ?_, ?_, fun b g0 g1 => ?_, ?_, ?_, fun b g0 g1 => ?_, ?_, ?_, fun b g0 g1 => ?_, ?_, ?_, fun b g0 g1 => ?_, ?_, ?_, fun b g0 g1 => ?_, ?_, ?_, fun b g0 g1 => ?_, ?_, ?_, fun b g0 g1 => ?_, ?_, ?_, fun b f g0 g1 g2 g3 => ?_, ?_, ?_, fun b f g0 g1 g2 g3 => ?_, ?_, ?_, fun b f g0 g1 g2 g3 => ?_⟩ <;> simp only [B]
  · exact r1
  · exact r2
  · exact r3
  · exact r4
  · exact r5
  · exact (rB b g0 g1).1
  · exact (rB b g0 g1).2.1
  · exact (rB b g0 g1).2.2.1
  · exact (rB b g0 g1).2.2.2.1
  · exact (rB b g0 g1).2.2.2.2
  · exact (rR b g0 g1).1
  · exact (rR b g0 g1).2.1
  · exact (rR b g0 g1).2.2.1
  · exact (rR b g0 g1).2.2.2.1
  · exact ((rR b g0 g1).2.2.2.2 f g2 g3).1
  · exact ((rR b g0 g1).2.2.2.2 f g2 g3).2.1
  · exact ((rR b g0 g1).2.2.2.2 f g2 g3).2.2
theorem BR5.eq {M M' : aM} {t : tT} (R : BR5 M t) (h : ∀ v, 5 ≤ v → v ≤ 17 → M' v = M v) : BR5 M' t := by
  unfold BR5 at R ⊢
  rw [h 5 (by decide) (by decide), h 6 (by decide) (by decide), h 7 (by decide) (by decide), h 8 (by decide) (by decide), h 9 (by decide) (by decide), h 10 (by decide) (by decide), h 11 (by decide) (by decide), h 12 (by decide) (by decide), h 13 (by decide) (by decide), h 14 (by decide) (by decide), h 15 (by decide) (by decide), h 16 (by decide) (by decide), h 17 (by decide) (by decide)]
  exact R
/-- the box 18 holds what t tells -/
def BR18 (M : aM) (t : tT) : Prop := (M 18 1 = t 0 ∧ M 18 2 = nb t ∧ M 18 3 = nr t ∧ M 18 4 = ne t ∧ M 18 5 = we t) ∧
  (∀ b, 0 ≤ b → b < nb t → M 19 b = pl t b ∧ M 20 b = ps t b ∧ M 21 b = po t b ∧ M 22 b = pa t b ∧ M 23 b = md t b) ∧
  (∀ r, 0 ≤ r → r < nr t → M 24 r = rb t r ∧ M 25 r = rf t r ∧ M 26 r = rt t r ∧ M 27 r = rn t r ∧ ∀ f, 0 ≤ f → f < rn t r → M 28 (4 * r + f) = fb t r f ∧ M 29 (4 * r + f) = fp t r f ∧ M 30 (4 * r + f) = fn t r f)
theorem BH.of18 {h : mH} {c : Int} {p L : Int → Int} {M : aM} (A : At h c p L M) {t : tT} (R : BR18 M t) : BH h 18 t := by
  have B := A.b18
  obtain ⟨⟨r1, r2, r3, r4, r5⟩, rB, rR⟩ := R
  refine ⟨?_, ?_, ?_, ?_, ?_, ?_, ?_, ?_, fun b g0 g1 => ?_, ?_, ?_, fun b g0 g1 => ?_, ?_, ?_, fun b g0 g1 => ?_, ?_, ?_, fun b g0 g1 => ?_, ?_, ?_, fun b g0 g1 => ?_, ?_, ?_, fun b g0 g1 => ?_, ?_, ?_, fun b g0 g1 => ?_, ?_, ?_, fun b g0 g1 => ?_, ?_, ?_, fun b g0 g1 => ?_, ?_, ?_, fun b f g0 g1 g2 g3 => ?_, ?_, ?_, fun b f g0 g1 g2 g3 => ?_, ?_, ?_, fun b f g0 g1 g2 g3 => ?_⟩ <;> simp only [B]
  · exact r1
  · exact r2
  · exact r3
  · exact r4
  · exact r5
  · exact (rB b g0 g1).1
  · exact (rB b g0 g1).2.1
  · exact (rB b g0 g1).2.2.1
  · exact (rB b g0 g1).2.2.2.1
  · exact (rB b g0 g1).2.2.2.2
  · exact (rR b g0 g1).1
  · exact (rR b g0 g1).2.1
  · exact (rR b g0 g1).2.2.1
  · exact (rR b g0 g1).2.2.2.1
  · exact ((rR b g0 g1).2.2.2.2 f g2 g3).1
  · exact ((rR b g0 g1).2.2.2.2 f g2 g3).2.1
  · exact ((rR b g0 g1).2.2.2.2 f g2 g3).2.2
theorem BR18.eq {M M' : aM} {t : tT} (R : BR18 M t) (h : ∀ v, 18 ≤ v → v ≤ 30 → M' v = M v) : BR18 M' t := by
  unfold BR18 at R ⊢
  rw [h 18 (by decide) (by decide), h 19 (by decide) (by decide), h 20 (by decide) (by decide), h 21 (by decide) (by decide), h 22 (by decide) (by decide), h 23 (by decide) (by decide), h 24 (by decide) (by decide), h 25 (by decide) (by decide), h 26 (by decide) (by decide), h 27 (by decide) (by decide), h 28 (by decide) (by decide), h 29 (by decide) (by decide), h 30 (by decide) (by decide)]
  exact R
section
variable {h : mH} {c : Int} {p L : Int → Int} {M : aM}
theorem sd_full {t : tT} {row : Int → Int} : ∀ {n : Nat}, (∀ k : Nat, k < n → row k = pl t k - 1) → sd t row n = pw t n - 1
  | 0, _ => rfl
  | n + 1, h => by
    show sd t row n + row n * pw t n = pw t n * pl t n - 1
    rw [sd_full (fun k hk => h k (by omega)), h n (by omega), Int.sub_mul, Int.one_mul, Int.mul_comm (pl t n)]
    omega
theorem sd_null {t : tT} {row : Int → Int} : ∀ {n : Nat}, (∀ k : Nat, k < n → row k = 0) → sd t row n = 0
  | 0, _ => rfl
  | n + 1, h => by
    show sd t row n + row n * pw t n = 0
    rw [sd_null (fun k hk => h k (by omega)), h n (by omega), Int.zero_mul, Int.add_zero]
/-- one on: the row behind -/
theorem sd_next {t : tT} {r1 r2 : Int → Int} {i : Nat} (h1 : ∀ k : Nat, k < i → r1 k = pl t k - 1) (h2 : ∀ k : Nat, k < i → r2 k = 0) (h3 : r2 i = r1 i + 1) : ∀ {n : Nat}, i < n → (∀ k : Nat, i < k → k < n → r2 k = r1 k) → sd t r2 n = sd t r1 n + 1
  | 0, h, _ => absurd h (by omega)
  | n + 1, h, h4 => by
    show sd t r2 n + r2 n * pw t n = sd t r1 n + r1 n * pw t n + 1
    by_cases e : i = n
    · subst e
      rw [sd_null h2, sd_full h1, h3, Int.add_mul]; omega
    · rw [sd_next h1 h2 h3 (by omega) (fun k g0 g1 => h4 k g0 (by omega)), h4 n (by omega) (by omega)]; omega
/-- a row of places goes on by one stand: the array a (43 or 74) -/
theorem s_Box_advance (A : At h c p L M) {t : tT} (R : BR5 M t) (W : WS t) {a : Int} (ha : a = 43 ∨ a = 74) {s : Int} (hs0 : 0 ≤ s) (hs1 : s < nS t) (hr : ∀ b, 0 ≤ b → b < nb t → M a b = dg t s b) :
    ∃ h' M', f_Box_advance h 5 a = some ((3, 0), h') ∧ At h' c p L M' ∧ Fr [a] M M' ∧ (s + 1 < nS t → ∀ b, 0 ≤ b → b < nb t → M' a b = dg t (s + 1) b) := by
  have hn := W.1
  have hd : ∀ b, 0 ≤ b → b < nb t → 0 ≤ dg t s b ∧ dg t s b < pl t b := dg_rw W s
  have ga : (1 ≤ a ∧ a ≤ 99 ∧ a ∉ gwL ∧ 21 ≤ kd a ∧ a ≠ 32 ∧ a ≠ 31) ∧ (a < 5 ∨ 17 < a) := by rcases ha with rfl | rfl <;> decide +kernel
  have hTa : ∀ {h' : mH} {M' : aM}, At h' c p L M' → hpT h' a = 21 ∧ hpL h' a = 9 ∧ ∀ i, hpV h' a i = M' a i := fun A' => by
    rcases ha with rfl | rfl
    · have := A'.gr; simp only [this]; simp
    · have := A'.fi; simp only [this]; simp
  unfold f_Box_advance
  refine loop_r (F := fun n (b : mH × Int) => f_Box_advance_L2 _ 5 a n b.1 b.2) (P := fun o => ∃ h' M', o = some ((3, 0), h') ∧ At h' c p L M' ∧ Fr [a] M M' ∧ (s + 1 < nS t → ∀ b, 0 ≤ b → b < nb t → M' a b = dg t (s + 1) b)) (fun i b => b.2 = (i : Int) ∧ (∀ k : Nat, k < i → dg t s k = pl t k - 1) ∧ ∃ M', At b.1 c p L M' ∧ Fr [a] M M' ∧ (∀ k : Nat, k < i → M' a k = 0) ∧ ∀ j : Int, i ≤ j → j < nb t → M' a j = dg t s j) (nb t).toNat (fun i hi b hb n => ?_) (fun b hb n => ?_) (i := 0) (b := (h, 0)) ⟨rfl, fun k hk => by omega, M, A, Fr.rf _ _, fun k hk => by omega, fun j g0 g1 => hr j (by omega) g1⟩ (by omega) (by omega)
  · obtain ⟨h1, r⟩ := b
    obtain ⟨hr', hfull, M1, A1, F1, hz, hv⟩ := hb
    have hr' : r = (i : Int) := hr'
    subst hr'
    have A1 : At h1 c p L M1 := A1
    have R1 : BR5 M1 t := R.eq (fun v g0 g1 => F1 v (by simp; omega))
    have B1 := BH.of5 A1 R1
    obtain ⟨a1, a2, a3⟩ := hTa A1
    have hp := W.2.2.2.2.2.1 i (by omega) (by omega)
    have hdi := hd i (by omega) (by omega)
    show (∃ h' M', f_Box_advance_L2 _ 5 a (n + 1) h1 i = some ((3, 0), h') ∧ _) ∨ ∃ b' : mH × Int, _ ∧ f_Box_advance_L2 _ 5 a (n + 1) h1 i = _
    rw [f_Box_advance_L2, chk_t B1.T, B1.s2, if_neg (by omega), chk_t a1, chk_t (by rw [a2]; omega), chk_t B1.T, chk_t B1.T6, chk_t (by rw [B1.L6]; omega), B1.V6 i (by omega) (by omega), a3, hv i (Int.le_refl _) (by omega), w32_id (by omega) (by omega)]
    by_cases g : pl t i - 1 ≤ dg t s i
    · right
      have A2 := A1.aput (v := a) i 0 ga.1.1 ga.1.2.1 ga.1.2.2.1 ga.1.2.2.2.1 ga.1.2.2.2.2.1 ga.1.2.2.2.2.2
      rw [if_pos g, chk_t a1, chk_t (by rw [a2]; omega), wth, wtv, w32_n i (by omega)]
      refine ⟨(hput h1 a i 0, ((i + 1 : Nat) : Int)), ⟨rfl, fun k hk => ?_, _, A2, F1.pu (by simp), fun k hk => ?_, fun j g0 g1 => ?_⟩, rfl⟩
      · by_cases e : k = i
        · rw [e]; omega
        · exact hfull k (by omega)
      · by_cases e : (k : Int) = i
        · rw [e, mup_eq]
        · rw [mup_ne (Or.inr e)]; exact hz k (by omega)
      · rw [mup_ne (Or.inr (by omega))]; exact hv j (by omega) g1
    · left
      have A2 := A1.aput (v := a) i (dg t s i + 1) ga.1.1 ga.1.2.1 ga.1.2.2.1 ga.1.2.2.2.1 ga.1.2.2.2.2.1 ga.1.2.2.2.2.2
      rw [if_neg g, chk_t a1, chk_t (by rw [a2]; omega), chk_t a1, chk_t (by rw [a2]; omega), wth, w32_id (by omega) (by omega)]
      refine ⟨_, _, rfl, A2, F1.pu (by simp), fun hs2 b g0 g1 => ?_⟩
      have RWn : RW t (mup M1 a i (dg t s i + 1) a) := fun b g0 g1 => by
        have hpb := W.2.2.2.2.2.1 b g0 g1
        have := hd b g0 g1
        by_cases e : b = i
        · rw [e, mup_eq]; omega
        · rw [mup_ne (Or.inr e)]
          by_cases e2 : b < i
          · have := hz b.toNat (by omega)
            rw [show ((b.toNat : Nat) : Int) = b by omega] at this
            omega
          · rw [hv b (by omega) g1]; omega
      have hst : st t (mup M1 a i (dg t s i + 1) a) = s + 1 := by
        have := sd_next (t := t) (r1 := dg t s) (r2 := mup M1 a i (dg t s i + 1) a) (i := i) hfull (fun k hk => by rw [mup_ne (Or.inr (by omega))]; exact hz k hk) (by rw [mup_eq]) (n := (nb t).toNat) hi (fun k g0 g1 => by rw [mup_ne (Or.inr (by omega))]; exact hv k (by omega) (by omega))
        unfold st
        rw [this]
        show st t (dg t s) + 1 = s + 1
        rw [st_dg W hs0 hs1]
      exact dg_eq_row W RWn hst g0 g1
  · obtain ⟨h1, r⟩ := b
    obtain ⟨hr', hfull, M1, A1, F1, hz, hv⟩ := hb
    have hr' : r = ((nb t).toNat : Int) := hr'
    subst hr'
    have A1 : At h1 c p L M1 := A1
    have R1 : BR5 M1 t := R.eq (fun v g0 g1 => F1 v (by simp; omega))
    have B1 := BH.of5 A1 R1
    refine ⟨h1, M1, ?_, A1, F1, fun hs2 => ?_⟩
    · show f_Box_advance_L2 _ 5 a (n + 1) h1 _ = _
      rw [f_Box_advance_L2, chk_t B1.T, B1.s2, if_pos (by omega)]
    · exfalso
      have := sd_full hfull
      have e : st t (dg t s) = s := st_dg W hs0 hs1
      unfold st at e
      rw [this] at e
      unfold nS at hs2
      omega
end
