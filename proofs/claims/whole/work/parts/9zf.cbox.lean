/-! THE CLASS'S box -/
/-- alike in all that is told -/
def AG (u a : tT) : Prop := ∀ j : Int, 0 ≤ j → j < 434 → u j = a j
section
variable {u a : tT}
theorem AG_b (G : AG u a) {b : Int} (b0 : 0 ≤ b) (b1 : b < 9) : pl u b = pl a b ∧ po u b = po a b ∧ ps u b = ps a b ∧ pa u b = pa a b ∧ md u b = md a b := ⟨G _ (by omega) (by omega), G _ (by omega) (by omega), G _ (by omega) (by omega), G _ (by omega) (by omega), G _ (by omega) (by omega)⟩
theorem AG_r (G : AG u a) {r : Int} (r0 : 0 ≤ r) (r1 : r < 24) : rb u r = rb a r ∧ rf u r = rf a r ∧ rt u r = rt a r ∧ rn u r = rn a r ∧ ∀ g : Int, 0 ≤ g → g < 4 → fb u r g = fb a r g ∧ fn u r g = fn a r g ∧ fp u r g = fp a r g := ⟨G _ (by omega) (by omega), G _ (by omega) (by omega), G _ (by omega) (by omega), G _ (by omega) (by omega), fun g g0 g1 => ⟨G _ (by omega) (by omega), G _ (by omega) (by omega), G _ (by omega) (by omega)⟩⟩
theorem AG_n (G : AG u a) : nb u = nb a ∧ nr u = nr a ∧ ne u = ne a ∧ we u = we a ∧ u 0 = a 0 := ⟨G 1 (by decide) (by decide), G 2 (by decide) (by decide), G 3 (by decide) (by decide), G 4 (by decide) (by decide), G 0 (by decide) (by decide)⟩
theorem AG_WS (G : AG u a) (W : WS a) : WS u := by
  obtain ⟨n1, n2, n3, n4, n0⟩ := AG_n G
  obtain ⟨a1, a2, a3, a4, a5, a6, a7⟩ := W
  refine ⟨by rw [n1]; exact a1, by rw [n2]; exact a2, by rw [n3]; exact a3, by rw [n4]; exact a4, by rw [n0]; exact a5, fun b h0 h1 => ?_, fun r h0 h1 => ?_⟩
  · rw [n1] at h1
    obtain ⟨e1, e2, e3, -, -⟩ := AG_b G h0 (show b < 9 by omega)
    rw [e1, e2, e3]; exact a6 b h0 h1
  · rw [n2] at h1
    obtain ⟨e1, e2, e3, e4, e5⟩ := AG_r G h0 (show r < 24 by omega)
    obtain ⟨b1, b2, b3, b4, b5, b6⟩ := a7 r h0 h1
    have ep := (AG_b G b1.1 (show rb a r < 9 by omega)).1
    rw [e1, e2, e3, e4, n1, ep]
    refine ⟨b1, b2, b3, b4, b5, fun g g0 g1 => ?_⟩
    obtain ⟨f1, f2, f3⟩ := e5 g g0 (by omega)
    rw [f1, f2, f3]
    exact b6 g g0 g1
theorem AG_RW (G : AG u a) (W : WS a) (R : RW a (pa a)) : RW u (pa u) := fun b h0 h1 => by
  have hb := W.1
  rw [(AG_n G).1] at h1
  obtain ⟨e1, -, -, e4, -⟩ := AG_b G h0 (show b < 9 by omega)
  rw [e1, e4]; exact R b h0 h1
theorem AG_md (G : AG u a) (W : WS a) {m : Int} (R : MDB a m) : MDB u m := fun b h0 h1 => by
  have hb := W.1
  rw [(AG_n G).1] at h1
  obtain ⟨-, -, -, -, e5⟩ := AG_b G h0 (show b < 9 by omega)
  rw [e5]; exact R b h0 h1
theorem AG_BR (G : AG u a) (W : WS a) {M : aM} {v : Int} (R : BRx M v a) : BRx M v u := by
  obtain ⟨n1, n2, n3, n4, n0⟩ := AG_n G
  obtain ⟨r1, r2, r3⟩ := R
  have w1 := W.1
  have w2 := W.2.1
  refine ⟨by rw [n0, n1, n2, n3, n4]; exact r1, fun b g0 g1 => ?_, fun r g0 g1 => ?_⟩
  · rw [n1] at g1
    obtain ⟨e1, e2, e3, e4, e5⟩ := AG_b G g0 (show b < 9 by omega)
    rw [e1, e2, e3, e4, e5]; exact r2 b g0 g1
  · rw [n2] at g1
    obtain ⟨e1, e2, e3, e4, e5⟩ := AG_r G g0 (show r < 24 by omega)
    have c4 := (W.2.2.2.2.2.2 r g0 g1).2.2.2.2.1
    obtain ⟨q1, q2, q3, q4, q5⟩ := r3 r g0 g1
    rw [e1, e2, e3, e4]
    refine ⟨q1, q2, q3, q4, fun g f0 f1 => ?_⟩
    obtain ⟨f1', f2', f3'⟩ := e5 g f0 (by omega)
    rw [f1', f2', f3']
    exact q5 g f0 f1
end
/-- another box is told: what was kept of elder ones stays -/
theorem KS_new {E E' : Int → tT} {M M' : aM} {L : Int → Int} {t u : tT} (K : KS E M L t) (hE : ∀ k, k ≤ M 1 4 → E' k = E k) (hh : ∀ v, (v = 41 ∨ v = 42 ∨ (44 ≤ v ∧ v ≤ 46) ∨ (48 ≤ v ∧ v ≤ 56) ∨ v = 64 ∨ v = 65) → M' v = M v) (h14 : M 1 4 ≤ M' 1 4) (R : BR5 M' u) (W : WS u) (D : RW u (pa u)) (S : Sq u (E' (M' 5 0))) (e : 0 ≤ M' 5 0 ∧ M' 5 0 ≤ M' 1 4) : KS E' M' L u := by
  refine ⟨R, W, D, S, e, ?_, ?_, ?_, ?_, ?_⟩
  · obtain ⟨q1, q2⟩ := K.G
    refine ⟨?_, by rw [hh 41 (by decide)]; omega⟩
    unfold CG GS GG at q1 ⊢
    rw [hh 41 (by decide), hh 42 (by decide), hh 44 (by decide), hh 45 (by decide), hh 46 (by decide), hE _ q2]
    exact q1
  · obtain ⟨q1, q2, q3⟩ := K.p1
    refine ⟨?_, by rw [hh 48 (by decide)]; omega, by rw [hh 48 (by decide)]; exact q3⟩
    unfold CP PI at q1 ⊢
    rw [hh 48 (by decide), hh 49 (by decide), hh 50 (by decide), hE _ q2]; exact q1
  · obtain ⟨q1, q2, q3⟩ := K.p2
    refine ⟨?_, by rw [hh 51 (by decide)]; omega, by rw [hh 51 (by decide)]; exact q3⟩
    unfold CP PI at q1 ⊢
    rw [hh 51 (by decide), hh 52 (by decide), hh 53 (by decide), hE _ q2]; exact q1
  · obtain ⟨q1, q2, q3⟩ := K.p3
    refine ⟨?_, by rw [hh 54 (by decide)]; omega, by rw [hh 54 (by decide)]; exact q3⟩
    unfold CP PI at q1 ⊢
    rw [hh 54 (by decide), hh 55 (by decide), hh 56 (by decide), hE _ q2]; exact q1
  · obtain ⟨q1, q2⟩ := K.N
    refine ⟨?_, by rw [hh 64 (by decide)]; omega⟩
    unfold CN at q1 ⊢
    rw [hh 64 (by decide), hh 65 (by decide), hE _ q2]; exact q1
section
variable {h : mH} {c : Int} {p L : Int → Int} {M : aM} {f : Int → Int} {len : Int}
theorem s_readText (A : At h c p L M) (X : TX f len) (h2 : ∀ i, 0 ≤ i → i < len → M 2 i = w8 (f i)) : ∃ h' M', f_Reader_readText h 3 2 len 18 = some ((3, 0), h') ∧ At h' c p L M' ∧ Fs c18 3 [0, 1, 2, 3, 4, 5, 6, 7] M M' ∧ CE M' (sBox f len) := by
  have hl := X.1
  have A1 := A.s3 0 2 (by decide +kernel)
  have N1 := A1.nb
  have A2 := A1.s3 1 len (by decide +kernel)
  have A3 := A2.s3 2 0 (by decide +kernel)
  have A4 := A3.s3 6 0 (by decide +kernel)
  have A5 := A4.s3 7 (-1) (by decide +kernel)
  have B1 := A5.s18 1 0 (by decide +kernel)
  have B2 := B1.s18 2 0 (by decide +kernel)
  have B3 := B2.s18 3 0 (by decide +kernel)
  have B4 := B3.s18 4 0 (by decide +kernel)
  have B5 := B4.s18 5 0 (by decide +kernel)
  have t2 : hpT (hput h 3 0 2) 2 = 23 := by simp only [N1]
  have l2 : hpL (hput h 3 0 2) 2 = 900 := by simp only [N1]
  have be : f_Box_becomeEmpty (hput (hput (hput (hput (hput h 3 0 2) 3 1 len) 3 2 0) 3 6 0) 3 7 (-1)) 18 = some ((3, 0), hput (hput (hput (hput (hput (hput (hput (hput (hput (hput h 3 0 2) 3 1 len) 3 2 0) 3 6 0) 3 7 (-1)) 18 1 0) 18 2 0) 18 3 0) 18 4 0) 18 5 0) := by
    unfold f_Box_becomeEmpty
    rw [chk_t A5.b18.1, wth, chk_t B1.b18.1, wth, chk_t B2.b18.1, wth, chk_t B3.b18.1, wth, chk_t B4.b18.1, wth]
  unfold f_Reader_readText
  rw [chk_t A.rd.1, wth, t2, chk_t (by decide), chk_t A1.rd.1, l2, if_neg (show ¬ 900 < len by omega), wth, chk_t A2.rd.1, wth, chk_t A3.rd.1, wth, chk_t A4.rd.1, wth, chk_t A5.b18.1, be, bndT_ok (by decide), chk_t B5.rd.1]
  have F0 : Fs c18 3 [0, 1, 2, 3, 4, 5, 6, 7] M (mup (mup (mup (mup (mup (mup (mup (mup (mup (mup M 3 0 2) 3 1 len) 3 2 0) 3 6 0) 3 7 (-1)) 18 1 0) 18 2 0) 18 3 0) 18 4 0) 18 5 0) := ((((((((((Fs.rf _ _ _ _).ps (by decide)).ps (by decide)).ps (by decide)).ps (by decide)).ps (by decide)).pu (by decide) (by decide)).pu (by decide) (by decide)).pu (by decide) (by decide)).pu (by decide) (by decide)).pu (by decide) (by decide)
  have e0 : mup (mup (mup (mup (mup (mup (mup (mup (mup (mup M 3 0 2) 3 1 len) 3 2 0) 3 6 0) 3 7 (-1)) 18 1 0) 18 2 0) 18 3 0) 18 4 0) 18 5 0 3 0 = 2 := by simp [mup]
  have e1 : mup (mup (mup (mup (mup (mup (mup (mup (mup (mup M 3 0 2) 3 1 len) 3 2 0) 3 6 0) 3 7 (-1)) 18 1 0) 18 2 0) 18 3 0) 18 4 0) 18 5 0 3 1 = len := by simp [mup]
  have e2 : mup (mup (mup (mup (mup (mup (mup (mup (mup (mup M 3 0 2) 3 1 len) 3 2 0) 3 6 0) 3 7 (-1)) 18 1 0) 18 2 0) 18 3 0) 18 4 0) 18 5 0 3 2 = 0 := by simp [mup]
  have e6 : mup (mup (mup (mup (mup (mup (mup (mup (mup (mup M 3 0 2) 3 1 len) 3 2 0) 3 6 0) 3 7 (-1)) 18 1 0) 18 2 0) 18 3 0) 18 4 0) 18 5 0 3 6 = 0 := by simp [mup]
  have e7 : mup (mup (mup (mup (mup (mup (mup (mup (mup (mup M 3 0 2) 3 1 len) 3 2 0) 3 6 0) 3 7 (-1)) 18 1 0) 18 2 0) 18 3 0) 18 4 0) 18 5 0 3 7 = -1 := by simp [mup]
  have b1 : ∀ k : Int, 1 ≤ k → k ≤ 5 → mup (mup (mup (mup (mup (mup (mup (mup (mup (mup M 3 0 2) 3 1 len) 3 2 0) 3 6 0) 3 7 (-1)) 18 1 0) 18 2 0) 18 3 0) 18 4 0) 18 5 0 18 k = 0 := fun k k0 k1 => by
    rcases (show k = 1 ∨ k = 2 ∨ k = 3 ∨ k = 4 ∨ k = 5 by omega) with rfl | rfl | rfl | rfl | rfl <;> simp [mup]
  generalize mup (mup (mup (mup (mup (mup (mup (mup (mup (mup M 3 0 2) 3 1 len) 3 2 0) 3 6 0) 3 7 (-1)) 18 1 0) 18 2 0) 18 3 0) 18 4 0) 18 5 0 = N at B5 F0 e0 e1 e2 e6 e7 b1
  have T : CTt N f len := ⟨e0, e1, fun i g0 g1 => by rw [F0.1 2 (by decide) (by decide)]; exact h2 i g0 g1⟩
  obtain ⟨h7, M7, f7, A7, F7, R7⟩ := s_cToken B5 X T (x := .inr 0) ⟨⟨Int.le_refl _, hl.1⟩, e6, e7, e2⟩
  have B : BR18 N X0 := ⟨⟨b1 1 (by decide) (by decide), b1 2 (by decide) (by decide), b1 3 (by decide) (by decide), b1 4 (by decide) (by decide), b1 5 (by decide) (by decide)⟩, fun b g0 g1 => absurd (show b < 0 from g1) (by omega), fun r g0 g1 => absurd (show r < 0 from g1) (by omega)⟩
  have U : CU M7 f len (.inr (X0, 0)) := ⟨R7, fun a ha _ => by cases ha; exact B.f3 F7⟩
  obtain ⟨h8, M8, f8, A8, F8, R8⟩ := s_cText X (n := 901) (m := 1000000) (v := 0) (y := .inr (X0, 0)) (by decide) (by decide) A7 (T.fr F7) U (fun x hx => by
    cases hx
    exact ⟨PWq_0 X, by show len - 0 < ((901 : Nat) : Int); omega⟩)
  rw [f7, bndT_ok (by decide), f8]
  exact ⟨h8, M8, rfl, A8, (F0.tr (F7.mono (fun _ q => by cases q) (by decide))).tr (F8.mono (fun _ q => q) (by decide)), R8⟩
theorem At.s1 (A : At h c p L M) (i x : Int) (hi : pt 1 i = 0) : At (hput h 1 i x) c p L (mup M 1 i x) := A.fput x (by decide) (by decide) (by decide) hi (by decide)
/-- what box of the class comes to, when the text is read -/
def CBx (E : Int → tT) (M M' : aM) (L : Int → Int) (t : tT) (y : Int) (s : tP (tT × Int)) : Prop := M' 1 1 = 0 ∧ (∀ e, s = .inl e → y = w32 (-10 - e.1) ∧ M' 1 2 = e.1 ∧ M' 1 3 = e.2 ∧ M' 1 4 = M 1 4 ∧ KS E M' L t) ∧
  ∀ a, s = .inr a → y = a.1 0 ∧ M' 1 2 = 0 ∧ M' 1 3 = -1 ∧ M' 1 4 = M 1 4 + 1 ∧ ∀ u, AG u a.1 → KS (fun k => if k = M 1 4 + 1 then u else E k) M' L u
def cB : List Int := [3, 5, 6, 7, 8, 9, 10, 11, 12, 13, 14, 15, 16, 17, 18, 19, 20, 21, 22, 23, 24, 25, 26, 27, 28, 29, 30]
theorem c_box {E : Int → tT} {t : tT} (A : At h c p L M) (K : KS E M L t) (hf : 0 ≤ M 1 1 ∧ M 1 1 ≤ 900) (hT : ∀ i, 0 ≤ i → i < M 1 1 → M 2 i = w8 (f i) ∧ 0 ≤ f i ∧ f i < 256) (hed : M 1 4 < 100000) (n : Int) :
    (¬ (0 ≤ n ∧ n ≤ M 1 1) ∧ f_Nb_box h 1 n = some ((4, xA), halc h 0 0 6)) ∨
    ((0 ≤ n ∧ n ≤ M 1 1) ∧ ∃ h' M' y, f_Nb_box h 1 n = some ((0, y), h') ∧ At h' c p L M' ∧ Fs cB 1 [1, 2, 3, 4] M M' ∧ CBx E M M' L t y (sBox f n)) := by
  have C := A.nb
  unfold f_Nb_box
  by_cases g : n < 0
  · left; rw [if_pos g]; exact ⟨by omega, rfl⟩
  rw [if_neg g]
  simp only [C]
  rw [chk_t trivial]
  by_cases g1 : n ≤ M 1 1
  · right
    refine ⟨by omega, ?_⟩
    have X : TX f n := ⟨by omega, fun i g0 g2 => (hT i g0 (by omega)).2⟩
    obtain ⟨h1, M1, f1, A1, F1, R1⟩ := s_readText A X (fun i g0 g2 => (hT i g0 (by omega)).1)
    have rd := A.rd.1
    rw [if_pos g1, chk_t trivial, chk_t trivial, chk_t trivial, chk_t rd, f1, bndT_ok (by decide)]
    have m1 : ∀ i, M1 1 i = M 1 i := fun i => by rw [F1.1 1 (by decide) (by decide)]
    have A2 := A1.s1 1 0 (by decide +kernel)
    have C2 := A2.nb
    have D2 := A2.rd
    have A3 := A2.s1 2 (M1 3 6) (by decide +kernel)
    have C3 := A3.nb
    have D3 := A3.rd
    have A4 := A3.s1 3 (M1 3 7) (by decide +kernel)
    have C4 := A4.nb
    have q1 : mup M1 1 1 0 3 = M1 3 := mup_fn (by decide)
    have q2 : mup (mup M1 1 1 0) 1 2 (M1 3 6) 3 = M1 3 := by rw [mup_fn (by decide), mup_fn (by decide)]
    rw [chk_t A1.nb.1, wth]
    simp only [C2, D2]
    rw [chk_t trivial, chk_t trivial, chk_t trivial, q1, wth]
    simp only [C3, D3]
    rw [chk_t trivial, chk_t trivial, chk_t trivial, q2, wth]
    simp only [C4]
    have s1 : mup (mup (mup M1 1 1 0) 1 2 (M1 3 6)) 1 3 (M1 3 7) 1 1 = 0 := by simp [mup]
    have s2 : mup (mup (mup M1 1 1 0) 1 2 (M1 3 6)) 1 3 (M1 3 7) 1 2 = M1 3 6 := by simp [mup]
    have s3 : mup (mup (mup M1 1 1 0) 1 2 (M1 3 6)) 1 3 (M1 3 7) 1 3 = M1 3 7 := by simp [mup]
    have s4 : mup (mup (mup M1 1 1 0) 1 2 (M1 3 6)) 1 3 (M1 3 7) 1 4 = M 1 4 := by
      rw [mup_ne (Or.inr (by decide)), mup_ne (Or.inr (by decide)), mup_ne (Or.inr (by decide)), m1]
    have F4 : Fs (3 :: c18) 1 [1, 2, 3, 4] M (mup (mup (mup M1 1 1 0) 1 2 (M1 3 6)) 1 3 (M1 3 7)) := by
      refine (((show Fs (3 :: c18) 1 [1, 2, 3, 4] M M1 from ⟨fun v v0 v1 => ?_, fun i _ => m1 i⟩).ps (by decide)).ps (by decide)).ps (by decide)
      simp only [List.mem_cons, not_or] at v0
      exact F1.1 v v0.2 v0.1
    have k18 : ∀ v, 18 ≤ v → mup (mup (mup M1 1 1 0) 1 2 (M1 3 6)) 1 3 (M1 3 7) v = M1 v := fun v hv => by
      rw [mup_fn (by omega), mup_fn (by omega), mup_fn (by omega)]
    have R1' : CE M1 (sBox f n) := R1
    rw [chk_t trivial, s2]
    generalize hN : mup (mup (mup M1 1 1 0) 1 2 (M1 3 6)) 1 3 (M1 3 7) = N at *
    have he := K.e
    rcases tP_cases (sBox f n) with ⟨e, hs⟩ | ⟨a, hs⟩
    · obtain ⟨r1, r2, r3⟩ := R1'.1 e hs
      rw [if_neg (show ¬ M1 3 6 = 0 by rw [r1]; exact r2), chk_t trivial]
      refine ⟨_, N, _, rfl, A4, F4.mono (by decide) (by decide), s1, fun e' he' => ?_, fun a' ha' => by rw [hs] at ha'; cases ha'⟩
      rw [hs] at he'
      cases he'
      refine ⟨by rw [r1], by rw [s2, r1], by rw [s3, r3], s4, ?_⟩
      have hh : ∀ v, v ≠ 1 → v ≠ 3 → ¬ (18 ≤ v ∧ v ≤ 30) → N v = M v := fun v v1 v3 v18 => F4.1 v (by simp [c18]; omega) v1
      exact KS_new K (fun _ _ => rfl) (fun v hv => hh v (by omega) (by omega) (by omega)) (by omega) (K.R.eq (fun v g0 g1 => hh v (by omega) (by omega) (by omega))) K.W K.D (by rw [hh 5 (by decide) (by decide) (by decide)]; exact K.S) (by rw [hh 5 (by decide) (by decide) (by decide), s4]; exact he)
    · obtain ⟨r1, r2, R18⟩ := R1'.2 a hs
      have PQ : PWq n a := sText_ok X (PWq_0 X) (show sText f n 901 (X0, 0) = .inr a from hs)
      have P := PQ.1
      have A5 := A4.s1 4 (M 1 4 + 1) (by decide +kernel)
      have C5 := A5.nb
      have D5 := A5.b18
      have A6 := A5.s18 0 (M 1 4 + 1) (by decide +kernel)
      have C6 := A6.nb
      have D6 := A6.b18
      have B6 := A6.b5
      obtain ⟨h7, f7, A7⟩ := s_become A6 (BX18 _) (BX5 _) (by decide)
      rw [A6.p5, A6.p18] at f7
      have C7 := A7.nb
      have D7 := A7.b5
      rw [if_pos r1, chk_t trivial, chk_t trivial, s4, w32_id (x := M 1 4 + 1) (by omega) (by omega), wth]
      simp only [C5, D5]
      rw [chk_t trivial, chk_t trivial, chk_t trivial, mup_eq, wth]
      simp only [C6, D6, B6]
      rw [chk_t trivial, chk_t trivial, chk_t trivial, f7, bndT_ok (by decide)]
      simp only [C7, D7]
      rw [chk_t trivial, chk_t trivial]
      have b18 : BRx (mup (mup N 1 4 (M 1 4 + 1)) 18 0 (M 1 4 + 1)) 18 a.1 := by
        have r : BR18 N a.1 := R18.eq (fun v g0 g1 => k18 v g0)
        unfold BRx
        rw [mup_ne (Or.inr (by decide)), mup_ne (Or.inr (by decide)), mup_ne (Or.inr (by decide)), mup_ne (Or.inr (by decide)), mup_ne (Or.inr (by decide))]
        simp (decide := true) only [mup_fn]
        exact r
      have b5 := (b18.become (d := 5) P.1).five
      have o5 : bcc (mup (mup N 1 4 (M 1 4 + 1)) 18 0 (M 1 4 + 1)) 18 5 12 5 0 = M 1 4 + 1 := by rw [bcc_d (by decide) (by decide), mup_eq]
      have o1 : bcc (mup (mup N 1 4 (M 1 4 + 1)) 18 0 (M 1 4 + 1)) 18 5 12 1 = mup N 1 4 (M 1 4 + 1) 1 := by rw [bcc_o (by decide), mup_fn (by decide)]
      have oo : ∀ v, v ≠ 1 → v ≠ 3 → (v < 5 ∨ 30 < v) → bcc (mup (mup N 1 4 (M 1 4 + 1)) 18 0 (M 1 4 + 1)) 18 5 12 v = M v := fun v v1 v3 v5 => by
        rw [bcc_o (by omega), mup_fn (by omega), mup_fn v1]; exact F4.1 v (by simp [c18]; omega) v1
      refine ⟨h7, bcc (mup (mup N 1 4 (M 1 4 + 1)) 18 0 (M 1 4 + 1)) 18 5 12, _, rfl, A7, ⟨fun v v0 v1 => oo v v1 (by simp [cB] at v0; omega) (by simp [cB] at v0; omega), fun i hi => ?_⟩, ?_, fun e' he' => (by cases hs.symm.trans he'), fun a' ha' => ?_⟩
      · simp only [List.mem_cons, List.not_mem_nil, or_false, not_or] at hi
        rw [o1, mup_ne (Or.inr (by omega))]
        exact F4.2 i (by simp; omega)
      · rw [o1, mup_ne (Or.inr (by decide))]; exact s1
      · rw [hs] at ha'
        cases ha'
        refine ⟨b5.1.1, by rw [o1, mup_ne (Or.inr (by decide)), s2, r1], by rw [o1, mup_ne (Or.inr (by decide)), s3, r2], by rw [o1, mup_eq], fun u G => ?_⟩
        exact KS_new K (fun k hk => if_neg (by omega)) (fun v hv => oo v (by omega) (by omega) (by omega)) (by rw [o1, mup_eq]; omega) (AG_BR G P.1 b5.x).five (AG_WS G P.1) (AG_RW G P.1 P.rw) (by rw [o5, if_pos rfl]; exact Sq.refl u) (by rw [o5, o1, mup_eq]; omega)
  · left; rw [if_neg g1]; exact ⟨by omega, rfl⟩
end
