/-! THE HARDEST RULE MORE, in the order in which both look -/
def hX (t : tT) (b f u c a : Int) : tT := fun j => if j = 0 then b else if j = 1 then f else if j = 2 then u else if j = 3 then 1 else if j = 4 then c else if j = 5 then (if a < pl t c then 0 else 1) else if j = 6 then (if a < pl t c then a else a - pl t c) else 0
def hN (t : tT) (wn : Int → Bool) (z : Int) (X : tT) : Int := bF (bfs (th t true X wn) (nK t) (nN t) z) (st t (po t))
def hT (t : tT) (wn : Int → Bool) (z m : Int) (X : tT) (B : Int → Int) : Int → Int := if hN t wn z X ≤ m ∧ B 0 < hN t wn z X then (fun j => if j = 0 then hN t wn z X else if j = 1 then X 0 else if j = 2 then X 1 else if j = 3 then X 2 else if j = 4 then X 4 else if j = 5 then X 5 else if j = 6 then X 6 else B j) else B
def hA (t : tT) (wn : Int → Bool) (z m b f u c : Int) : Nat → (Int → Int) → (Int → Int)
  | 0, B => B
  | n + 1, B => hT t wn z m (hX t b f u c n) (hA t wn z m b f u c n B)
def hC (t : tT) (wn : Int → Bool) (z m b f u : Int) : Nat → (Int → Int) → (Int → Int)
  | 0, B => B
  | c + 1, B => if (c : Int) = b then hC t wn z m b f u c B else hA t wn z m b f u c (2 * pl t c).toNat (hC t wn z m b f u c B)
def hU (t : tT) (wn : Int → Bool) (z m b f u : Int) (B : Int → Int) : Int → Int := if u < 0 ∨ pl t b ≤ u then B else hC t wn z m b f u (nb t).toNat B
def hFr (t : tT) (wn : Int → Bool) (z m b : Int) : Nat → (Int → Int) → (Int → Int)
  | 0, B => B
  | f + 1, B => hU t wn z m b f (f + 1) (hU t wn z m b f (f - 1) (hFr t wn z m b f B))
def hBr (t : tT) (wn : Int → Bool) (z m : Int) : Nat → (Int → Int) → (Int → Int)
  | 0, B => B
  | b + 1, B => hFr t wn z m b (pl t b).toNat (hBr t wn z m b B)
def hH (t : tT) (wn : Int → Bool) (z m : Int) : Int → Int := hBr t wn z m (nb t).toNat (fun _ => -1)
/-! WHAT THE CLASS KEEPS BETWEEN CALLS; E tells what box was told as each edition -/
def wb (w b : Int) : Bool := bt w (2 * b).toNat
def nxD (bk : Bool) (t : tT) (wn : Int → Bool) : Int → Int → Int := if bk = true then nxB t false X0 wn else th t false X0 wn
def CP (E : Int → tT) (M : aM) (L : Int → Int) (k f o : Int) (bk : Bool) : Prop := M k 3 = -1 ∨ (WS (E (M k 1)) ∧ nS (E (M k 1)) ≤ 20000 ∧ (0 ≤ M k 3 ∧ M k 3 < nS (E (M k 1))) ∧ nS (E (M k 1)) ≤ L f ∧ nS (E (M k 1)) ≤ L o ∧
  PI M f o (M k 4) (nS (E (M k 1))) (bfs (nxD bk (E (M k 1)) (wb (M k 2))) (nK (E (M k 1))) (nN (E (M k 1))) (M k 3)))
def CN (E : Int → tT) (M : aM) : Prop := M 64 2 = -1 ∨ (WS (E (M 64 2)) ∧ nS (E (M 64 2)) ≤ 20000 ∧ (0 ≤ M 64 4 ∧ M 64 4 < nS (E (M 64 2))) ∧ ∀ j, 0 ≤ j → j < 7 → M 65 j = hH (E (M 64 2)) (wb (M 64 3)) (M 64 4) (M 64 5) j)
def IG (E : Int → tT) (M : aM) (L : Int → Int) : Prop := CG E M L ∧ M 41 0 ≤ M 1 4
def IP (E : Int → tT) (M : aM) (L : Int → Int) (k f o : Int) (bk : Bool) : Prop := CP E M L k f o bk ∧ M k 1 ≤ M 1 4 ∧ M k 0 = b2i bk
def IN (E : Int → tT) (M : aM) : Prop := CN E M ∧ M 64 2 ≤ M 1 4
def KS (E : Int → tT) (M : aM) (L : Int → Int) (t : tT) : Prop := BR5 M t ∧ WS t ∧ RW t (pa t) ∧ Sq t (E (M 5 0)) ∧ (0 ≤ M 5 0 ∧ M 5 0 ≤ M 1 4) ∧ IG E M L ∧ IP E M L 48 49 50 false ∧ IP E M L 51 52 53 true ∧ IP E M L 54 55 56 false ∧ IN E M
theorem KS.R {E : Int → tT} {M : aM} {L : Int → Int} {t : tT} (B : KS E M L t) : BR5 M t := B.1
theorem KS.W {E : Int → tT} {M : aM} {L : Int → Int} {t : tT} (B : KS E M L t) : WS t := B.2.1
theorem KS.D {E : Int → tT} {M : aM} {L : Int → Int} {t : tT} (B : KS E M L t) : RW t (pa t) := B.2.2.1
theorem KS.S {E : Int → tT} {M : aM} {L : Int → Int} {t : tT} (B : KS E M L t) : Sq t (E (M 5 0)) := B.2.2.2.1
theorem KS.e {E : Int → tT} {M : aM} {L : Int → Int} {t : tT} (B : KS E M L t) : 0 ≤ M 5 0 ∧ M 5 0 ≤ M 1 4 := B.2.2.2.2.1
theorem KS.G {E : Int → tT} {M : aM} {L : Int → Int} {t : tT} (B : KS E M L t) : IG E M L := B.2.2.2.2.2.1
theorem KS.p1 {E : Int → tT} {M : aM} {L : Int → Int} {t : tT} (B : KS E M L t) : IP E M L 48 49 50 false := B.2.2.2.2.2.2.1
theorem KS.p2 {E : Int → tT} {M : aM} {L : Int → Int} {t : tT} (B : KS E M L t) : IP E M L 51 52 53 true := B.2.2.2.2.2.2.2.1
theorem KS.p3 {E : Int → tT} {M : aM} {L : Int → Int} {t : tT} (B : KS E M L t) : IP E M L 54 55 56 false := B.2.2.2.2.2.2.2.2.1
theorem KS.N {E : Int → tT} {M : aM} {L : Int → Int} {t : tT} (B : KS E M L t) : IN E M := B.2.2.2.2.2.2.2.2.2
theorem IG.keep {E : Int → tT} {M M' : aM} {L L' : Int → Int} (I : IG E M L) (h : ∀ v ∈ [(1 : Int), 41, 42, 44, 45, 46], M' v = M v) (hL : ∀ v ∈ [(44 : Int), 45, 46], L' v = L v) : IG E M' L' := by
  unfold IG CG GS GG at I ⊢
  rw [h 1 (by decide), h 41 (by decide), h 42 (by decide), h 44 (by decide), h 45 (by decide), h 46 (by decide), hL 44 (by decide), hL 45 (by decide), hL 46 (by decide)]
  exact I
theorem IP.keep {E : Int → tT} {M M' : aM} {L L' : Int → Int} {k f o : Int} {bk : Bool} (I : IP E M L k f o bk) (h1 : M' 1 = M 1) (hk : M' k = M k) (hf : M' f = M f) (ho : M' o = M o) (hLf : L' f = L f) (hLo : L' o = L o) : IP E M' L' k f o bk := by
  unfold IP CP PI at I ⊢
  rw [h1, hk, hf, ho, hLf, hLo]
  exact I
theorem IN.keep {E : Int → tT} {M M' : aM} (I : IN E M) (h1 : M' 1 = M 1) (h64 : M' 64 = M 64) (h65 : M' 65 = M 65) : IN E M' := by
  unfold IN CN at I ⊢
  rw [h1, h64, h65]
  exact I
/-- what lies outside of all that KS looks at may change -/
def kO (v : Int) : Prop := ¬ (v = 1 ∨ (5 ≤ v ∧ v ≤ 17) ∨ v = 41 ∨ v = 42 ∨ (44 ≤ v ∧ v ≤ 46) ∨ (48 ≤ v ∧ v ≤ 56) ∨ v = 64 ∨ v = 65)
theorem KS.keep {E : Int → tT} {M M' : aM} {L L' : Int → Int} {t : tT} (K : KS E M L t) (h : ∀ v, ¬ kO v → M' v = M v) (hL : ∀ v, ¬ kO v → L' v = L v) : KS E M' L' t := by
  have hh : ∀ v, (v = 1 ∨ (5 ≤ v ∧ v ≤ 17) ∨ v = 41 ∨ v = 42 ∨ (44 ≤ v ∧ v ≤ 46) ∨ (48 ≤ v ∧ v ≤ 56) ∨ v = 64 ∨ v = 65) → M' v = M v := fun v hv => h v (fun e => e hv)
  have hhL : ∀ v, (v = 1 ∨ (5 ≤ v ∧ v ≤ 17) ∨ v = 41 ∨ v = 42 ∨ (44 ≤ v ∧ v ≤ 46) ∨ (48 ≤ v ∧ v ≤ 56) ∨ v = 64 ∨ v = 65) → L' v = L v := fun v hv => hL v (fun e => e hv)
  refine ⟨K.R.eq (fun v g0 g1 => hh v (by omega)), K.W, K.D, by rw [hh 5 (by omega)]; exact K.S, by rw [hh 5 (by omega), hh 1 (by omega)]; exact K.e, K.G.keep (fun v hv => hh v ?_) (fun v hv => hhL v ?_),
    K.p1.keep (hh _ (by omega)) (hh _ (by omega)) (hh _ (by omega)) (hh _ (by omega)) (hhL _ (by omega)) (hhL _ (by omega)), K.p2.keep (hh _ (by omega)) (hh _ (by omega)) (hh _ (by omega)) (hh _ (by omega)) (hhL _ (by omega)) (hhL _ (by omega)), K.p3.keep (hh _ (by omega)) (hh _ (by omega)) (hh _ (by omega)) (hh _ (by omega)) (hhL _ (by omega)) (hhL _ (by omega)), K.N.keep (hh _ (by omega)) (hh _ (by omega)) (hh _ (by omega))⟩
  · simp only [List.mem_cons, List.not_mem_nil, or_false] at hv; omega
  · simp only [List.mem_cons, List.not_mem_nil, or_false] at hv; omega
theorem go_wn {t : tT} (W : WS t) {x : Bool} {X : tT} {w1 w2 : Int → Bool} (hx : x = true → 0 ≤ X 4 ∧ X 4 < nb t) (hw : ∀ b, 0 ≤ b → b < nb t → w1 b = w2 b) (s v : Int) : go t x X w1 s v = go t x X w2 s v := by
  unfold go; rw [why_congr W hx (fun _ _ _ => rfl) hw]
theorem th_wn {t : tT} (W : WS t) {x : Bool} {X : tT} {w1 w2 : Int → Bool} (hx : x = true → 0 ≤ X 4 ∧ X 4 < nb t) (hw : ∀ b, 0 ≤ b → b < nb t → w1 b = w2 b) : th t x X w1 = th t x X w2 := by
  funext s v; unfold th; rw [go_wn W hx hw]
theorem nxB_wn {t : tT} (W : WS t) {x : Bool} {X : tT} {w1 w2 : Int → Bool} (hx : x = true → 0 ≤ X 4 ∧ X 4 < nb t) (hw : ∀ b, 0 ≤ b → b < nb t → w1 b = w2 b) : nxB t x X w1 = nxB t x X w2 := by
  funext s v; unfold nxB; rw [go_wn W hx hw]
theorem nxD_wn {t : tT} (W : WS t) {bk : Bool} {w1 w2 : Int → Bool} (hw : ∀ b, 0 ≤ b → b < nb t → w1 b = w2 b) : nxD bk t w1 = nxD bk t w2 := by
  unfold nxD; rw [th_wn W (fun e => by cases e) hw, nxB_wn W (fun e => by cases e) hw]
theorem Sq_nxD {t u : tT} (q : Sq t u) (bk : Bool) : nxD bk t = nxD bk u := by funext wn; unfold nxD; rw [Sq_th q, Sq_nxB q]
theorem wb_wB {t : tT} (W : WS t) : ∀ b, 0 ≤ b → b < nb t → wb (wB t) b = wS t b := fun b h0 h1 => by
  have := bt_wB W (2 * b) (by omega) (by omega)
  rw [show 2 * b / 2 = b by omega] at this
  exact this
theorem NX_D {t : tT} (W : WS t) (bk : Bool) (wn : Int → Bool) : NX (nxD bk t wn) (nK t) (nN t) := by
  unfold nxD; split
  · exact NX_B W _ _ _
  · exact NX_F W _ _ _
/-- paths that stand -/
def PR (M : aM) (L : Int → Int) (k f o : Int) (t : tT) (z : Int) (bk : Bool) : Prop := (nS t ≤ L f ∧ M k 3 = z) ∧ nS t ≤ L o ∧ PI M f o (M k 4) (nS t) (bfs (nxD bk t (wS t)) (nK t) (nN t) z)
section
variable {h : mH} {c : Int} {p L : Int → Int} {M : aM} {E : Int → tT}
theorem s_Paths_seek (A : At h c p L M) {k f o : Int} {bk : Bool} (hk : PK k f o) (hbk : M k 0 = b2i bk) {t : tT} (W : WS t) (hS2 : nS t ≤ 20000) (S : GS M L t) (G : GG M L 46 t (gm t (wB t))) (h41 : M 41 1 = wB t) (hE : Sq t (E (M 41 0))) (hc : CP E M L k f o bk) {z : Int} (hz0 : 0 ≤ z) (hz1 : z < nS t) :
    ∃ h' p' L' M', f_Paths_seek h k 41 z = some ((3, 0), h') ∧ At h' c p' L' M' ∧ Of [f, o] p p' ∧ Of [f, o] L L' ∧ Fs [f, o] k [1, 2, 3, 4] M M' ∧ PR M' L' k f o t z bk ∧ M' k 1 = M 41 0 ∧ CP E M' L' k f o bk := by
  obtain ⟨gf, go', gk, gp, ⟨n1, n2, n3⟩, gm', gu, gu2, gr⟩ := hk.gf
  have k41 : (41 : Int) ≠ k := by omega
  have C := A.pk hk
  have D := A.gr
  have hkk := nK_rng W
  have hnn := nN_eq W
  have hSS := nS_rng W
  have comp : ∃ h' p' L' M', f_Paths_seek_J31 k 41 z h = some ((3, 0), h') ∧ At h' c p' L' M' ∧ Of [f, o] p p' ∧ Of [f, o] L L' ∧ Fs [f, o] k [1, 2, 3, 4] M M' ∧ PR M' L' k f o t z bk ∧ M' k 1 = M 41 0 ∧ CP E M' L' k f o bk := by
    have hf : ∀ s v : Int, 0 ≤ s → s < nS t → 0 ≤ v → v < 2 * nb t → gm t (wB t) s v = go t false X0 (wS t) s v := fun s v _ _ g0 g1 => gm_go W (bt_wB W) g0 g1 X0
    have hG : (M k 0 = 0 ∧ GF M 46 (nK t) (nN t) (nxD bk t (wS t))) ∨ (M k 0 ≠ 0 ∧ GB M 46 (nK t) (nN t) (nxD bk t (wS t))) := by
      unfold nxD
      cases bk
      · left; exact ⟨hbk, by rw [if_neg (by decide)]; exact GG_GF W S G hf⟩
      · right; exact ⟨by rw [hbk]; decide, by rw [if_pos rfl]; exact GG_GB W S G hf⟩
    obtain ⟨h1, p1, L1, M1, f1, A1, op1, oL1, lf1, lo1, F1, v3, j, Q1, hj⟩ := s_Paths_spread A hk (n := nN t) (K := nK t) (by omega) (by omega) hkk.1 (by rw [hkk.2]; exact S.1.2.1) (by rw [hnn]; exact S.1.1) (g := 46) (Or.inl rfl) (by rw [hnn]; exact G.1) (NX_D W bk (wS t)) hG (GS_42 W S) (z := z) (goal := -1) hz0 (by omega)
    have hj : bM (bfn (nxD bk t (wS t)) (nK t) (b0 z) j) ≤ j := by
      rcases hj with hj | hj
      · exact hj
      · omega
    rw [bfs_end (NX_D W bk (wS t)) hz0 (by omega) hj, hnn] at Q1
    have C1 := A1.pk hk
    have D1 := A1.gr
    have m41 : M1 41 = M 41 := F1.1 41 (by simp; omega) k41
    have A2 := A1.pks hk (i := 1) (M 41 0) (by simp)
    have C2 := A2.pk hk
    have D2 := A2.gr
    have A3 := A2.pks hk (i := 2) (M 41 1) (by simp)
    have C3 := A3.pk hk
    have A4 := A3.pks hk (i := 3) z (by simp)
    have F4 : Fs [f, o] k [1, 2, 3, 4] M (mup (mup (mup M1 k 1 (M 41 0)) k 2 (M 41 1)) k 3 z) := (((F1.mono (fun _ h => h) (by simp)).ps (by simp)).ps (by simp)).ps (by simp)
    have Q4 : PI (mup (mup (mup M1 k 1 (M 41 0)) k 2 (M 41 1)) k 3 z) f o (mup (mup (mup M1 k 1 (M 41 0)) k 2 (M 41 1)) k 3 z k 4) (nS t) (bfs (nxD bk t (wS t)) (nK t) (nN t) z) := by
      unfold PI
      rw [mup_fn n1.symm, mup_fn n1.symm, mup_fn n1.symm, mup_fn n2.symm, mup_fn n2.symm, mup_fn n2.symm, mup_ne (Or.inr (by decide)), mup_ne (Or.inr (by decide)), mup_ne (Or.inr (by decide))]
      exact Q1
    have e1 : mup (mup (mup M1 k 1 (M 41 0)) k 2 (M 41 1)) k 3 z k 1 = M 41 0 := by rw [mup_ne (Or.inr (by decide)), mup_ne (Or.inr (by decide)), mup_eq]
    have e2 : mup (mup (mup M1 k 1 (M 41 0)) k 2 (M 41 1)) k 3 z k 2 = M 41 1 := by rw [mup_ne (Or.inr (by decide)), mup_eq]
    refine ⟨_, p1, L1, _, ?_, A4, op1, oL1, F4, ⟨⟨by omega, mup_eq _ _ _ _⟩, by omega, Q4⟩, e1, ?_⟩
    · unfold f_Paths_seek_J31
      simp only [C, D]
      rw [chk_t trivial, chk_t trivial, f1, bndT_ok (by decide)]
      simp only [C1, D1]
      rw [chk_t trivial, chk_t trivial, m41, wth]
      simp only [C2, D2]
      rw [chk_t trivial, chk_t trivial, mup_fn k41, m41, wth]
      simp only [C3]
      rw [chk_t trivial, wth]
    · right
      rw [e1, e2, mup_eq]
      refine ⟨Sq_WS hE W, by rw [← Sq_nS hE]; exact hS2, by rw [← Sq_nS hE]; exact ⟨hz0, hz1⟩, by rw [← Sq_nS hE]; omega, by rw [← Sq_nS hE]; omega, ?_⟩
      rw [h41, ← Sq_nS hE, ← Sq_nxD hE, ← Sq_nK hE, ← Sq_nN hE, nxD_wn W (wb_wB W)]
      rw [h41] at Q4
      exact Q4
  unfold f_Paths_seek
  simp only [C, D]
  rw [chk_t trivial, chk_t trivial]
  by_cases g1 : M k 1 = M 41 0
  · rw [if_pos g1, chk_t trivial, chk_t trivial]
    by_cases g2 : M k 2 = M 41 1
    · rw [if_pos g2, chk_t trivial]
      by_cases g3 : M k 3 = z
      · rw [if_pos g3]
        refine ⟨h, p, L, M, rfl, A, Of.rf _ _, Of.rf _ _, Fs.rf _ _ _ _, ?_, g1, hc⟩
        rcases hc with hc | ⟨c1, c2, c3, c4, c5, c6⟩
        · omega
        · rw [g1, g2, g3, h41, ← Sq_nS hE, ← Sq_nxD hE, ← Sq_nK hE, ← Sq_nN hE, nxD_wn W (wb_wB W)] at c6
          rw [g1, ← Sq_nS hE] at c4 c5
          exact ⟨⟨c4, g3⟩, c5, c6⟩
      · rw [if_neg g3]; exact comp
    · rw [if_neg g2]; exact comp
  · rw [if_neg g1]; exact comp
/-! the class's own helpers -/
theorem s_Nb_isSpent (A : At h c p L M) {t : tT} (K : KS E M L t) : f_Nb_isSpent h 1 = some ((0, b2i (decide (20000 < nS t))), h) := by
  have B := BH.of5 A K.R
  have C := A.nb
  unfold f_Nb_isSpent
  simp only [C]
  rw [chk_t trivial, chk_t B.T, s_Box_standCount B K.W, bndT_ok (by decide)]
  by_cases g : nS t ≤ 20000
  · rw [if_pos g, chk_t (by simp), decide_eq_false (by omega)]; rfl
  · rw [if_neg g, chk_t (by simp), decide_eq_true (by omega)]; rfl
def xN : Int := exNo "java/util/NoSuchElementException"
def xS : Int := exNo "java/lang/IllegalStateException"
def xA : Int := exNo "java/lang/IllegalArgumentException"
def xI : Int := exNo "java/lang/IndexOutOfBoundsException"
theorem s_Nb_needBar (A : At h c p L M) {t : tT} (K : KS E M L t) (b : Int) : f_Nb_needBar h 1 b = if 0 ≤ b ∧ b < nb t then some ((3, 0), h) else some ((4, xN), halc h 0 0 6) := by
  have B := BH.of5 A K.R
  have C := A.nb
  unfold f_Nb_needBar
  by_cases g : b < 0
  · rw [if_pos g, if_neg (by omega)]; rfl
  · rw [if_neg g]
    simp only [C]
    rw [chk_t trivial, chk_t B.T, B.s2]
    by_cases g2 : b < nb t
    · rw [if_pos g2, if_pos (by omega)]
    · rw [if_neg g2, if_neg (by omega)]; rfl
theorem s_Nb_needStand (A : At h c p L M) {t : tT} (K : KS E M L t) (s : Int) : f_Nb_needStand h 1 s = if 0 ≤ s ∧ s < nS t then some ((3, 0), h) else some ((4, xN), halc h 0 0 6) := by
  have B := BH.of5 A K.R
  have C := A.nb
  unfold f_Nb_needStand
  by_cases g : s < 0
  · rw [if_pos g, if_neg (by omega)]; rfl
  · rw [if_neg g]
    simp only [C]
    rw [chk_t trivial, chk_t B.T, s_Box_standCount B K.W, bndT_ok (by decide)]
    by_cases g2 : s < nS t
    · rw [if_pos g2, if_pos (by omega)]
    · rw [if_neg g2, if_neg (by omega)]; rfl
theorem s_Nb_needFew (A : At h c p L M) {t : tT} (K : KS E M L t) : f_Nb_needFew h 1 = if nS t ≤ 20000 then some ((3, 0), h) else some ((4, xS), halc h 0 0 6) := by
  have C := A.nb
  unfold f_Nb_needFew
  simp only [C]
  rw [chk_t trivial, s_Nb_isSpent A K, bndT_ok (by decide)]
  by_cases g : nS t ≤ 20000
  · rw [decide_eq_false (by omega), if_pos g]; rfl
  · rw [decide_eq_true (by omega), if_neg g]; rfl
/-- what a call of the class that looks at the graph may change -/
def cL : List Int := [41, 42, 43, 44, 45, 46, 47, 48, 49, 50, 51, 52, 53, 54, 55, 56]
def cG : List Int := [44, 45, 46, 47, 49, 50, 52, 53, 55, 56]
theorem s_Nb_prep (A : At h c p L M) {t : tT} (K : KS E M L t) (hS2 : nS t ≤ 20000) :
    ∃ h' p' L' M', f_Graph_prepare h 41 5 = some ((3, 0), h') ∧ At h' c p' L' M' ∧ Of [44, 45, 46] p p' ∧ Of [44, 45, 46] L L' ∧ Fr [41, 42, 43, 44, 45, 46] M M' ∧ KS E M' L' t ∧ GP M' M' L' t := by
  obtain ⟨h1, p1, L1, M1, f1, A1, op, oL, F, G⟩ := s_Graph_prepare A K.R K.W hS2 K.G.1 K.S
  have hF : Fr [41, 42, 43, 44, 45, 46] M M1 := fun v hv => by
    simp only [List.mem_cons, List.not_mem_nil, or_false, not_or] at hv
    exact F.1 v (by simp; omega) (by omega)
  have m1 : M1 1 = M 1 := hF 1 (by decide)
  have m5 : M1 5 = M 5 := hF 5 (by decide)
  refine ⟨h1, p1, L1, M1, f1, A1, op, oL, hF, ⟨K.R.eq (fun v g0 g1 => hF v (by simp; omega)), K.W, K.D, by rw [m5]; exact K.S, by rw [m1, m5]; exact K.e, ⟨CG.of K.W hS2 G K.S, by rw [G.2.2.1, m1]; exact K.e.2⟩,
    K.p1.keep m1 (hF _ (by decide)) (hF _ (by decide)) (hF _ (by decide)) (oL _ (by decide)) (oL _ (by decide)), K.p2.keep m1 (hF _ (by decide)) (hF _ (by decide)) (hF _ (by decide)) (oL _ (by decide)) (oL _ (by decide)), K.p3.keep m1 (hF _ (by decide)) (hF _ (by decide)) (hF _ (by decide)) (oL _ (by decide)) (oL _ (by decide)), K.N.keep m1 (hF _ (by decide)) (hF _ (by decide))⟩, G.1, G.2.1, by rw [G.2.2.1, m5], G.2.2.2⟩
end
