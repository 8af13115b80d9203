/-! TRAYS: what a row of numbers gives hangs on these numbers alone -/
def NE (N N' : Int → Int) (m : Nat) : Prop := ∀ i : Int, 0 ≤ i → i < m → N i = N' i
section
variable {t : tT} {N N' : Int → Int} {m : Nat}
theorem itK_cg {z : Int} : ∀ {m : Nat}, NE N N' m → itK t z N m = itK t z N' m
  | 0, _ => rfl
  | m + 1, H => by rw [itK, itK, itK_cg (m := m) (fun i g0 g1 => H i g0 (by omega)), H m (by omega) (by omega)]
theorem fOK_cg (H : NE N N' m) (c nt a : Int) : fOK t N m c nt a = fOK t N' m c nt a := by
  unfold fOK; exact allN_congr fun i g0 g1 => by rw [H i g0 g1]
theorem fI_cg (H : NE N N' m) (c : Int) (S : tF) : ∀ k : Nat, fI t N m c S k = fI t N' m c S k
  | 0 => rfl
  | k + 1 => by rw [fI, fI, fI_cg H c S k, fOK_cg H]
theorem fC_cg (H : NE N N' m) (b : Int) : ∀ n : Nat, fC t N m b n = fC t N' m b n
  | 0 => rfl
  | n + 1 => by
    rw [fC, fC, fC_cg H b n]
    split
    · rfl
    · rw [fI_cg H]
theorem fFS_cg (H : NE N N' m) (b : Int) : fFS t N m b = fFS t N' m b := fC_cg H b _
theorem abN_cg (H : NE N N' m) : abN t N m = abN t N' m := by
  unfold abN; exact allN_congr fun i g0 g1 => by rw [H i g0 g1]
theorem vP_cg : ∀ {m : Nat}, NE N N' m → vP t N m = vP t N' m
  | 0, _ => rfl
  | m + 1, H => by rw [vP, vP, vP_cg (m := m) (fun i g0 g1 => H i g0 (by omega)), H m (by omega) (by omega)]
theorem vO_cg : ∀ {m : Nat}, NE N N' m → vO t N m = vO t N' m
  | 0, _ => rfl
  | m + 1, H => by
    have H' : NE N N' m := fun i g0 g1 => H i g0 (by omega)
    rw [vO, vO, vO_cg H', vP_cg H, vP_cg H', H m (by omega) (by omega)]
theorem juV_cg (H : NE N N' m) (w : Int) : juV t N m w = juV t N' m w := by
  unfold juV
  rw [vP_cg H, vO_cg H]
  by_cases e : (vP t N' m).2 = m
  · rw [if_pos e, if_pos e, if_pos e]
  · have r := vP_rng t N' m
    rw [H _ r.1 (by omega)]
theorem TL_cg {m : Int} (H : NE N N' m.toNat) (T : TL N m) : TL N' m := fun i g0 g1 => by
  rw [← H i g0 (by omega)]; exact T i g0 g1
end
/-! BOTH SIDES STAND ALIKE -/
def TT (M : aM) : Prop := (M 1 1 = M 75 7 ∧ 0 ≤ M 1 1 ∧ M 1 1 ≤ 900) ∧ ∀ i, 0 ≤ i → i < M 1 1 → M 2 i = w8 (M 81 i) ∧ 0 ≤ M 81 i ∧ M 81 i < 256
def TY (M : aM) (τ : Int) : Prop := (0 ≤ M 97 τ ∧ M 97 τ ≤ 40) ∧ ((M 96 τ = -1 ∧ M (33 + 2 * τ) 2 = -1) ∨ ((0 ≤ M 96 τ ∧ M 96 τ ≤ 3) ∧ M (33 + 2 * τ) 1 = M 96 τ ∧ M (33 + 2 * τ) 2 = M 97 τ ∧ ∀ i, 0 ≤ i → i < 40 → M (34 + 2 * τ) i = M 98 (40 * τ + i) ∧ -9223372036854775808 ≤ M 98 (40 * τ + i) ∧ M 98 (40 * τ + i) < 9223372036854775808))
def TG (E : Int → tT) (o : tT) (M : aM) (m i : Int) : Prop := (M 31 i = 0 ∧ M 80 i = 0) ∨ (M 31 i ≠ 0 ∧ M 80 i ≠ 0 ∧ ∃ u, IQ E M i u m ∧ OUT u o ∧ ∀ j, 0 ≤ j → j < 434 → M 79 (434 * i + j) = u j)
def TS (E : Int → tT) (o : tT) (c : Int) (L : Int → Int) (M : aM) (t : tT) (n : Int) : Prop := KS E M L t ∧ RI M t ∧ MDB t (60 * n) ∧ OUT t o ∧ TT M ∧ (M 1 2 = M 75 15 ∧ M 1 3 = M 75 16) ∧ (∀ τ, 0 ≤ τ → τ < 4 → TY M τ) ∧ (∀ i, 0 ≤ i → i < 3 → TG E o M (60 * n) i) ∧ M 1 4 ≤ n ∧ c ≤ 447 * n
theorem TS.K {E : Int → tT} {o : tT} {c : Int} {L : Int → Int} {M : aM} {t : tT} {n : Int} (B : TS E o c L M t n) : KS E M L t := B.1
theorem TS.I {E : Int → tT} {o : tT} {c : Int} {L : Int → Int} {M : aM} {t : tT} {n : Int} (B : TS E o c L M t n) : RI M t := B.2.1
theorem TS.B {E : Int → tT} {o : tT} {c : Int} {L : Int → Int} {M : aM} {t : tT} {n : Int} (B : TS E o c L M t n) : MDB t (60 * n) := B.2.2.1
theorem TS.O {E : Int → tT} {o : tT} {c : Int} {L : Int → Int} {M : aM} {t : tT} {n : Int} (B : TS E o c L M t n) : OUT t o := B.2.2.2.1
theorem TS.T {E : Int → tT} {o : tT} {c : Int} {L : Int → Int} {M : aM} {t : tT} {n : Int} (B : TS E o c L M t n) : TT M := B.2.2.2.2.1
theorem TS.F {E : Int → tT} {o : tT} {c : Int} {L : Int → Int} {M : aM} {t : tT} {n : Int} (B : TS E o c L M t n) : M 1 2 = M 75 15 ∧ M 1 3 = M 75 16 := B.2.2.2.2.2.1
theorem TS.Y {E : Int → tT} {o : tT} {c : Int} {L : Int → Int} {M : aM} {t : tT} {n : Int} (B : TS E o c L M t n) : ∀ τ, 0 ≤ τ → τ < 4 → TY M τ := B.2.2.2.2.2.2.1
theorem TS.G {E : Int → tT} {o : tT} {c : Int} {L : Int → Int} {M : aM} {t : tT} {n : Int} (B : TS E o c L M t n) : ∀ i, 0 ≤ i → i < 3 → TG E o M (60 * n) i := B.2.2.2.2.2.2.2.1
theorem TS.e {E : Int → tT} {o : tT} {c : Int} {L : Int → Int} {M : aM} {t : tT} {n : Int} (B : TS E o c L M t n) : M 1 4 ≤ n := B.2.2.2.2.2.2.2.2.1
theorem TS.r {E : Int → tT} {o : tT} {c : Int} {L : Int → Int} {M : aM} {t : tT} {n : Int} (B : TS E o c L M t n) : c ≤ 447 * n := B.2.2.2.2.2.2.2.2.2
theorem TT_keep {M M' : aM} (S : TT M) (h1 : M' 1 1 = M 1 1) (h7 : M' 75 7 = M 75 7) (h2 : M' 2 = M 2) (h81 : M' 81 = M 81) : TT M' := by
  unfold TT at S ⊢; rw [h1, h7, h2, h81]; exact S
theorem TY_keep {M M' : aM} {τ : Int} (S : TY M τ) (h96 : M' 96 τ = M 96 τ) (h97 : M' 97 τ = M 97 τ) (h33 : M' (33 + 2 * τ) = M (33 + 2 * τ)) (h34 : M' (34 + 2 * τ) = M (34 + 2 * τ)) (h98 : ∀ i, 0 ≤ i → i < 40 → M' 98 (40 * τ + i) = M 98 (40 * τ + i)) : TY M' τ := by
  unfold TY at S ⊢
  rw [h96, h97, h33, h34]
  refine ⟨S.1, S.2.imp id fun q => ⟨q.1, q.2.1, q.2.2.1, fun i g0 g1 => ?_⟩⟩
  rw [h98 i g0 g1]; exact q.2.2.2 i g0 g1
theorem TG_keep {E E' : Int → tT} {o : tT} {M M' : aM} {m m' i : Int} (S : TG E o M m i) (hE : ∀ k, k ≤ M 1 4 → E' k = E k) (h31 : M' 31 i = M 31 i) (h80 : M' 80 i = M 80 i) (h14 : M 1 4 ≤ M' 1 4) (hb : ∀ j, 0 ≤ j → j ≤ 12 → M' (100 + 13 * i + j) = M (100 + 13 * i + j)) (h79 : ∀ j, 0 ≤ j → j < 434 → M' 79 (434 * i + j) = M 79 (434 * i + j)) (hm : m ≤ m') : TG E' o M' m' i := by
  unfold TG at S ⊢
  rw [h31, h80]
  refine S.imp id fun q => ⟨q.1, q.2.1, ?_⟩
  obtain ⟨u, ⟨q1, q2, q3, q4, q5, q6, q7⟩, ou, v⟩ := q.2.2
  have h0 := hb 0 (by decide) (by decide)
  rw [Int.add_zero] at h0
  exact ⟨u, ⟨q1.eq hb, q2, q3, q4.le hm, by rw [h0, hE _ q7]; exact q5, by rw [h0]; exact q6, by rw [h0]; omega⟩, ou, fun j g0 g1 => (h79 j g0 g1).trans (v j g0 g1)⟩
section
variable {h : mH} {c : Int} {p L : Int → Int} {M : aM} {E : Int → tT} {o t : tT} {n : Int}
theorem TS_keep {c' : Int} {L' : Int → Int} {M' : aM} {u : tT} (S : TS E o c L M t n) (hn : 0 ≤ n) (hh : ∀ v, (v = 1 ∨ v = 2 ∨ v = 31 ∨ (33 ≤ v ∧ v ≤ 40) ∨ (79 ≤ v ∧ v ≤ 81) ∨ (96 ≤ v ∧ v ≤ 98) ∨ (100 ≤ v ∧ v ≤ 138)) → M' v = M v) (h75 : ∀ i, (i = 7 ∨ i = 15 ∨ i = 16) → M' 75 i = M 75 i) (K : KS E M' L' u) (I : RI M' u) (B : MDB u (60 * (n + 1))) (O : OUT u o) (hc : c' ≤ c + 447) : TS E o c' L' M' u (n + 1) := by
  refine ⟨K, I, B, O, TT_keep S.T (by rw [hh 1 (by decide)]) (h75 7 (by decide)) (hh 2 (by decide)) (hh 81 (by decide)), ?_, fun τ g0 g1 => ?_, fun i g0 g1 => ?_, ?_, ?_⟩
  · rw [hh 1 (by decide), h75 15 (by decide), h75 16 (by decide)]; exact S.F
  · exact TY_keep (S.Y τ g0 g1) (by rw [hh 96 (by decide)]) (by rw [hh 97 (by decide)]) (hh _ (by omega)) (hh _ (by omega)) (fun j _ _ => by rw [hh 98 (by decide)])
  · exact TG_keep (S.G i g0 g1) (fun _ _ => rfl) (by rw [hh 31 (by decide)]) (by rw [hh 80 (by decide)]) (by rw [hh 1 (by decide)]; exact Int.le_refl _) (fun j j0 j1 => hh _ (by omega)) (fun j _ _ => by rw [hh 79 (by decide)]) (by omega)
  · have := S.e
    rw [hh 1 (by decide)]; omega
  · have := S.r
    omega
theorem cM_no {v : Int} (hv : v = 1 ∨ v = 2 ∨ v = 31 ∨ (33 ≤ v ∧ v ≤ 40) ∨ (75 ≤ v ∧ v ≤ 98) ∨ (100 ≤ v ∧ v ≤ 138)) : v ∉ 99 :: cM := by
  simp only [cM, cA, List.mem_cons, List.not_mem_nil, or_false]; omega
theorem rL_no {v : Int} (hv : v = 1 ∨ v = 2 ∨ v = 31 ∨ (33 ≤ v ∧ v ≤ 40) ∨ (79 ≤ v ∧ v ≤ 81) ∨ (96 ≤ v ∧ v ≤ 98) ∨ (100 ≤ v ∧ v ≤ 138)) : v ∉ 76 :: rL := by
  simp only [rL, List.mem_cons, List.not_mem_nil, or_false]; omega
theorem rL_k {v : Int} (hv : ¬ kO v) : v ∉ 76 :: rL ∧ v ≠ 75 := by
  unfold kO at hv
  simp only [rL, List.mem_cons, List.not_mem_nil, or_false]; omega
/-- the reference's side stands while the class works -/
theorem RI_cl {M1 : aM} (I : RI M t) (F : Fr (99 :: cM) M M1) : RI M1 t := ⟨by rw [F 76 (cM_no (by decide))]; exact I.1, I.2.1, I.2.2.1, by rw [F 75 (cM_no (by decide))]; exact I.2.2.2⟩
theorem TS_mov {c' : Int} {L1 : Int → Int} {M1 M2 : aM} {u : tT} (S : TS E o c L M t n) (hn : 0 ≤ n) (F1 : Fr (99 :: cM) M M1) (K1 : KS E M1 L1 u) (F2 : FU M1 M2) (h76 : M2 76 = u) (hB : MDB u (60 * (n + 1))) (hO : OUT u o) (hc : c' ≤ c + 447) : TS E o c' L1 M2 u (n + 1) := by
  refine TS_keep S hn (fun v hv => ?_) (fun i hi => ?_) (K1.keep (fun v hv => ?_) (fun _ _ => rfl)) ⟨h76, K1.W, K1.D, ?_⟩ hB hO hc
  · rw [F2.1 v (rL_no hv) (by omega), F1 v (cM_no (by omega))]
  · rw [F2.2 i (by simp only [rS, List.mem_cons, List.not_mem_nil, or_false]; omega), F1 75 (cM_no (by decide))]
  · have := rL_k hv
    exact F2.1 v this.1 this.2
  · rw [F2.2 19 (by decide), F1 75 (cM_no (by decide))]; exact S.I.2.2.2
/-- what a call of the class comes to in the law's hands -/
def LW (c : Int) (M : aM) (E : Int → tT) (u : tT) (f : Option mR) (k y : Int) : Prop := ∃ h1 c1 p1 L1 M1, f = some ((0, k), h1) ∧ At h1 c1 p1 L1 M1 ∧ c1 ≤ c + 447 ∧ Fr (99 :: cM) M M1 ∧ KS E M1 L1 u ∧ (k = 0 → M1 99 0 = y)
theorem CR_cs {f : Option mR} {v : mV} (r : CR c M E t f v) : CS c M E t f v := by
  obtain ⟨h', c', p', L', M', a, b, d, e, k⟩ := r
  exact ⟨h', c', p', L', M', a, b, d, e.mono (fun v hv => List.mem_cons_of_mem _ (List.mem_cons_of_mem _ hv)), k⟩
theorem At.s99 (A : At h c p L M) (x : Int) : At (hput h 99 0 x) c p L (mup M 99 0 x) := A.aput (v := 99) 0 x (by decide) (by decide) (by decide) (by decide +kernel) (by decide) (by decide)
theorem fr99 {M1 : aM} (F : Fr cM M M1) : Fr (99 :: cM) M M1 := F.mono (fun v hv => List.mem_cons_of_mem _ hv)
theorem LW_ex {u : tT} {tg : Nat} {F : Option mR} {k y e : Int} (r : CS c M E u F (4, e)) (k0 : k ≠ 0) {K9 KX : Int → mH → Option mR} (hx : ∀ h1, KX e h1 = some ((0, k), h1)) : LW c M E u (bndC tg F K9 KX) k y := by
  obtain ⟨h1, c1, p1, L1, M1, rfl, A1, hc, F1, K1⟩ := r
  rw [bndC_ex, hx]
  exact ⟨h1, c1, p1, L1, M1, rfl, A1, by omega, fr99 F1, K1, fun q => absurd q k0⟩
theorem LW_put {u : tT} {h1 : mH} {c1 : Int} {p1 L1 : Int → Int} {M1 : aM} (A1 : At h1 c1 p1 L1 M1) (hc : c1 ≤ c + 6) (F1 : Fr cM M M1) (K1 : KS E M1 L1 u) (y : Int) : LW c M E u (chk (hpT h1 99 = 22) (chk ((0 : Int) ≤ 0 ∧ 0 < hpL h1 99) (wth (hput h1 99 0 y) (fun h3 => some ((0, 0), h3))))) 0 y := by
  have C := A1.ou
  rw [C.1, chk_t rfl, C.2.1, chk_t (by decide), wth]
  exact ⟨_, c1, p1, L1, _, rfl, A1.s99 y, by omega, (fr99 F1).pu (by decide), K1.keep (fun v hv => mup_fn (by unfold kO at hv; omega)) (fun _ _ => rfl), fun _ => mup_eq _ _ _ _⟩
theorem LW_of {u : tT} {tg : Nat} (htg : tg ≠ 4) {F : Option mR} {v : mV} (r : CS c M E u F v) {k y e : Int} (hv : (k = 0 ∧ v = (tg, y)) ∨ (k ≠ 0 ∧ v = (4, e))) {KX : Int → mH → Option mR} (hx : k ≠ 0 → ∀ h1, KX e h1 = some ((0, k), h1)) : LW c M E u (bndC tg F (fun x2 h1 => chk (hpT h1 99 = 22) (chk ((0 : Int) ≤ 0 ∧ 0 < hpL h1 99) (wth (hput h1 99 0 x2) (fun h3 => some ((0, 0), h3))))) KX) k y := by
  rcases hv with ⟨rfl, rfl⟩ | ⟨k0, rfl⟩
  · obtain ⟨h1, c1, p1, L1, M1, rfl, A1, hc, F1, K1⟩ := r
    rw [bndC_ok htg]
    exact LW_put A1 hc F1 K1 y
  · exact LW_ex r k0 (hx k0)
/-- a call that tells yes or no -/
theorem LW_ofB {u : tT} {F : Option mR} {v : mV} (r : CS c M E u F v) {k y e : Int} (hy : y = 0 ∨ y = 1) (hv : (k = 0 ∧ v = (0, y)) ∨ (k ≠ 0 ∧ v = (4, e))) {KX : Int → mH → Option mR} (hx : k ≠ 0 → ∀ h1, KX e h1 = some ((0, k), h1)) : LW c M E u (bndC 0 F (fun x2 h1 => (if x2 = (0 : Int) then chk (hpT h1 99 = 22) (chk ((0 : Int) ≤ 0 ∧ 0 < hpL h1 99) (wth (hput h1 99 0 0) (fun h3 => some ((0, 0), h3)))) else chk (hpT h1 99 = 22) (chk ((0 : Int) ≤ 0 ∧ 0 < hpL h1 99) (wth (hput h1 99 0 1) (fun h3 => some ((0, 0), h3)))))) KX) k y := by
  rcases hv with ⟨rfl, rfl⟩ | ⟨k0, rfl⟩
  · obtain ⟨h1, c1, p1, L1, M1, rfl, A1, hc, F1, K1⟩ := r
    rw [bndC_ok (by decide)]
    rcases hy with rfl | rfl
    · rw [if_pos rfl]; exact LW_put A1 hc F1 K1 0
    · rw [if_neg (by decide)]; exact LW_put A1 hc F1 K1 1
  · exact LW_ex r k0 (hx k0)
theorem s_thrown (A : At h c p L M) : f_Md_thrown h 75 = some ((0, M 75 5), h) := by
  have C := A.md
  unfold f_Md_thrown
  simp only [C]
  rw [chk_t trivial]
theorem RV_rc (I : RI M t) {tg : Nat} {f : Option mR} {x k : Int} (r : RV c p L M tg f x k) : RC c p L M tg f x k t := by
  obtain ⟨h', M', y, a, b, d, e, g⟩ := r
  exact ⟨h', M', y, a, b, d, e.mono (fun v hv => List.mem_cons_of_mem _ hv) (fun _ q => q), by rw [e.1 76 (by decide) (by decide)]; exact I.1, g⟩
/-- behind the class's call: the reference's, what is thrown, both answers -/
theorem lw_end (A : At h c p L M) {u : tT} {tg : Nat} (htg : tg ≠ 4) {f : Option mR} {x kk k : Int} (r : RC c p L M tg f x kk u) (hk : kk = k) (hy : k = 0 → M 99 0 = x) : ∃ h2 M2, At h2 c p L M2 ∧ FU M M2 ∧ M2 76 = u ∧ ∀ (Z B1 B2 : mH → Option mR), chk (hpT h 75 = 12) (bndT tg f (fun x4 h3 => chk (hpT h3 75 = 12) (bndT 0 (f_Md_thrown h3 75) (fun x6 h5 => (if x6 = k then (if k = (0 : Int) then chk (hpT h5 99 = 22) (chk ((0 : Int) ≤ 0 ∧ 0 < hpL h5 99) (if qlcmp (hpV h5 99 0) x4 = (0 : Int) then Z h5 else B1 h5)) else Z h5) else B2 h5))))) = Z h2 := by
  obtain ⟨h2, M2, y, rfl, hyx, A2, F2, e76, e5⟩ := r
  refine ⟨h2, M2, A2, F2, e76, fun Z B1 B2 => ?_⟩
  have C := A2.ou
  rw [chk_t (MH.of A).T, bndT_ok htg, chk_t (MH.of A2).T, s_thrown A2, bndT_ok (by decide), if_pos (e5.trans hk)]
  by_cases g : k = 0
  · have e99 : hpV h2 99 0 = y := by
      rw [C.2.2 0, F2.1 99 (by decide) (by decide), hy g, hyx (hk.trans g)]
    rw [if_pos g, C.1, chk_t rfl, C.2.1, chk_t (by decide), e99, if_pos (qlcmp_eq.mpr rfl)]
  · rw [if_neg g]
theorem lw_endB (A : At h c p L M) {u : tT} {f : Option mR} {x kk k : Int} (hx : x = 0 ∨ x = 1) (r : RC c p L M 0 f x kk u) (hk : kk = k) (hy : k = 0 → M 99 0 = x) : ∃ h2 M2, At h2 c p L M2 ∧ FU M M2 ∧ M2 76 = u ∧ ∀ (Z B1 B2 : mH → Option mR), chk (hpT h 75 = 12) (bndT 0 f (fun x4 h3 => chk (hpT h3 75 = 12) (bndT 0 (f_Md_thrown h3 75) (fun x6 h5 => (if x6 = k then (if k = (0 : Int) then chk (hpT h5 99 = 22) (chk ((0 : Int) ≤ 0 ∧ 0 < hpL h5 99) (if x4 = (0 : Int) then (if qlcmp (hpV h5 99 0) 0 = (0 : Int) then Z h5 else B1 h5) else (if qlcmp (hpV h5 99 0) 1 = (0 : Int) then Z h5 else B1 h5))) else Z h5) else B2 h5))))) = Z h2 := by
  obtain ⟨h2, M2, y, rfl, hyx, A2, F2, e76, e5⟩ := r
  refine ⟨h2, M2, A2, F2, e76, fun Z B1 B2 => ?_⟩
  have C := A2.ou
  rw [chk_t (MH.of A).T, bndT_ok (by decide), chk_t (MH.of A2).T, s_thrown A2, bndT_ok (by decide), if_pos (e5.trans hk)]
  by_cases g : k = 0
  · have e99 : hpV h2 99 0 = x := by
      rw [C.2.2 0, F2.1 99 (by decide) (by decide), hy g]
    rw [if_pos g, C.1, chk_t rfl, C.2.1, chk_t (by decide), e99, hyx (hk.trans g)]
    rcases hx with rfl | rfl
    · rw [if_pos rfl, if_pos (qlcmp_eq.mpr rfl)]
    · rw [if_neg (by decide), if_pos (qlcmp_eq.mpr rfl)]
  · rw [if_neg g]
/-- calls that throw nothing: both answers -/
theorem lw_plain (A : At h c p L M) {u : tT} {f : Option mR} {x : Int} (r : RC c p L M 0 f x 0 u) : ∃ h2 M2, At h2 c p L M2 ∧ FU M M2 ∧ M2 76 = u ∧ ∀ (Z B1 : mH → Option mR), chk (hpT h 75 = 12) (bndT 0 f (fun x4 h3 => (if x = x4 then Z h3 else B1 h3))) = Z h2 := by
  obtain ⟨h2, M2, y, rfl, hyx, A2, F2, e76, e5⟩ := r
  refine ⟨h2, M2, A2, F2, e76, fun Z B1 => ?_⟩
  rw [chk_t (MH.of A).T, bndT_ok (by decide), if_pos (hyx rfl).symm]
end
def GO (o : tT) (n i : Int) (f : (mH → Int → Option mR) → Option mR) : Prop := ∃ h' E' c' p' L' M' t', (∀ R, f R = R h' (i + 6)) ∧ At h' c' p' L' M' ∧ TS E' o c' L' M' t' (n + 1)
theorem gX_rng (G : mG) (i : Int) : -2147483648 ≤ gX G i ∧ gX G i < 2147483648 := i32_rng _
theorem lw_next (G : mG) (R : mH → Int → Option mR) {i : Int} (i0 : 0 ≤ i) (i1 : i < 100000) (h : mH) : f_Law_law_J2642 G R i h = R h (i + 6) := by
  unfold f_Law_law_J2642
  rw [wtv, w32_id (by omega) (by omega)]
