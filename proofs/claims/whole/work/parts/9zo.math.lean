/-! THE LAW, ALL OF IT -/
theorem lv_0 {v : Int} (h : lv MZ v) : 1 ≤ v ∧ v ≤ 99 := by
  rcases h with h | ⟨h1, h2, h3⟩
  · exact h
  · exfalso
    apply h3
    rcases (show (v - 100) / 13 = 0 ∨ (v - 100) / 13 = 1 ∨ (v - 100) / 13 = 2 by omega) with e | e | e <;> rw [e]
    · exact vzD (by decide)
    · exact vzD (by decide)
    · exact vzD (by decide)
theorem zD_at {v : Int} (h : 1 ≤ v ∧ v ≤ 99) : hpT zD v = kd v ∧ (21 ≤ kd v → hpL zD v = ln v) := by
  have := zD_TL ⟨(v - 1).toNat, by omega⟩
  rw [show (((⟨(v - 1).toNat, by omega⟩ : Fin 99).val : Nat) : Int) + 1 = v by show (((v - 1).toNat : Nat) : Int) + 1 = v; omega] at this
  exact this
theorem zD_ptr {v i : Int} (h : 1 ≤ v ∧ v ≤ 99) (hp : pt v i ≠ 0) : hpV zD v i = pt v i := by
  unfold pt at hp ⊢
  by_cases g : 21 ≤ kd v ∧ v ≠ 32
  · rw [if_pos g] at hp; exact absurd rfl hp
  rw [if_neg g] at hp ⊢
  by_cases g1 : kd v = 1
  · rw [if_pos g1] at hp ⊢
    by_cases g2 : 6 ≤ i ∧ i ≤ 17
    · rw [if_pos g2]
      have hv : v = 5 ∨ v = 18 := by
        have H : ∀ k : Fin 100, kd ((k.val : Nat) : Int) = 1 → k.val = 5 ∨ k.val = 18 := by decide +kernel
        have := H ⟨v.toNat, by omega⟩
        rw [show (((⟨v.toNat, by omega⟩ : Fin 100).val : Nat) : Int) = v by show ((v.toNat : Nat) : Int) = v; omega] at this
        have := this g1
        have : v.toNat = 5 ∨ v.toNat = 18 := this
        omega
      have b := zD_bx ⟨(i - 6).toNat, by omega⟩
      rw [show (((⟨(i - 6).toNat, by omega⟩ : Fin 12).val : Nat) : Int) + 6 = i by show (((i - 6).toNat : Nat) : Int) + 6 = i; omega] at b
      rcases hv with rfl | rfl
      · exact b.1
      · exact b.2
    · rw [if_neg g2] at hp; exact absurd rfl hp
  · rw [if_neg g1] at hp ⊢
    cases e : ptL.find? (fun q => q.1 == v && q.2.1 == i) with
    | none => rw [e] at hp; exact absurd rfl hp
    | some q =>
      have h1 := List.mem_of_find?_eq_some e
      have h2 := List.find?_some e
      have h2 : (q.1 == v && q.2.1 == i) = true := h2
      rw [Bool.and_eq_true, beq_iff_eq, beq_iff_eq] at h2
      have h3 := zD_pt q h1
      rw [h2.1, h2.2] at h3
      exact h3
theorem zD_At : At zD 0 id ln MZ := by
  have hN := zD_NS
  refine ⟨⟨by omega, by rw [gw_sum.1]; omega, by rw [gw_sum.2]; omega⟩, fun v hv => ?_, fun v w _ _ h => h, fun v _ _ _ => ⟨rfl, rfl⟩, fun v _ _ => rfl, gw_ln, fun v i _ _ => rfl, fun v i hv hp => zD_ptr (lv_0 hv) hp, fun i g0 g1 g => ?_⟩
  · have h := lv_0 hv
    have a := zD_at h
    exact ⟨h.1, by show v ≤ _; omega, a.1, a.2⟩
  · exfalso
    apply g
    rcases (show i = 0 ∨ i = 1 ∨ i = 2 by omega) with rfl | rfl | rfl
    · exact vzD (by decide)
    · exact vzD (by decide)
    · exact vzD (by decide)
theorem zD_TS : TS (fun _ => MZ 76) (MZ 76) 0 ln MZ (MZ 76) 0 := by
  have e0 : MZ 76 0 = 0 := vzD (by decide)
  have e1 : nb (MZ 76) = 0 := vzD (a := 76) (b := 1) (by decide)
  have e2 : nr (MZ 76) = 0 := vzD (a := 76) (b := 2) (by decide)
  have e3 : ne (MZ 76) = 0 := vzD (a := 76) (b := 3) (by decide)
  have e4 : we (MZ 76) = 0 := vzD (a := 76) (b := 4) (by decide)
  have W : WS (MZ 76) := ⟨by omega, by omega, by omega, by omega, by omega, fun b b0 b1 => by omega, fun r r0 r1 => by omega⟩
  have D : RW (MZ 76) (pa (MZ 76)) := fun b b0 b1 => by omega
  have c14 : MZ 1 4 = 0 := vzD (by decide)
  have c50 : MZ 5 0 = 0 := vzD (by decide)
  have R : BR5 MZ (MZ 76) := ⟨⟨by rw [e0]; exact vzD (by decide), by rw [e1]; exact vzD (by decide), by rw [e2]; exact vzD (by decide), by rw [e3]; exact vzD (by decide), by rw [e4]; exact vzD (by decide)⟩, fun b b0 b1 => by omega, fun r r0 r1 => by omega⟩
  refine ⟨⟨R, W, D, Sq.refl _, by rw [c50, c14]; decide, ⟨Or.inl (vzD (by decide)), ?_⟩, ⟨Or.inl (vzD (by decide)), ?_, vzD (by decide)⟩, ⟨Or.inl (vzD (by decide)), ?_, vzD (by decide)⟩, ⟨Or.inl (vzD (by decide)), ?_, vzD (by decide)⟩, ⟨Or.inl (vzD (by decide)), ?_⟩⟩, ⟨rfl, W, D, vzD (by decide)⟩, fun b b0 b1 => by omega, fun _ _ => rfl, ⟨?_, fun i i0 i1 => ?_⟩, ?_, fun τ g0 g1 => ?_, fun i g0 g1 => ?_, by rw [c14]; decide, by decide⟩
  · rw [c14, show MZ 41 0 = -1 from vzD (by decide)]; decide
  · rw [c14, show MZ 48 1 = -1 from vzD (by decide)]; decide
  · rw [c14, show MZ 51 1 = -1 from vzD (by decide)]; decide
  · rw [c14, show MZ 54 1 = -1 from vzD (by decide)]; decide
  · rw [c14, show MZ 64 2 = -1 from vzD (by decide)]; decide
  · rw [show MZ 1 1 = 0 from vzD (by decide), show MZ 75 7 = 0 from vzD (by decide)]; decide
  · rw [show MZ 1 1 = 0 from vzD (by decide)] at i1; omega
  · rw [show MZ 1 2 = 0 from vzD (by decide), show MZ 1 3 = -1 from vzD (by decide), show MZ 75 15 = 0 from vzD (by decide), show MZ 75 16 = -1 from vzD (by decide)]; decide
  · rcases (show τ = 0 ∨ τ = 1 ∨ τ = 2 ∨ τ = 3 by omega) with rfl | rfl | rfl | rfl
    · exact ⟨by rw [show MZ 97 0 = 0 from vzD (by decide)]; decide, Or.inl ⟨vzD (by decide), vzD (a := 33) (b := 2) (by decide)⟩⟩
    · exact ⟨by rw [show MZ 97 1 = 0 from vzD (by decide)]; decide, Or.inl ⟨vzD (by decide), vzD (a := 35) (b := 2) (by decide)⟩⟩
    · exact ⟨by rw [show MZ 97 2 = 0 from vzD (by decide)]; decide, Or.inl ⟨vzD (by decide), vzD (a := 37) (b := 2) (by decide)⟩⟩
    · exact ⟨by rw [show MZ 97 3 = 0 from vzD (by decide)]; decide, Or.inl ⟨vzD (by decide), vzD (a := 39) (b := 2) (by decide)⟩⟩
  · rcases (show i = 0 ∨ i = 1 ∨ i = 2 by omega) with rfl | rfl | rfl
    · exact Or.inl ⟨vzD (by decide), vzD (by decide)⟩
    · exact Or.inl ⟨vzD (by decide), vzD (by decide)⟩
    · exact Or.inl ⟨vzD (by decide), vzD (by decide)⟩
section
variable {h : mH} {c : Int} {p L : Int → Int} {M : aM} {E : Int → tT} {o t : tT} {n i : Int}
theorem GO_if {q k : Int} {f1 f2 : (mH → Int → Option mR) → Option mR} (h1 : GO o n i f1) (h2 : GO o n i f2) : GO o n i (fun R => if q = k then f1 R else f2 R) := by
  by_cases e : q = k
  · obtain ⟨h', E', c', p', L', M', t', a, b⟩ := h1
    exact ⟨h', E', c', p', L', M', t', fun R => (if_pos e).trans (a R), b⟩
  · obtain ⟨h', E', c', p', L', M', t', a, b⟩ := h2
    exact ⟨h', E', c', p', L', M', t', fun R => (if_neg e).trans (a R), b⟩
theorem lw_skip (G : mG) (A : At h c p L M) (S : TS E o c L M t n) (hn : 0 ≤ n ∧ n < 512) (i0 : 0 ≤ i) (i1 : i + 6 ≤ (gLen G : Int)) (il : (gLen G : Int) ≤ 3072) : GO o n i (fun R => f_Law_law_J2642 G R i h) :=
  ⟨h, E, c, p, L, M, t, fun R => lw_next G R i0 (by omega) h, A, TS_keep S hn.1 (fun _ _ => rfl) (fun _ _ => rfl) S.K S.I (S.B.le (by omega)) S.O (by omega)⟩
theorem lw_turn (G : mG) (A : At h c p L M) (S : TS E o c L M t n) (hn : 0 ≤ n ∧ n < 512) (i0 : 0 ≤ i) (i1 : i + 6 ≤ (gLen G : Int)) (il : (gLen G : Int) ≤ 3072) : GO o n i (fun R => if qand (gX G i) 63 = 0 then f_Law_law_J228 G R 1 75 i h else if qand (gX G i) 63 = 1 then f_Law_law_J301 G R 1 75 99 i h else if qand (gX G i) 63 = 2 then f_Law_law_J357 G R 1 75 i h else if qand (gX G i) 63 = 3 then f_Law_law_J382 G R 1 75 99 i h else if qand (gX G i) 63 = 4 then f_Law_law_J450 G R 1 75 99 i h else if qand (gX G i) 63 = 5 then f_Law_law_J518 G R 1 75 i h else if qand (gX G i) 63 = 6 then f_Law_law_J531 G R 1 75 99 i h else if qand (gX G i) 63 = 7 then f_Law_law_J599 G R 1 75 i h else if qand (gX G i) 63 = 8 then f_Law_law_J612 G R 1 75 i h else if qand (gX G i) 63 = 9 then f_Law_law_J665 G R 1 75 i h else if qand (gX G i) 63 = 10 then f_Law_law_J718 G R 1 75 i h else if qand (gX G i) 63 = 11 then f_Law_law_J771 G R 1 75 99 i h else if qand (gX G i) 63 = 12 then f_Law_law_J839 G R 1 75 99 i h else if qand (gX G i) 63 = 13 then f_Law_law_J895 G R 1 75 99 i h else if qand (gX G i) 63 = 14 then f_Law_law_J963 G R 1 75 i h else if qand (gX G i) 63 = 15 then f_Law_law_J976 G R 1 75 99 i h else if qand (gX G i) 63 = 16 then f_Law_law_J1039 G R 1 75 99 i h else if qand (gX G i) 63 = 17 then f_Law_law_J1119 G R 1 75 99 i h else if qand (gX G i) 63 = 18 then f_Law_law_J1175 G R 1 75 99 i h else if qand (gX G i) 63 = 19 then f_Law_law_J1218 G R 1 75 99 i h else if qand (gX G i) 63 = 20 then f_Law_law_J1274 G R 1 75 99 i h else if qand (gX G i) 63 = 21 then f_Law_law_J1330 G R 1 75 99 i h else if qand (gX G i) 63 = 22 then f_Law_law_J1393 G R 1 75 99 i h else if qand (gX G i) 63 = 23 then f_Law_law_J1449 G R 1 75 99 i h else if qand (gX G i) 63 = 24 then f_Law_law_J1493 G R 1 75 99 i h else if qand (gX G i) 63 = 25 then f_Law_law_J1549 G R 1 75 99 i h else if qand (gX G i) 63 = 26 then f_Law_law_J1605 G R 1 75 99 i h else if qand (gX G i) 63 = 27 then f_Law_law_J1673 G R 1 75 99 i h else if qand (gX G i) 63 = 28 then f_Law_law_J1741 G R 1 75 99 i h else if qand (gX G i) 63 = 29 then f_Law_law_J1797 G R 1 75 99 i h else if qand (gX G i) 63 = 30 then f_Law_law_J1841 G R 1 75 99 i h else if qand (gX G i) 63 = 31 then f_Law_law_J1909 G R 1 75 99 i h else if qand (gX G i) 63 = 32 then f_Law_law_J1964 G R 1 75 99 i h else if qand (gX G i) 63 = 33 then f_Law_law_J2031 G R 1 75 99 i h else if qand (gX G i) 63 = 34 then f_Law_law_J2111 G R 1 75 99 i h else if qand (gX G i) 63 = 35 then f_Law_law_J2191 G R 1 75 99 i h else if qand (gX G i) 63 = 36 then f_Law_law_J2274 G R 1 75 99 i h else if qand (gX G i) 63 = 37 then f_Law_law_J2318 G R 1 75 i h else if qand (gX G i) 63 = 38 then f_Law_law_J2378 G R 1 75 99 i h else if qand (gX G i) 63 = 39 then f_Law_law_J2489 G R 1 75 99 i h else if qand (gX G i) 63 = 40 then f_Law_law_J2545 G R 1 75 i h else if qand (gX G i) 63 = 41 then f_Law_law_J2581 G R 1 75 i h else if qand (gX G i) 63 = 42 then f_Law_law_J2617 G R 1 75 i h else f_Law_law_J2642 G R i h) :=
  GO_if (lw_0 G A S hn i0 i1 il) (GO_if (lw_1 G A S hn i0 i1 il) (GO_if (lw_2 G A S hn i0 i1 il) (GO_if (lw_3 G A S hn i0 i1 il) (GO_if (lw_4 G A S hn i0 i1 il) (GO_if (lw_5 G A S hn i0 i1 il) (GO_if (lw_6 G A S hn i0 i1 il) (GO_if (lw_7 G A S hn i0 i1 il) (GO_if (lw_8 G A S hn i0 i1 il) (GO_if (lw_9 G A S hn i0 i1 il) (GO_if (lw_10 G A S hn i0 i1 il) (GO_if (lw_11 G A S hn i0 i1 il) (GO_if (lw_12 G A S hn i0 i1 il) (GO_if (lw_13 G A S hn i0 i1 il) (GO_if (lw_14 G A S hn i0 i1 il) (GO_if (lw_15 G A S hn i0 i1 il) (GO_if (lw_16 G A S hn i0 i1 il) (GO_if (lw_17 G A S hn i0 i1 il) (GO_if (lw_18 G A S hn i0 i1 il) (GO_if (lw_19 G A S hn i0 i1 il) (GO_if (lw_20 G A S hn i0 i1 il) (GO_if (lw_21 G A S hn i0 i1 il) (GO_if (lw_22 G A S hn i0 i1 il) (GO_if (lw_23 G A S hn i0 i1 il) (GO_if (lw_24 G A S hn i0 i1 il) (GO_if (lw_25 G A S hn i0 i1 il) (GO_if (lw_26 G A S hn i0 i1 il) (GO_if (lw_27 G A S hn i0 i1 il) (GO_if (lw_28 G A S hn i0 i1 il) (GO_if (lw_29 G A S hn i0 i1 il) (GO_if (lw_30 G A S hn i0 i1 il) (GO_if (lw_31 G A S hn i0 i1 il) (GO_if (lw_32 G A S hn i0 i1 il) (GO_if (lw_33 G A S hn i0 i1 il) (GO_if (lw_34 G A S hn i0 i1 il) (GO_if (lw_35 G A S hn i0 i1 il) (GO_if (lw_36 G A S hn i0 i1 il) (GO_if (lw_37 G A S hn i0 i1 il) (GO_if (lw_38 G A S hn i0 i1 il) (GO_if (lw_39 G A S hn i0 i1 il) (GO_if (lw_40 G A S hn i0 i1 il) (GO_if (lw_41 G A S hn i0 i1 il) (GO_if (lw_42 G A S hn i0 i1 il) (lw_skip G A S hn i0 i1 il)))))))))))))))))))))))))))))))))))))))))))
theorem room_ok (A : At h c p L M) (hc : c ≤ 447 * 512) : hpN h ≤ 601024 ∧ hpS h ≤ 7293034 := by
  have hN := A.1
  have g := fun v hv => A.gw (v := v) hv
  have c1 : ∀ {m l : Int}, 0 ≤ l → l ≤ m → cst m l ≤ 3 * m := fun {m l} l0 l1 => by unfold cst; split <;> omega
  have g44 : 0 ≤ L 44 ∧ L 44 ≤ 20000 := g 44 (by decide)
  have s44 := c1 (m := 20000) g44.1 g44.2
  have g45 : 0 ≤ L 45 ∧ L 45 ≤ 20000 := g 45 (by decide)
  have s45 := c1 (m := 20000) g45.1 g45.2
  have g46 : 0 ≤ L 46 ∧ L 46 ≤ 20000 := g 46 (by decide)
  have s46 := c1 (m := 20000) g46.1 g46.2
  have g47 : 0 ≤ L 47 ∧ L 47 ≤ 20000 := g 47 (by decide)
  have s47 := c1 (m := 20000) g47.1 g47.2
  have g49 : 0 ≤ L 49 ∧ L 49 ≤ 20000 := g 49 (by decide)
  have s49 := c1 (m := 20000) g49.1 g49.2
  have g50 : 0 ≤ L 50 ∧ L 50 ≤ 20000 := g 50 (by decide)
  have s50 := c1 (m := 20000) g50.1 g50.2
  have g52 : 0 ≤ L 52 ∧ L 52 ≤ 20000 := g 52 (by decide)
  have s52 := c1 (m := 20000) g52.1 g52.2
  have g53 : 0 ≤ L 53 ∧ L 53 ≤ 20000 := g 53 (by decide)
  have s53 := c1 (m := 20000) g53.1 g53.2
  have g55 : 0 ≤ L 55 ∧ L 55 ≤ 20000 := g 55 (by decide)
  have s55 := c1 (m := 20000) g55.1 g55.2
  have g56 : 0 ≤ L 56 ∧ L 56 ≤ 20000 := g 56 (by decide)
  have s56 := c1 (m := 20000) g56.1 g56.2
  have g58 : 0 ≤ L 58 ∧ L 58 ≤ 20000 := g 58 (by decide)
  have s58 := c1 (m := 20000) g58.1 g58.2
  have g59 : 0 ≤ L 59 ∧ L 59 ≤ 20000 := g 59 (by decide)
  have s59 := c1 (m := 20000) g59.1 g59.2
  have g61 : 0 ≤ L 61 ∧ L 61 ≤ 40000 := g 61 (by decide)
  have s61 := c1 (m := 40000) g61.1 g61.2
  have g62 : 0 ≤ L 62 ∧ L 62 ≤ 20000 := g 62 (by decide)
  have s62 := c1 (m := 20000) g62.1 g62.2
  have g63 : 0 ≤ L 63 ∧ L 63 ≤ 40000 := g 63 (by decide)
  have s63 := c1 (m := 40000) g63.1 g63.2
  unfold AtN sumL sumC at hN
  clear A c1
  omega
theorem law_loop (G : mG) (g : GOK G) (A : At h 0 p L M) (S : TS E o 0 L M t 0) : ∃ h', f_Law_law_L23 G 1 75 99 1000000 h 0 = some ((0, 1), h') ∧ hpN h' ≤ 601024 ∧ hpS h' ≤ 7293034 := by
  have il : gLen G ≤ 3072 := g.2.2.2.1.2.2
  have w6 : w32 ((gLen G : Int) - 6) = (gLen G : Int) - 6 := w32_id (by omega) (by omega)
  refine loop_r (F := fun k (x : mH × Int) => f_Law_law_L23 G 1 75 99 k x.1 x.2) (P := fun r => ∃ h', r = some ((0, 1), h') ∧ hpN h' ≤ 601024 ∧ hpS h' ≤ 7293034) (fun j x => x.2 = 6 * (j : Int) ∧ ∃ E c p L M t, At x.1 c p L M ∧ TS E o c L M t j) (gLen G / 6) (fun j hj x hx k => ?_) (fun x hx k => ?_) (i := 0) (b := (h, 0)) ⟨rfl, E, 0, p, L, M, t, A, S⟩ (by omega) (by omega)
  · obtain ⟨h1, v⟩ := x
    obtain ⟨hv, E, c, p, L, M, t, A1_, S1⟩ := hx
    have hv : v = 6 * (j : Int) := hv
    have A1 : At h1 c p L M := A1_
    clear A1_
    subst hv
    right
    obtain ⟨h2, E2, c2, p2, L2, M2, t2, f2, A2, S2⟩ := lw_turn G A1 S1 (i := 6 * (j : Int)) (by omega) (by omega) (by omega) (by omega)
    refine ⟨(h2, 6 * (j : Int) + 6), ⟨by show 6 * (j : Int) + 6 = 6 * ((j + 1 : Nat) : Int); omega, E2, c2, p2, L2, M2, t2, A2, by rw [show ((j + 1 : Nat) : Int) = (j : Int) + 1 by omega]; exact S2⟩, ?_⟩
    show f_Law_law_L23 G 1 75 99 (k + 1) h1 (6 * (j : Int)) = f_Law_law_L23 G 1 75 99 k h2 (6 * (j : Int) + 6)
    rw [f_Law_law_L23, w6, if_neg (by omega), chk_t (by omega)]
    exact f2 (f_Law_law_L23 G 1 75 99 k)
  · obtain ⟨h1, v⟩ := x
    obtain ⟨hv, E, c, p, L, M, t, A1_, S1⟩ := hx
    have hv : v = 6 * ((gLen G / 6 : Nat) : Int) := hv
    have A1 : At h1 c p L M := A1_
    clear A1_
    subst hv
    have r := S1.r
    refine ⟨h1, ?_, room_ok A1 (by omega)⟩
    show f_Law_law_L23 G 1 75 99 (k + 1) h1 _ = _
    rw [f_Law_law_L23, w6, if_pos (by omega), chk_t (by decide)]
end
theorem law_math : ∀ G : mG, GOK G → ∃ h' : mH, f_Law_law G mH0 = some ((0, 1), h') ∧ hpN h' ≤ 601024 ∧ hpS h' ≤ 7293034 := by
  intro G g
  obtain ⟨h', e, r⟩ := law_loop G g zD_At zD_TS
  refine ⟨h', ?_, r⟩
  have n0 : hpN mH0 + 1 = 1 := rfl
  unfold f_Law_law
  rw [wth, n0, chk_t (by decide), show f_Nb_init (halc mH0 11 0 19) 1 = yA from rfl, yA_eq.1, bndR_ok, wtv, wth, yA_eq.2, show (74 : Int) + 1 = 75 from rfl, chk_t (by decide), show f_Md_init (halc zA 12 0 40) 75 = yC from rfl, yC_eq.1, bndR_ok, wtv, chk_t (by decide), wth, wtv, yC_eq.2, show (98 : Int) + 1 = 99 from rfl]
  exact e
