/-! THE REFERENCE READS A RULE, A LINE, A TEXT -/
def kRule (k b a o : Int) : mH → Option mR := fun h10  => chk (hpT h10 75 = 12) ((if hpV h10 75 13 = (0 : Int) then chk (hpT h10 75 = 12) (chk (hpT h10 (hpV h10 75 1) = 21) (chk ((0 : Int) ≤ k ∧ k < hpL h10 (hpV h10 75 1)) (wth (hput h10 (hpV h10 75 1) k b) (fun h11 => chk (hpT h11 75 = 12) (chk (hpT h11 (hpV h11 75 1) = 21) (chk ((0 : Int) ≤ w32 (k + 1) ∧ w32 (k + 1) < hpL h11 (hpV h11 75 1)) (wth (hput h11 (hpV h11 75 1) (w32 (k + 1)) a) (fun h12 => chk (hpT h12 75 = 12) (chk (hpT h12 (hpV h12 75 1) = 21) (chk ((0 : Int) ≤ w32 (k + 2) ∧ w32 (k + 2) < hpL h12 (hpV h12 75 1)) (wth (hput h12 (hpV h12 75 1) (w32 (k + 2)) o) (fun h13 => chk (hpT h13 75 = 12) (chk (hpT h13 (hpV h13 75 1) = 21) (chk ((0 : Int) ≤ 2 ∧ 2 < hpL h13 (hpV h13 75 1)) (chk (hpT h13 (hpV h13 75 1) = 21) (chk ((0 : Int) ≤ 2 ∧ 2 < hpL h13 (hpV h13 75 1)) (wth (hput h13 (hpV h13 75 1) 2 (w32 ((hpV h13 (hpV h13 75 1) 2) + 1))) (fun h14 => some ((3, 0), h14))))))))))))))))))) else some ((3, 0), h10)))
theorem tP_cases {α : Type} (x : tP α) : (∃ e, x = .inl e) ∨ ∃ a, x = .inr a := by
  match x with
  | .inl e => exact Or.inl ⟨e, rfl⟩
  | .inr a => exact Or.inr ⟨a, rfl⟩
section
variable {h : mH} {c : Int} {p L : Int → Int} {M : aM} {f : Int → Int} {len : Int}
theorem s_cp77 (A : At h c p L M) : ∃ h' M', f_Md_copies h 77 76 = some ((3, 0), h') ∧ At h' c p L M' ∧ Fr [76] M M' ∧ ∀ j : Int, M' 76 j = if 0 ≤ j ∧ j < 434 then M 77 j else M 76 j := by
  unfold f_Md_copies
  refine loop_r (F := fun n (b : mH × Int) => f_Md_copies_L2 77 76 n b.1 b.2) (P := fun r => ∃ h' M', r = some ((3, 0), h') ∧ At h' c p L M' ∧ Fr [76] M M' ∧ ∀ j : Int, M' 76 j = if 0 ≤ j ∧ j < 434 then M 77 j else M 76 j) (fun i b => b.2 = (i : Int) ∧ ∃ M', At b.1 c p L M' ∧ Fr [76] M M' ∧ ∀ j : Int, M' 76 j = if 0 ≤ j ∧ j < (i : Int) then M 77 j else M 76 j) 434 (fun i hi b hb n => ?_) (fun b hb n => ?_) (i := 0) (b := (h, 0)) ⟨rfl, M, A, Fr.rf _ _, fun j => by rw [if_neg (by omega)]⟩ (by omega) (by omega)
  · obtain ⟨h2, r⟩ := b
    obtain ⟨hr_, M2, A2_, F2, v2⟩ := hb
    have hr : r = (i : Int) := hr_
    have A2 : At h2 c p L M2 := A2_
    clear hr_ A2_
    subst hr
    right
    have C2 := A2.md
    have A3 := A2.aput (v := 76) i (M 77 i) (by decide) (by decide) (by decide) (by decide +kernel) (by decide) (by decide)
    refine ⟨(hput h2 76 i (M 77 i), ((i + 1 : Nat) : Int)), ⟨rfl, _, A3, F2.pu (by decide), fun j => ?_⟩, ?_⟩
    · by_cases e : j = i
      · rw [e, mup_eq, if_pos (by omega)]
      · rw [mup_ne (Or.inr e), v2 j]
        by_cases g : 0 ≤ j ∧ j < (i : Int)
        · rw [if_pos g, if_pos (by omega)]
        · rw [if_neg g, if_neg (by omega)]
    · show f_Md_copies_L2 77 76 (n + 1) h2 i = f_Md_copies_L2 77 76 n (hput h2 76 i (M 77 i)) ((i + 1 : Nat) : Int)
      rw [f_Md_copies_L2, if_neg (by omega)]
      simp only [C2]
      rw [chk_t trivial, chk_t (by omega), chk_t trivial, chk_t (by omega), show M2 77 i = M 77 i by rw [F2 77 (by decide)], wth, wtv, w32_n i (by omega)]
  · obtain ⟨h2, r⟩ := b
    obtain ⟨hr_, M2, A2_, F2, v2⟩ := hb
    have hr : r = ((434 : Nat) : Int) := hr_
    have A2 : At h2 c p L M2 := A2_
    clear hr_ A2_
    subst hr
    refine ⟨h2, M2, ?_, A2, F2, v2⟩
    show f_Md_copies_L2 77 76 (n + 1) h2 ((434 : Nat) : Int) = _
    rw [f_Md_copies_L2, if_pos (by omega)]
theorem s_rRuleK (A : At h c p L M) {y : tP (tT × Int)} (R : RU M f len y) {k b a o : Int} (hk : 41 ≤ k ∧ k ≤ 409) (hr : ∀ x, y = .inr x → 0 ≤ nr x.1 ∧ nr x.1 ≤ 100) : ∃ h' M', kRule k b a o h = some ((3, 0), h') ∧ At h' c p L M' ∧ FR M M' ∧ RU M' f len (bd y fun y => .inr (aRule y.1 k b a o, y.2)) := by
  have C := A.md
  unfold kRule
  match y, R, hr with
  | .inl e, R, _ =>
    have R' : RTx M f len (.inl e) := R.1
    refine ⟨h, M, ?_, A, Fs.rf _ _ _ _, R⟩
    simp only [C]
    rw [chk_t trivial, if_neg R'.ne0]
  | .inr x, R, hr =>
    have Rx : RTx M f len (.inr x.2) := R.1
    have ux : cl4 (M 77) = x.1 := R.2 x rfl
    have hn := hr x rfl
    have A1 := A.s77 k b
    have C1 := A1.md
    have A2 := A1.s77 (k + 1) a
    have C2 := A2.md
    have A3 := A2.s77 (k + 2) o
    have C3 := A3.md
    have A4 := A3.s77 2 (nr x.1 + 1)
    have e2 : mup (mup (mup M 77 k b) 77 (k + 1) a) 77 (k + 2) o 77 2 = nr x.1 := by
      rw [mup_ne (Or.inr (by omega)), mup_ne (Or.inr (by omega)), mup_ne (Or.inr (by omega)), ← ux]; exact (cl4_in (by decide)).symm
    refine ⟨_, _, ?_, A4, (((((Fs.rf _ _ _ _).pu (by decide) (by decide)).pu (by decide) (by decide)).pu (by decide) (by decide)).pu (by decide) (by decide)), RU.inr (Rx.w77.w77.w77.w77) ?_⟩
    · simp only [C]
      rw [chk_t trivial, Rx.2.1, if_pos rfl, chk_t trivial, chk_t trivial, chk_t (by omega), wth]
      simp only [C1]
      rw [chk_t trivial, chk_t trivial, w32_id (x := k + 1) (by omega) (by omega), chk_t (by omega), wth]
      simp only [C2]
      rw [chk_t trivial, chk_t trivial, w32_id (x := k + 2) (by omega) (by omega), chk_t (by omega), wth]
      simp only [C3]
      rw [chk_t trivial, chk_t trivial, chk_t (by decide), chk_t trivial, chk_t (by decide), e2, w32_id (x := nr x.1 + 1) (by omega) (by omega), wth]
    · rw [cl4_up (by omega), cl4_up (by omega), cl4_up (by omega), cl4_up (by omega), ux]; rfl
def sRuleT (f : Int → Int) (len : Int) (u : tT) (b a : Int) (y : tP (Int × Int)) : tP (tT × Int) :=
  bd y fun o => bd (sWord f len 7 o.2) fun q => bd (sFact f len b (41 + 16 * nr u) (u1 u (41 + 16 * nr u + 3) 0, q)) fun x =>
  bd (sAnd f len b (41 + 16 * nr u) 4 x) fun y => .inr (aRule y.1 (41 + 16 * nr u) b a o.1, y.2)
/-- from the place behind to -/
theorem s_rRule113 (A : At h c p L M) (X : TX f len) (T : RTt M f len) {u : tT} (P : PW u) (hr : nr u < 24) (hu : cl4 (M 77) = u) {x : tP Int} (R : RTx M f len x) (hx : ∀ q, x = .inr q → PO len q) {b : Int} (hb : 0 ≤ b ∧ b < nb u) (a : Int) :
    ∃ h' M', f_Md_readRule_J113 75 (41 + 16 * nr u) b a h = some ((3, 0), h') ∧ At h' c p L M' ∧ FR M M' ∧ RU M' f len (sRuleT f len u b a (bd x (sNum f len 0 (pl u b - 1)))) := by
  have hn := P.1.1
  have hnr := P.1.2.1
  have hpl := P.1.2.2.2.2.2.1 b hb.1 hb.2
  obtain ⟨h1, M1, f1, A1, F1, R1⟩ := s_number A X T R 0 (pl u b - 1)
  have T1 := T.fr F1.fr
  have u1_ : cl4 (M1 77) = u := by rw [f13_77 F1]; exact hu
  have hy : ∀ o, bd x (sNum f len 0 (pl u b - 1)) = .inr o → PO len o.2 := fun o ho => by
    obtain ⟨q, e, g⟩ := bd_inr ho
    exact (sNum_po X (hx q e) g).1
  generalize bd x (sNum f len 0 (pl u b - 1)) = y at f1 R1 hy ⊢
  obtain ⟨h2, M2, f2, A2, F2, R2⟩ := s_must A1 X T1 R1 (n := 7) (by decide)
  have T2 := T1.fr F2.fr
  have u2_ : cl4 (M2 77) = u := by rw [f13_77 F2]; exact u1_
  have C2 := A2.md
  have A3 := A2.s77 (41 + 16 * nr u + 3) 0
  have F3 : FR M2 (mup M2 77 (41 + 16 * nr u + 3) 0) := (Fs.rf _ _ _ _).pu (by decide) (by decide)
  have T3 := T2.fr F3
  have R3 := R2.w77 (i := 41 + 16 * nr u + 3) (v := 0)
  have u3_ : cl4 (mup M2 77 (41 + 16 * nr u + 3) 0 77) = u1 u (41 + 16 * nr u + 3) 0 := by rw [cl4_up (by omega), u2_]
  have FF : FR M (mup M2 77 (41 + 16 * nr u + 3) 0) := (F1.fr.tr F2.fr).tr F3
  generalize hN : mup M2 77 (41 + 16 * nr u + 3) 0 = N at A3 F3 T3 R3 u3_ FF
  have pre : f_Md_readRule_J113 75 (41 + 16 * nr u) b a h = bndT 3 (f_Md_readFact (hput h2 77 (41 + 16 * nr u + 3) 0) 75 (41 + 16 * nr u) b) (fun x9 h8 => f_Md_readRule_L148 (kRule (41 + 16 * nr u) b a (nv_ y 0)) 75 (41 + 16 * nr u) b 1000000 h8) := by
    unfold f_Md_readRule_J113
    rw [chk_t (MH.of A).T, s_placesTold A hb.1 (by omega), bndT_ok (by decide), chk_t (MH.of A).T, hu, w32_id (x := pl u b - 1) (by omega) (by omega), f1, bndT_ok (by decide), chk_t (MH.of A1).T, f2, bndT_ok (by decide), chk_t (MH.of A2).T]
    have q1 : hpV h2 75 1 = 77 := by simp only [C2]
    have q2 : hpT h2 77 = 21 := by simp only [C2]
    have q3 : hpL h2 77 = 434 := by simp only [C2]
    rw [q1, chk_t q2, w32_id (x := 41 + 16 * nr u + 3) (by omega) (by omega), q3, chk_t (by omega), wth, chk_t (MH.of A3).T]
    rfl
  rw [pre]
  have bad : ∀ e, RTx N f len (.inl e) → ∃ h' M', (bndT 3 (f_Md_readFact (hput h2 77 (41 + 16 * nr u + 3) 0) 75 (41 + 16 * nr u) b) (fun x9 h8 => f_Md_readRule_L148 (kRule (41 + 16 * nr u) b a (nv_ y 0)) 75 (41 + 16 * nr u) b 1000000 h8)) = some ((3, 0), h') ∧ At h' c p L M' ∧ FR M M' ∧ RU M' f len (.inl e) := fun e R3 => by
    obtain ⟨h4, M4, f4, A4, F4, R4⟩ := s_rFactB A3 X T3 R3 (41 + 16 * nr u) b
    obtain ⟨h5, M5, f5, A5, F5, R5⟩ := s_rAnd P hr X b (K := kRule (41 + 16 * nr u) b a (nv_ y 0)) (n := 4) (m := 1000000) (by decide) A4 (T3.fr F4) (RU.inl R4) (fun a h => by cases h)
    obtain ⟨h6, M6, f6, A6, F6, R6⟩ := s_rRuleK A5 R5 (k := 41 + 16 * nr u) (b := b) (a := a) (o := nv_ y 0) (by omega) (fun x h => by cases h)
    rw [f4, bndT_ok (by decide), f5, f6]
    exact ⟨h6, M6, rfl, A6, ((FF.tr F4).tr F5).tr F6, R6⟩
  unfold sRuleT
  clear pre f1 f2 R1 R2
  rcases tP_cases y with ⟨e, rfl⟩ | ⟨o, rfl⟩
  · exact bad e R3
  · have R3 : RTx N f len (sWord f len 7 o.2) := R3
    rw [bd_r]
    rcases tP_cases (sWord f len 7 o.2) with ⟨e, hq⟩ | ⟨q, hq⟩
    · rw [hq] at R3 ⊢; exact bad e R3
    · rw [hq] at R3 ⊢
      clear bad
      have pq := sWord_po X (hy o rfl) hq
      obtain ⟨h4, M4, f4, A4, F4, R4⟩ := s_rFact A3 X T3 P hr (FK0_0 u) (by rw [u1_eq]; decide) R3 u3_ b
      rw [bd_r] at R4 ⊢
      obtain ⟨h5, M5, f5, A5, F5, R5⟩ := s_rAnd P hr X b (K := kRule (41 + 16 * nr u) b a o.1) (n := 4) (m := 1000000) (by decide) A4 (T3.fr F4) R4 (fun a' h' => by
        have := sFact_ok X P (x := (u1 u (41 + 16 * nr u + 3) 0, q)) (FK0_0 u) (by show u1 u (41 + 16 * nr u + 3) 0 (41 + 16 * nr u + 3) ≠ 4; rw [u1_eq]; decide) pq.1 h'
        refine ⟨this.1, this.2.2.1, ?_⟩
        rw [this.2.1]
        show 5 - (u1 u (41 + 16 * nr u + 3) 0 (41 + 16 * nr u + 3) + 1) ≤ ((4 : Nat) : Int)
        rw [u1_eq]; decide)
      have keep : ∀ x, bd (sFact f len b (41 + 16 * nr u) (u1 u (41 + 16 * nr u + 3) 0, q)) (sAnd f len b (41 + 16 * nr u) 4) = .inr x → 0 ≤ nr x.1 ∧ nr x.1 ≤ 100 := fun x hx => by
        obtain ⟨z, e1, e2⟩ := bd_inr hx
        have k1 := sFact_ok X P (x := (u1 u (41 + 16 * nr u + 3) 0, q)) (FK0_0 u) (by show u1 u (41 + 16 * nr u + 3) 0 (41 + 16 * nr u + 3) ≠ 4; rw [u1_eq]; decide) pq.1 e1
        have k2 := sAnd_ok X P k1.1 k1.2.2.1 e2
        have : nr x.1 = nr u := k2.1.1 2 (by omega)
        rw [this]; omega
      obtain ⟨h6, M6, f6, A6, F6, R6⟩ := s_rRuleK A5 R5 (k := 41 + 16 * nr u) (b := b) (a := a) (o := o.1) (by omega) keep
      rw [f4, bndT_ok (by decide)]
      show ∃ h' M', f_Md_readRule_L148 (kRule (41 + 16 * nr u) b a o.1) 75 (41 + 16 * nr u) b 1000000 h4 = some ((3, 0), h') ∧ _
      rw [f5, f6]
      refine ⟨h6, M6, rfl, A6, ((FF.tr F4).tr F5).tr F6, ?_⟩
      generalize sFact f len b (41 + 16 * nr u) (u1 u (41 + 16 * nr u + 3) 0, q) = z at R6 ⊢
      match z, R6 with
      | .inl e, R6 => exact R6
      | .inr z, R6 => exact R6
theorem s_rRule (A : At h c p L M) (X : TX f len) (T : RTt M f len) {u : tT} (P : PW u) (hu : cl4 (M 77) = u) {q : Int} (R : RTx M f len (.inr q)) : ∃ h' M', f_Md_readRule h 75 = some ((3, 0), h') ∧ At h' c p L M' ∧ FR M M' ∧ RU M' f len (sRule f len u q) := by
  have C := A.md
  have hn := P.1.1
  have hnr := P.1.2.1
  have e2 : M 77 2 = nr u := by rw [← hu]; exact (cl4_in (by decide)).symm
  unfold f_Md_readRule sRule
  simp only [C]
  rw [chk_t trivial, chk_t trivial, chk_t (by decide), e2]
  by_cases g : nr u = 24
  · obtain ⟨h1, M1, f1, A1, F1, R1, n1⟩ := s_blames A R (k := 4) (by decide)
    have C1 := A1.md
    rw [if_pos g, if_pos g, chk_t trivial, f1, bndT_ok (by decide)]
    unfold f_Md_readRule_J16
    simp only [C1]
    rw [chk_t trivial, if_neg n1]
    exact ⟨h1, M1, rfl, A1, F1.mono (by decide) (by decide), RU.inl R1⟩
  have hr : nr u < 24 := by omega
  obtain ⟨h1, M1, f1, A1, F1, R1⟩ := s_readsX A X T R
  have T1 := T.fr F1.fr
  have u1_ : cl4 (M1 77) = u := by rw [f9_77 F1]; exact hu
  have C1 := A1.md
  have b1 : M1 77 1 = nb u := by rw [← u1_]; exact (cl4_in (by decide)).symm
  have r1 : M1 77 2 = nr u := by rw [← u1_]; exact (cl4_in (by decide)).symm
  rw [if_neg g, if_neg g]
  unfold f_Md_readRule_J16
  simp only [C]
  rw [chk_t trivial, R.2.1, if_pos rfl, chk_t trivial, f1, bndT_ok (by decide)]
  simp only [C1]
  obtain ⟨h2, M2, f2, A2, F2, R2⟩ := s_barTold A1 X T1 R1 (by rw [b1]; exact hn)
  have T2 := T1.fr F2.fr
  have u2_ : cl4 (M2 77) = u := by rw [f13_77 F2]; exact u1_
  have C2 := A2.md
  rw [b1, bd_r] at f2 R2
  rw [chk_t trivial, chk_t trivial, chk_t (by decide), r1, w32_id (x := 16 * nr u) (by omega) (by omega), w32_id (x := 41 + 16 * nr u) (by omega) (by omega), wtv, chk_t trivial, f2, bndT_ok (by decide)]
  have po1 : PO len (xtE f len q) := xtE_pos X R.1
  match hb : sNum f len 0 (nb u - 1) (xtE f len q), R2 with
  | .inl e, R2 =>
    have R2 : RTx M2 f len (.inl e) := R2
    simp only [C2]
    rw [chk_t trivial, if_neg R2.ne0]
    exact ⟨h2, M2, rfl, A2, F1.fr.tr F2.fr, RU.inl R2⟩
  | .inr b, R2 =>
    have R2 : RTx M2 f len (.inr b.2) := R2
    have sb := sNum_po X po1 hb
    have hpl := P.1.2.2.2.2.2.1 b.1 (by omega) (by omega)
    rw [bd_r]
    have q13 : hpV h2 75 13 = 0 := by simp only [C2]; exact R2.2.1
    obtain ⟨h3, M3, f3, A3, F3, R3⟩ := s_number A2 X T2 R2 0 (pl u b.1 - 1)
    have T3 := T2.fr F3.fr
    have u3_ : cl4 (M3 77) = u := by rw [f13_77 F3]; exact u2_
    rw [bd_r] at f3 R3
    obtain ⟨h4, M4, f4, A4, F4, R4⟩ := s_must A3 X T3 R3 (n := 6) (by decide)
    have T4 := T3.fr F4.fr
    have u4_ : cl4 (M4 77) = u := by rw [f13_77 F4]; exact u3_
    have C4 := A4.md
    have FF : FR M M4 := ((F1.fr.tr F2.fr).tr F3.fr).tr F4.fr
    rw [chk_t (MH.of A2).T, if_pos q13, chk_t (MH.of A2).T]
    show ∃ h' M', bndT 0 (f_Md_placesTold h2 75 b.1) _ = some ((3, 0), h') ∧ _
    rw [s_placesTold A2 sb.2.2.1 (by omega), bndT_ok (by decide), chk_t (MH.of A2).T, u2_, w32_id (x := pl u b.1 - 1) (by omega) (by omega), f3, bndT_ok (by decide), chk_t (MH.of A3).T, f4, bndT_ok (by decide)]
    simp only [C4]
    rw [chk_t trivial]
    have run : ∀ h5 M5 (x : tP Int) (a : Int), At h5 c p L M5 → FR M M5 → RTt M5 f len → cl4 (M5 77) = u → RTx M5 f len x → (∀ q, x = .inr q → PO len q) → ∃ h' M', f_Md_readRule_J113 75 (41 + 16 * nr u) b.1 a h5 = some ((3, 0), h') ∧ At h' c p L M' ∧ FR M M' ∧ RU M' f len (sRuleT f len u b.1 a (bd x (sNum f len 0 (pl u b.1 - 1)))) := fun h5 M5 x a A5 F5 T5 u5 R5 hx => by
      obtain ⟨h6, M6, f6, A6, F6, R6⟩ := s_rRule113 A5 X T5 P hr u5 R5 hx (b := b.1) ⟨sb.2.2.1, by omega⟩ a
      exact ⟨h6, M6, f6, A6, F5.tr F6, R6⟩
    match ha : sNum f len 0 (pl u b.1 - 1) b.2, R4 with
    | .inl e, R4 =>
      have R4 : RTx M4 f len (.inl e) := R4
      rw [if_neg R4.ne0, bd_inl]
      exact run h4 M4 (.inl e) _ A4 FF T4 u4_ R4 (fun q h => by cases h)
    | .inr a, R4 =>
      have R4 : RTx M4 f len (sWord f len 6 a.2) := R4
      have sa := sNum_po X sb.1 ha
      rw [bd_r]
      show ∃ h' M', (if M4 75 13 = 0 then _ else f_Md_readRule_J113 75 (41 + 16 * nr u) b.1 a.1 h4) = some ((3, 0), h') ∧ _
      match hw : sWord f len 6 a.2, R4 with
      | .inl e, R4 =>
        rw [if_neg R4.ne0, bd_inl]
        exact run h4 M4 (.inl e) _ A4 FF T4 u4_ R4 (fun q h => by cases h)
      | .inr w, R4 =>
        have sw := sWord_po X sa.1 hw
        have plain : ¬ (xtK f len w = 2 ∧ xtV f len w ≠ a.1 - 1 ∧ xtV f len w ≠ a.1 + 1) → ∃ h' M', f_Md_readRule_J113 75 (41 + 16 * nr u) b.1 a.1 h4 = some ((3, 0), h') ∧ At h' c p L M' ∧ FR M M' ∧ RU M' f len (sRuleT f len u b.1 a.1 (sTo f len (pl u b.1 - 1) a.1 w)) := fun hno => by
          have := run h4 M4 (.inr w) a.1 A4 FF T4 u4_ R4 (fun q h => by cases h; exact sw.1)
          rw [bd_r] at this
          unfold sTo
          rw [if_neg hno]; exact this
        rw [bd_r]
        show ∃ h' M', (if M4 75 13 = 0 then chk True (if M4 75 11 = 2 then chk True (if M4 75 12 = w32 (a.1 - 1) then f_Md_readRule_J113 75 (41 + 16 * nr u) b.1 a.1 h4 else chk True (if M4 75 12 = w32 (a.1 + 1) then f_Md_readRule_J113 75 (41 + 16 * nr u) b.1 a.1 h4 else chk True (bndT 3 (f_Md_blames h4 75 3) (fun x13 h12 => f_Md_readRule_J113 75 (41 + 16 * nr u) b.1 a.1 h12)))) else f_Md_readRule_J113 75 (41 + 16 * nr u) b.1 a.1 h4) else f_Md_readRule_J113 75 (41 + 16 * nr u) b.1 a.1 h4) = some ((3, 0), h') ∧ At h' c p L _ ∧ FR M _ ∧ RU _ f len (sRuleT f len u b.1 a.1 (sTo f len (pl u b.1 - 1) a.1 w))
        rw [R4.2.1, if_pos rfl, chk_t trivial, R4.2.2.2.1]
        by_cases k2 : xtK f len w = 2
        · rw [if_pos k2, chk_t trivial, R4.2.2.2.2.2 k2, w32_id (x := a.1 - 1) (by omega) (by omega), w32_id (x := a.1 + 1) (by omega) (by omega)]
          by_cases v1 : xtV f len w = a.1 - 1
          · rw [if_pos v1]; exact plain (fun k => k.2.1 v1)
          · rw [if_neg v1, chk_t trivial]
            by_cases v2 : xtV f len w = a.1 + 1
            · rw [if_pos v2]; exact plain (fun k => k.2.2 v2)
            · rw [if_neg v2, chk_t trivial]
              obtain ⟨h5, M5, f5, A5, F5, R5, n5⟩ := s_blames A4 R4 (k := 3) (by decide)
              rw [bd_r] at R5
              have R5 : RTx M5 f len (.inl ((if xtK f len w = 4 then 1 else 3), xtB f len w)) := R5
              have F5' : FR M4 M5 := F5.mono (by decide) (by decide)
              rw [f5, bndT_ok (by decide)]
              have := run h5 M5 (.inl ((if xtK f len w = 4 then 1 else 3), xtB f len w)) a.1 A5 (FF.tr F5') (T4.fr F5') (by rw [F5.1 77 (by decide) (by decide)]; exact u4_) R5 (fun q h => by cases h)
              unfold sTo
              rw [if_pos ⟨k2, v1, v2⟩]; exact this
        · rw [if_neg k2]; exact plain (fun k => k2 k.1)
end
