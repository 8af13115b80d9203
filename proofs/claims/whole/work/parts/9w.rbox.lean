/-! box, THE REFERENCE -/
section
variable {h : mH} {c : Int} {p L : Int → Int} {M : aM} {f : Int → Int} {len : Int}
theorem s_zero47 (A : At h c p L M) {K : mH → Option mR} : ∃ h' M', f_Md_box_L47 K 75 1000000 h 0 = K h' ∧ At h' c p L M' ∧ Fr [77] M M' ∧ ∀ j, 0 ≤ j → j < 434 → M' 77 j = 0 := by
  refine loop_am (F := fun n h i => f_Md_box_L47 K 75 n h i) (P := fun r => ∃ h' M', r = K h' ∧ At h' c p L M' ∧ Fr [77] M M' ∧ ∀ j, 0 ≤ j → j < 434 → M' 77 j = 0) (fun i M' => Fr [77] M M' ∧ ∀ j, 0 ≤ j → j < (i : Int) → M' 77 j = 0) 434 (by decide) (fun i hi h2 M2 A2 H2 n => Or.inr ?_) (fun h2 M2 A2 H2 n => ?_) A ⟨Fr.rf _ _, fun j g0 g1 => by omega⟩
  · obtain ⟨F2, v2⟩ := H2
    have C2 := A2.md
    refine ⟨_, _, A2.s77 i 0, ⟨F2.pu (by decide), fun j g0 g1 => ?_⟩, ?_⟩
    · by_cases e : j = i
      · rw [e, mup_eq]
      · rw [mup_ne (Or.inr e)]; exact v2 j g0 (by omega)
    · rw [f_Md_box_L47, if_neg (by omega)]
      simp only [C2]
      rw [chk_t trivial, chk_t trivial, chk_t (by omega), wth, wtv, w32_n i (by omega)]
  · obtain ⟨F2, v2⟩ := H2
    refine ⟨h2, M2, ?_, A2, F2, v2⟩
    rw [f_Md_box_L47, if_pos (by decide)]
abbrev FB : aM → aM → Prop := Fs [76, 77] 75 [5, 7, 8, 9, 10, 11, 12, 13, 14, 15, 16]
/-- what box comes to, when the text is read -/
def RBx (M M' : aM) (y : Int) (s : tP (tT × Int)) : Prop := M' 75 5 = 0 ∧ M' 75 7 = 0 ∧ (∀ e, s = .inl e → y = w32 (-10 - e.1) ∧ M' 75 15 = e.1 ∧ e.1 ≠ 0 ∧ M' 75 16 = e.2 ∧ M' 76 = M 76) ∧
  ∀ a, s = .inr a → y = a.1 0 ∧ M' 75 15 = 0 ∧ M' 75 16 = -1 ∧ ∀ j, M' 76 j = if 0 ≤ j ∧ j < 434 then a.1 j else M 76 j
theorem s_rBox92 (A : At h c p L M) {s : tP (tT × Int)} (R : RU M f len s) (h5 : M 75 5 = 0) (h7 : M 75 7 = 0) : ∃ h' M' y, f_Md_box_J92 75 h = some ((0, y), h') ∧ At h' c p L M' ∧ FB M M' ∧ RBx M M' y s := by
  have C := A.md
  have A1 := A.s9 15 (M 75 13) (by decide +kernel)
  have C1 := A1.md
  unfold f_Md_box_J92
  simp only [C]
  rw [chk_t trivial, chk_t trivial, wth]
  simp only [C1]
  rw [chk_t trivial]
  have e13 : mup M 75 15 (M 75 13) 75 13 = M 75 13 := mup_ne (Or.inr (by decide))
  have e14 : mup M 75 15 (M 75 13) 75 14 = M 75 14 := mup_ne (Or.inr (by decide))
  have e15 : mup M 75 15 (M 75 13) 75 15 = M 75 13 := mup_eq _ _ _ _
  have F1 : FB M (mup M 75 15 (M 75 13)) := (Fs.rf _ _ _ _).ps (by decide)
  rw [e13, e14]
  have j116 : ∀ x : Int, ∃ h2 M2, At h2 c p L M2 ∧ FB M M2 ∧ M2 76 = M 76 ∧ M2 77 = M 77 ∧ M2 75 5 = 0 ∧ M2 75 7 = 0 ∧ M2 75 15 = M 75 13 ∧ M2 75 16 = x ∧ f_Md_box_J116 75 75 x (hput h 75 15 (M 75 13)) = if M 75 13 = 0 then bndT 3 (f_Md_copies h2 77 76) (fun x3 h2 => chk (hpT h2 75 = 12) (chk (hpT h2 (hpV h2 75 0) = 21) (chk ((0 : Int) ≤ 0 ∧ 0 < hpL h2 (hpV h2 75 0)) (some ((0, hpV h2 (hpV h2 75 0) 0), h2))))) else some ((0, w32 (-10 - M 75 13)), h2) := fun x => by
    have A2 := A1.s9 16 x (by decide +kernel)
    have C2 := A2.md
    refine ⟨_, _, A2, F1.ps (by decide), by rw [mup_fn (by decide), mup_fn (by decide)], by rw [mup_fn (by decide), mup_fn (by decide)], ?_, ?_, ?_, mup_eq _ _ _ _, ?_⟩
    · rw [mup_ne (Or.inr (by decide)), mup_ne (Or.inr (by decide))]; exact h5
    · rw [mup_ne (Or.inr (by decide)), mup_ne (Or.inr (by decide))]; exact h7
    · rw [mup_ne (Or.inr (by decide))]; exact e15
    · unfold f_Md_box_J116
      rw [chk_t (MH.of A1).T, wth]
      have q13 : hpV (hput (hput h 75 15 (M 75 13)) 75 16 x) 75 13 = M 75 13 := by
        simp only [C2]
        rw [mup_ne (Or.inr (by decide))]; exact e13
      have q1 : hpV (hput (hput h 75 15 (M 75 13)) 75 16 x) 75 1 = 77 := by simp only [C2]
      have q0 : hpV (hput (hput h 75 15 (M 75 13)) 75 16 x) 75 0 = 76 := by simp only [C2]
      rw [chk_t (MH.of A2).T, q13]
      by_cases g : M 75 13 = 0
      · rw [if_pos g, if_pos g, chk_t (MH.of A2).T, chk_t (MH.of A2).T, q1, q0]
      · rw [if_neg g, if_neg g, chk_t (MH.of A2).T]
  rcases tP_cases s with ⟨e, rfl⟩ | ⟨a, rfl⟩
  · have R' : RTx M f len (.inl e) := R.1
    obtain ⟨h2, M2, A2, F2, a1, _, a2, a3, a4, a5, a6⟩ := j116 (M 75 14)
    rw [if_neg R'.ne0] at a6
    rw [if_neg R'.ne0, chk_t trivial, a6]
    refine ⟨h2, M2, _, rfl, A2, F2, a2, a3, fun e' he => ?_, fun a he => by cases he⟩
    cases he
    exact ⟨by rw [R'.1], by rw [a4]; exact R'.1, R'.2.1, by rw [a5]; exact R'.2.2, a1⟩
  · have R' : RTx M f len (.inr a.2) := R.1
    have ua : cl4 (M 77) = a.1 := R.2 a rfl
    obtain ⟨h2, M2, A2, F2, a1, a1', a2, a3, a4, a5, a6⟩ := j116 (-1)
    rw [if_pos R'.2.1] at a6
    obtain ⟨h3, M3, f3, A3, F3, v3⟩ := s_cp77 A2
    have C3 := A3.md
    have v0 : ∀ j, M3 76 j = if 0 ≤ j ∧ j < 434 then a.1 j else M 76 j := fun j => by
      rw [v3 j, a1, a1']
      by_cases g : 0 ≤ j ∧ j < 434
      · rw [if_pos g, if_pos g, ← ua, cl4_in g]
      · rw [if_neg g, if_neg g]
    rw [if_pos R'.2.1, a6, f3, bndT_ok (by decide)]
    simp only [C3]
    rw [chk_t trivial, chk_t trivial, chk_t (by decide)]
    refine ⟨h3, M3, _, rfl, A3, F2.tr ((F3.fs (d := 75) (is := []) (by decide)).mono (by decide) (fun _ q => by cases q)), ?_, ?_, fun e he => (by cases he), fun a' he => ?_⟩
    · rw [F3 75 (by decide)]; exact a2
    · rw [F3 75 (by decide)]; exact a3
    · cases he
      refine ⟨by rw [v0 0, if_pos (by decide)], by rw [F3 75 (by decide), a4]; exact R'.2.1, by rw [F3 75 (by decide)]; exact a5, v0⟩
theorem r_box (A : At h c p L M) (hf : 0 ≤ M 75 7 ∧ M 75 7 ≤ 900) (h81 : ∀ i, 0 ≤ i → i < M 75 7 → 0 ≤ M 81 i ∧ M 81 i < 256) (n : Int) : ∃ h' M' y, f_Md_box h 75 n = some ((0, y), h') ∧ At h' c p L M' ∧ FB M M' ∧
    (¬ (0 ≤ n ∧ n ≤ M 75 7) → M' 75 5 = 1 ∧ M' 75 7 = M 75 7 ∧ M' 75 15 = M 75 15 ∧ M' 75 16 = M 75 16 ∧ M' 76 = M 76) ∧
    (0 ≤ n ∧ n ≤ M 75 7 → RBx M M' y (sBox (M 81) n)) := by
  have A1 := A.thr 0
  have C1 := A1.md
  have e7 : mup M 75 5 0 75 7 = M 75 7 := mup_ne (Or.inr (by decide))
  unfold f_Md_box
  rw [chk_t (MH.of A).T, wth]
  have q7 : hpV (hput h 75 5 0) 75 7 = M 75 7 := by simp only [C1]; exact e7
  rw [chk_t (MH.of A1).T, s_Md_amid, bndT_ok (by decide), q7]
  by_cases g : 0 ≤ n ∧ n ≤ M 75 7
  · have A2 := A1.s9 8 n (by decide +kernel)
    have A3 := A2.s9 7 0 (by decide +kernel)
    have A4 := A3.s9 9 0 (by decide +kernel)
    have A5 := A4.s9 13 0 (by decide +kernel)
    have hX : TX (M 81) n := ⟨by omega, fun i g0 g1 => h81 i g0 (by omega)⟩
    have F5 : FB M (mup (mup (mup (mup (mup M 75 5 0) 75 8 n) 75 7 0) 75 9 0) 75 13 0) := (((((Fs.rf _ _ _ _).ps (by decide)).ps (by decide)).ps (by decide)).ps (by decide)).ps (by decide)
    have s8 : mup (mup (mup (mup (mup M 75 5 0) 75 8 n) 75 7 0) 75 9 0) 75 13 0 75 8 = n := by rw [mup_ne (Or.inr (by decide)), mup_ne (Or.inr (by decide)), mup_ne (Or.inr (by decide)), mup_eq]
    have s5 : mup (mup (mup (mup (mup M 75 5 0) 75 8 n) 75 7 0) 75 9 0) 75 13 0 75 5 = 0 := by rw [mup_ne (Or.inr (by decide)), mup_ne (Or.inr (by decide)), mup_ne (Or.inr (by decide)), mup_ne (Or.inr (by decide)), mup_eq]
    have s7 : mup (mup (mup (mup (mup M 75 5 0) 75 8 n) 75 7 0) 75 9 0) 75 13 0 75 7 = 0 := by rw [mup_ne (Or.inr (by decide)), mup_ne (Or.inr (by decide)), mup_eq]
    have s9_ : mup (mup (mup (mup (mup M 75 5 0) 75 8 n) 75 7 0) 75 9 0) 75 13 0 75 9 = 0 := by rw [mup_ne (Or.inr (by decide)), mup_eq]
    have s13 : mup (mup (mup (mup (mup M 75 5 0) 75 8 n) 75 7 0) 75 9 0) 75 13 0 75 13 = 0 := mup_eq _ _ _ _
    have n76 : mup (mup (mup (mup (mup M 75 5 0) 75 8 n) 75 7 0) 75 9 0) 75 13 0 76 = M 76 := by rw [mup_fn (by decide), mup_fn (by decide), mup_fn (by decide), mup_fn (by decide), mup_fn (by decide)]
    rw [b2d g, if_neg (by decide), chk_t (MH.of A1).T, wth, chk_t (MH.of A2).T, wth, chk_t (MH.of A3).T, wth, chk_t (MH.of A4).T, wth]
    generalize mup (mup (mup (mup (mup M 75 5 0) 75 8 n) 75 7 0) 75 9 0) 75 13 0 = N at A5 F5 s8 s5 s7 s9_ s13 n76
    obtain ⟨h6, M6, f6, A6, F6, z6⟩ := s_zero47 A5 (K := fun h8 => chk (hpT h8 75 = 12) (bndT 3 (f_Md_reads h8 75) (fun x10 h9 => f_Md_box_L71 (fun h11 => f_Md_box_J92 75 h11) 75 1000000 h9)))
    have F6' : FB M M6 := F5.tr ((F6.fs (d := 75) (is := []) (by decide)).mono (by decide) (fun _ q => by cases q))
    have k6 : ∀ j, M6 75 j = N 75 j := fun j => by rw [F6 75 (by decide)]
    have T6 : RTt M6 (M 81) n := ⟨by rw [k6]; exact s8, fun i _ _ => by rw [F6'.1 81 (by decide) (by decide)]⟩
    obtain ⟨h7, M7, f7, A7, F7, R7⟩ := s_reads A6 hX T6 (q := 0) ⟨Int.le_refl _, by omega⟩ (by rw [k6]; exact s9_) (by rw [k6]; exact s13)
    have c7 : cl4 (M7 77) = X0 := by
      rw [f9_77 F7]
      funext j
      unfold cl4
      by_cases e : 0 ≤ j ∧ j < 434
      · rw [if_pos e, z6 j e.1 e.2]; rfl
      · rw [if_neg e]; rfl
    have P0 := PWq_0 hX
    obtain ⟨h8, M8, f8, A8, F8, R8⟩ := s_rText hX (K := fun h11 => f_Md_box_J92 75 h11) (n := 901) (m := 1000000) (y := .inr (X0, 0)) (by decide) A7 (T6.fr F7.fr) (RU.inr R7 c7) (fun x hx => by
      cases hx; exact ⟨P0, by have := hX.1; show n - 0 < ((901 : Nat) : Int); omega⟩)
    have k8 : ∀ j, j = 5 ∨ j = 7 → M8 75 j = N 75 j := fun j hj => by
      rw [F8.2 j (by rcases hj with rfl | rfl <;> decide), F7.2 j (by rcases hj with rfl | rfl <;> decide), k6]
    have F8' : FB M M8 := (F6'.tr (F7.mono (by decide) (by decide))).tr (F8.mono (by decide) (by decide))
    obtain ⟨h9, M9, y, f9, A9, F9, R9⟩ := s_rBox92 A8 R8 (by rw [k8 5 (Or.inl rfl)]; exact s5) (by rw [k8 7 (Or.inr rfl)]; exact s7)
    have e76 : M8 76 = M 76 := by rw [F8.1 76 (by decide) (by decide), F7.1 76 (by decide) (by decide), F6 76 (by decide)]; exact n76
    rw [f6, chk_t (MH.of A6).T, f7, bndT_ok (by decide), f8, f9]
    refine ⟨h9, M9, y, rfl, A9, F8'.tr F9, fun k => absurd g k, fun _ => ?_⟩
    have es : bd (.inr (X0, 0)) (sText (M 81) n 901) = sBox (M 81) n := rfl
    rw [es] at R9
    unfold RBx at R9 ⊢
    rw [e76] at R9; exact R9
  · rw [b2n g, if_pos rfl, chk_t (MH.of A1).T, r_fails A1 1, bndT_ok (by decide)]
    have A2 := A1.thr 1
    refine ⟨_, _, 0, rfl, A2, ((Fs.rf _ _ _ _).ps (by decide)).ps (by decide), fun _ => ?_, fun k => absurd k g⟩
    refine ⟨mup_eq _ _ _ _, ?_, ?_, ?_, ?_⟩
    · rw [mup_ne (Or.inr (by decide)), mup_ne (Or.inr (by decide))]
    · rw [mup_ne (Or.inr (by decide)), mup_ne (Or.inr (by decide))]
    · rw [mup_ne (Or.inr (by decide)), mup_ne (Or.inr (by decide))]
    · rw [mup_fn (by decide), mup_fn (by decide)]
end
