/-! THE REFERENCE'S ROWS OF STANDS -/
/-- the arrays fa and oa, and the number many, are what S tells, of n stands -/
def PI (M : aM) (fa oa many : Int) (n : Int) (S : tB) : Prop := (∀ s, 0 ≤ s → s < n → M fa s = bF S s) ∧ (∀ j, 0 ≤ j → j < bM S → M oa j = bO S j) ∧ many = bM S
theorem BI.fle {nx : Int → Int → Int} {k n : Nat} {z : Int} {S : tB} (B : BI nx k n z S) (s : Int) : -1 ≤ bF S s ∧ bF S s < n := by
  have := B.le
  rcases B.2.2.2.1 s with g | g
  · have := B.1.2; omega
  · omega
section
variable {h : mH} {c : Int} {p L : Int → Int} {M : aM}
/-- all but one place of a cell -/
def Fs (l : List Int) (d : Int) (is : List Int) (M M' : aM) : Prop := (∀ v, v ∉ l → v ≠ d → M' v = M v) ∧ ∀ i, i ∉ is → M' d i = M d i
theorem Fs.rf (l : List Int) (d : Int) (is : List Int) (M : aM) : Fs l d is M M := ⟨fun _ _ _ => rfl, fun _ _ => rfl⟩
theorem Fs.tr {l : List Int} {d : Int} {is : List Int} {M N K : aM} (a : Fs l d is M N) (b : Fs l d is N K) : Fs l d is M K := ⟨fun v h1 h2 => (b.1 v h1 h2).trans (a.1 v h1 h2), fun i hi => (b.2 i hi).trans (a.2 i hi)⟩
theorem Fs.mono {l l2 : List Int} {d : Int} {is is2 : List Int} {M N : aM} (a : Fs l d is M N) (h1 : ∀ v ∈ l, v ∈ l2) (h2 : ∀ v ∈ is, v ∈ is2) : Fs l2 d is2 M N := ⟨fun v g1 g2 => a.1 v (fun g => g1 (h1 v g)) g2, fun i hi => a.2 i (fun g => hi (h2 i g))⟩
theorem Fr.fs {l : List Int} {d : Int} {is : List Int} {M N : aM} (a : Fr l M N) (hd : d ∉ l) : Fs l d is M N := ⟨fun v g1 _ => a v g1, fun i _ => by rw [a d hd]⟩
theorem Fs.pu {l : List Int} {d : Int} {is : List Int} {M N : aM} (a : Fs l d is M N) {v i x : Int} (hv : v ∈ l) (hd : v ≠ d) : Fs l d is M (mup N v i x) := by
  refine ⟨fun w h1 h2 => ?_, fun j hj => ?_⟩
  · rw [mup_fn (fun e => h1 (by rw [e]; exact hv))]; exact a.1 w h1 h2
  · rw [mup_fn (fun e => hd e.symm)]; exact a.2 j hj
theorem Fs.ps {l : List Int} {d : Int} {is : List Int} {M N : aM} (a : Fs l d is M N) {i x : Int} (hi : i ∈ is) : Fs l d is M (mup N d i x) := by
  refine ⟨fun w h1 h2 => ?_, fun j hj => ?_⟩
  · rw [mup_fn h2]; exact a.1 w h1 h2
  · rw [mup_ne (Or.inr (fun e => hj (by rw [e]; exact hi)))]; exact a.2 j hj
/-- what the reference's rows of stands change -/
abbrev FL : aM → aM → Prop := Fs [82, 84, 85] 75 [24]
theorem Fr.fl {M N : aM} (a : Fr [82] M N) : FL M N := (a.fs (is := [24]) (by decide)).mono (by decide) (fun _ h => h)
theorem FL.r {M N : aM} (F : FL M N) : N 76 = M 76 ∧ N 83 = M 83 ∧ N 75 19 = M 75 19 := ⟨F.1 76 (by decide) (by decide), F.1 83 (by decide) (by decide), F.2 19 (by decide)⟩
theorem s_Md_begins (A : At h c p L M) (W : WS (M 76)) (hn : nS (M 76) ≤ 20000) {z : Int} (h0 : 0 ≤ z) (h1 : z < nS (M 76)) : ∃ h' M', f_Md_begins h 75 z = some ((3, 0), h') ∧ At h' c p L M' ∧ FL M M' ∧ PI M' 84 85 (M' 75 24) (nS (M 76)) (b0 z) := by
  have hS := nS_rng W
  unfold f_Md_begins
  refine loop_r (F := fun n (b : mH × Int) => f_Md_begins_L2 _ 75 n b.1 b.2) (P := fun o => ∃ h' M', o = some ((3, 0), h') ∧ At h' c p L M' ∧ FL M M' ∧ PI M' 84 85 (M' 75 24) (nS (M 76)) (b0 z)) (fun i b => b.2 = (i : Int) ∧ ∃ M', At b.1 c p L M' ∧ FL M M' ∧ ∀ j : Int, 0 ≤ j → j < i → M' 84 j = -1) (nS (M 76)).toNat (fun i hi b hb n => ?_) (fun b hb n => ?_) (i := 0) (b := (h, 0)) ⟨rfl, M, A, Fs.rf _ _ _ _, fun j g0 g1 => by omega⟩ (by omega) (by omega)
  · obtain ⟨h1', r⟩ := b
    obtain ⟨hr, M1, A1, F1, hv⟩ := hb
    have hr : r = (i : Int) := hr
    subst hr
    have A1 : At h1' c p L M1 := A1
    right
    have B := MH.of A1
    rw [F1.r.1] at B
    have C := A1.md
    have A2 := A1.aput (v := 84) i (-1) (by decide) (by decide) (by decide) (by decide +kernel) (by decide) (by decide)
    refine ⟨(hput h1' 84 i (-1), ((i + 1 : Nat) : Int)), ⟨rfl, _, A2, F1.pu (by decide) (by decide), fun j g0 g1 => ?_⟩, ?_⟩
    · by_cases e : j = i
      · rw [e, mup_eq]
      · rw [mup_ne (Or.inr e)]; exact hv j g0 (by omega)
    · show f_Md_begins_L2 _ 75 (n + 1) h1' i = f_Md_begins_L2 _ 75 n (hput h1' 84 i (-1)) ((i + 1 : Nat) : Int)
      rw [f_Md_begins_L2, chk_t B.T, s_Md_stands B W, bndT_ok (by decide), if_neg (by omega), chk_t B.T]
      simp only [C]
      rw [chk_t trivial, chk_t (by omega), wth, wtv, w32_n i (by omega)]
  · obtain ⟨h1', r⟩ := b
    obtain ⟨hr, M1, A1, F1, hv⟩ := hb
    have hr : r = ((nS (M 76)).toNat : Int) := hr
    subst hr
    have A1 : At h1' c p L M1 := A1
    have B := MH.of A1
    rw [F1.r.1] at B
    have C1 := A1.md
    have A2 := A1.aput (v := 84) z 0 (by decide) (by decide) (by decide) (by decide +kernel) (by decide) (by decide)
    have C2 := A2.md
    have A3 := A2.aput (v := 85) 0 z (by decide) (by decide) (by decide) (by decide +kernel) (by decide) (by decide)
    have C3 := A3.md
    have A4 := A3.fput (v := 75) (i := 24) 1 (by decide) (by decide) (by decide) (by decide +kernel) (by decide)
    refine ⟨_, _, ?_, A4, ((F1.pu (by decide) (by decide)).pu (by decide) (by decide)).ps (by decide), fun s g0 g1 => ?_, fun j g0 g1 => ?_, ?_⟩
    · show f_Md_begins_L2 _ 75 (n + 1) h1' ((nS (M 76)).toNat : Int) = _
      rw [f_Md_begins_L2, chk_t B.T, s_Md_stands B W, bndT_ok (by decide), if_pos (by omega), chk_t B.T]
      simp only [C1, wth]
      rw [chk_t trivial, chk_t (by omega)]
      simp only [C2]
      rw [chk_t trivial, chk_t trivial, chk_t (by omega)]
      simp only [C3]
      rw [chk_t trivial]
    · rw [mup_fn (w := 84) (by decide), mup_fn (w := 84) (by decide)]
      show mup M1 84 z 0 84 s = if s = z then 0 else -1
      by_cases e : s = z
      · rw [e, mup_eq, if_pos rfl]
      · rw [mup_ne (Or.inr e), if_neg e]; exact hv s g0 (by omega)
    · have g1 : j < 1 := g1
      rw [mup_fn (w := 85) (by decide), show j = 0 by omega, mup_eq]; rfl
    · rw [mup_eq]; rfl
theorem s_Md_comes (A : At h c p L M) {n : Nat} (hn : n ≤ 20000) {S : tB} (Q : PI M 84 85 (M 75 24) n S) {s d : Int} (h0 : 0 ≤ s) (h1 : s < n) (hm : 0 ≤ bM S ∧ (bF S s = -1 → bM S < n)) :
    ∃ h' M', f_Md_comes h 75 s d = some ((3, 0), h') ∧ At h' c p L M' ∧ FL M M' ∧ PI M' 84 85 (M' 75 24) n (tk S s d) := by
  have C := A.md
  unfold f_Md_comes tk
  simp only [C, wth]
  rw [chk_t trivial, chk_t trivial, chk_t (by omega), Q.1 s h0 h1]
  by_cases e : bF S s = -1
  · have hm2 := hm.2 e
    have hmany := Q.2.2
    have A2 := A.aput (v := 84) s d (by decide) (by decide) (by decide) (by decide +kernel) (by decide) (by decide)
    have C2 := A2.md
    have A3 := A2.aput (v := 85) (bM S) s (by decide) (by decide) (by decide) (by decide +kernel) (by decide) (by decide)
    have C3 := A3.md
    have A4 := A3.fput (v := 75) (i := 24) (bM S + 1) (by decide) (by decide) (by decide) (by decide +kernel) (by decide)
    refine ⟨_, _, ?_, A4, (((Fs.rf _ _ _ _).pu (by decide) (by decide)).pu (by decide) (by decide)).ps (by decide), ?_⟩
    · rw [if_pos e, chk_t trivial, chk_t trivial, chk_t (by omega)]
      simp only [C2]
      rw [mup_fn (w := 75) (by decide), hmany, chk_t trivial, chk_t trivial, chk_t trivial, chk_t (by omega)]
      simp only [C3]
      rw [mup_fn (w := 75) (by decide), mup_fn (w := 75) (by decide), hmany, chk_t trivial, chk_t trivial, w32_id (by omega) (by omega)]
    · rw [if_pos e]
      refine ⟨fun w g0 g1 => ?_, fun j g0 g1 => ?_, ?_⟩
      · rw [mup_fn (w := 84) (by decide), mup_fn (w := 84) (by decide)]
        show mup M 84 s d 84 w = u1 (bF S) s d w
        by_cases e2 : w = s
        · rw [e2, mup_eq, u1_eq]
        · rw [mup_ne (Or.inr e2), u1_ne e2]; exact Q.1 w g0 g1
      · have g1 : j < bM S + 1 := g1
        rw [mup_fn (w := 85) (by decide)]
        show mup (mup M 84 s d) 85 (bM S) s 85 j = u1 (bO S) (bM S) s j
        by_cases e2 : j = bM S
        · rw [e2, mup_eq, u1_eq]
        · rw [mup_ne (Or.inr e2), u1_ne e2, mup_fn (by decide)]; exact Q.2.1 j g0 (by omega)
      · rw [mup_eq]; rfl
  · rw [if_neg e, if_neg e]
    exact ⟨h, M, rfl, A, Fs.rf _ _ _ _, Q⟩
end
