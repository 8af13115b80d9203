/-! feed, THE REFERENCE -/
def rbV (y i : Int) : Int := qand (qushr y (24 - 8 * (i % 4))) 255
def slV (a b x d e i : Int) : Int := if i < 4 then a else if i < 8 then b else if i < 12 then x else if i < 16 then d else e
theorem qand3 {i : Int} (h0 : 0 ≤ i) (h1 : i < 20) : qand i 3 = i % 4 := by
  have H : ∀ m : Fin 20, qand ((m.val : Nat) : Int) 3 = ((m.val : Nat) : Int) % 4 := by decide +kernel
  have := H ⟨i.toNat, by omega⟩
  rw [show ((i.toNat : Nat) : Int) = i by omega] at this
  exact this
section
variable {h : mH} {c : Int} {p L : Int → Int} {M : aM} {t : tT}
theorem r_feed (A : At h c p L M) (hf : 0 ≤ M 75 7 ∧ M 75 7 ≤ 900) (a b x d e : Int) : ∃ h' M' y, f_Md_feed h 75 a b x d e = some ((0, y), h') ∧ At h' c p L M' ∧ Fs [81] 75 [5, 7] M M' ∧ M' 75 5 = 0 ∧ (880 < M 75 7 → y = -1 ∧ M' 75 7 = M 75 7 ∧ M' 81 = M 81) ∧ (M 75 7 ≤ 880 → y = M 75 7 + 20 ∧ M' 75 7 = M 75 7 + 20 ∧ (∀ i, i < M 75 7 → M' 81 i = M 81 i) ∧ ∀ i : Int, 0 ≤ i → i < 20 → M' 81 (M 75 7 + i) = rbV (slV a b x d e i) i) := by
  have A1 := A.thr 0
  have C1 := A1.md
  have k7 : mup M 75 5 0 75 7 = M 75 7 := mup_ne (Or.inr (by decide))
  have k81 : mup M 75 5 0 81 = M 81 := mup_fn (by decide)
  unfold f_Md_feed
  rw [chk_t A.md.1, wth]
  simp only [C1]
  rw [chk_t trivial, k7, w32_id (by omega) (by omega)]
  by_cases g : M 75 7 + 20 ≤ 900
  · rw [if_pos g]
    refine loop_r (F := fun n (y : mH × Int) => f_Md_feed_L23 75 a b x d e n y.1 y.2) (P := fun r => ∃ h' M' y, r = some ((0, y), h') ∧ At h' c p L M' ∧ Fs [81] 75 [5, 7] M M' ∧ M' 75 5 = 0 ∧ (880 < M 75 7 → y = -1 ∧ M' 75 7 = M 75 7 ∧ M' 81 = M 81) ∧ (M 75 7 ≤ 880 → y = M 75 7 + 20 ∧ M' 75 7 = M 75 7 + 20 ∧ (∀ i, i < M 75 7 → M' 81 i = M 81 i) ∧ ∀ i : Int, 0 ≤ i → i < 20 → M' 81 (M 75 7 + i) = rbV (slV a b x d e i) i)) (fun k y => y.2 = (k : Int) ∧ ∃ M', At y.1 c p L M' ∧ Fs [81] 75 [5, 7] M M' ∧ M' 75 5 = 0 ∧ M' 75 7 = M 75 7 + k ∧ (∀ i, i < M 75 7 → M' 81 i = M 81 i) ∧ ∀ i : Int, 0 ≤ i → i < (k : Int) → M' 81 (M 75 7 + i) = rbV (slV a b x d e i) i) 20 (fun k hk y hy n => ?_) (fun y hy n => ?_) (i := 0) (b := (hput h 75 5 0, 0)) ⟨rfl, _, A1, (Fs.rf _ _ _ _).ps (by decide), thr_eq M 0, by rw [k7]; omega, fun i _ => by rw [k81], fun i g0 g1 => by omega⟩ (by omega) (by omega)
    · obtain ⟨h2, r⟩ := y
      obtain ⟨hr_, M2, A2_, F2, x5, x7, o2, v2⟩ := hy
      have hr : r = (k : Int) := hr_
      have A2 : At h2 c p L M2 := A2_
      clear hr_ A2_
      subst hr
      right
      have C2 := A2.md
      have q3 := qand3 (i := (k : Int)) (by omega) (by omega)
      have ee : w32 (24 - w32 (8 * ((k : Int) % 4))) = 24 - 8 * ((k : Int) % 4) := by rw [w32_id (x := 8 * ((k : Int) % 4)) (by omega) (by omega), w32_id (by omega) (by omega)]
      have j76 : ∀ s0, s0 = slV a b x d e k → ∃ y' : mH × Int, (y'.2 = ((k + 1 : Nat) : Int) ∧ ∃ M', At y'.1 c p L M' ∧ Fs [81] 75 [5, 7] M M' ∧ M' 75 5 = 0 ∧ M' 75 7 = M 75 7 + ((k + 1 : Nat) : Int) ∧ (∀ i, i < M 75 7 → M' 81 i = M 81 i) ∧ ∀ i : Int, 0 ≤ i → i < ((k + 1 : Nat) : Int) → M' 81 (M 75 7 + i) = rbV (slV a b x d e i) i) ∧ f_Md_feed_J76 (f_Md_feed_L23 75 a b x d e n) 75 k s0 h2 = f_Md_feed_L23 75 a b x d e n y'.1 y'.2 := fun s0 hs => by
        have A3 := A2.aput (v := 81) (M2 75 7) (qand (qushr s0 (24 - 8 * ((k : Int) % 4))) 255) (by decide) (by decide) (by decide) (by decide +kernel) (by decide) (by decide)
        have C3 := A3.md
        have y7 : mup M2 81 (M2 75 7) (qand (qushr s0 (24 - 8 * ((k : Int) % 4))) 255) 75 7 = M2 75 7 := mup_ne (Or.inl (by decide))
        have A4 := A3.fput (v := 75) (i := 7) (M2 75 7 + 1) (by decide) (by decide) (by decide) (by decide +kernel) (by decide)
        unfold f_Md_feed_J76
        rw [q3, ee]
        simp only [C2]
        rw [chk_t trivial, chk_t trivial, chk_t trivial, chk_t (by omega), wth]
        simp only [C3]
        rw [chk_t trivial, chk_t trivial, y7, w32_id (by omega) (by omega), wth, wtv, w32_n k (by omega)]
        refine ⟨(hput (hput h2 81 (M2 75 7) (qand (qushr s0 (24 - 8 * ((k : Int) % 4))) 255)) 75 7 (M2 75 7 + 1), ((k + 1 : Nat) : Int)), ⟨rfl, _, A4, (F2.pu (by decide) (by decide)).ps (by decide), by rw [mup_ne (Or.inr (by decide)), mup_ne (Or.inl (by decide))]; exact x5, by rw [mup_eq, x7]; omega, fun i g0 => ?_, fun i g0 g1 => ?_⟩, rfl⟩
        · rw [mup_ne (Or.inl (by decide)), mup_ne (Or.inr (by omega))]; exact o2 i g0
        · rw [mup_ne (Or.inl (by decide))]
          by_cases q : i = k
          · rw [q, x7, mup_eq, hs]; rfl
          · rw [mup_ne (Or.inr (by omega))]; exact v2 i g0 (by omega)
      show ∃ y' : mH × Int, _ ∧ f_Md_feed_L23 75 a b x d e (n + 1) h2 k = _
      rw [f_Md_feed_L23, if_neg (by omega)]
      by_cases g1 : 4 ≤ (k : Int)
      · rw [if_pos g1]
        by_cases g2 : 8 ≤ (k : Int)
        · rw [if_pos g2]
          by_cases g3 : 12 ≤ (k : Int)
          · rw [if_pos g3]
            by_cases g4 : 16 ≤ (k : Int)
            · rw [if_pos g4]; exact j76 e (by unfold slV; rw [if_neg (by omega), if_neg (by omega), if_neg (by omega), if_neg (by omega)])
            · rw [if_neg g4]; exact j76 d (by unfold slV; rw [if_neg (by omega), if_neg (by omega), if_neg (by omega), if_pos (by omega)])
          · rw [if_neg g3]; exact j76 x (by unfold slV; rw [if_neg (by omega), if_neg (by omega), if_pos (by omega)])
        · rw [if_neg g2]; exact j76 b (by unfold slV; rw [if_neg (by omega), if_pos (by omega)])
      · rw [if_neg g1]; exact j76 a (by unfold slV; rw [if_pos (by omega)])
    · obtain ⟨h2, r⟩ := y
      obtain ⟨hr_, M2, A2_, F2, x5, x7, o2, v2⟩ := hy
      have hr : r = ((20 : Nat) : Int) := hr_
      have A2 : At h2 c p L M2 := A2_
      subst hr
      have C2 := A2.md
      refine ⟨h2, M2, M 75 7 + 20, ?_, A2, F2, x5, fun q => by omega, fun _ => ⟨rfl, by rw [x7]; omega, o2, fun i g0 g1 => v2 i g0 (by omega)⟩⟩
      show f_Md_feed_L23 75 a b x d e (n + 1) h2 ((20 : Nat) : Int) = _
      rw [f_Md_feed_L23, if_pos (by omega)]
      simp only [C2]
      rw [chk_t trivial, x7]
      rfl
  · rw [if_neg g]
    exact ⟨_, _, -1, rfl, A1, (Fs.rf _ _ _ _).ps (by decide), thr_eq M 0, fun _ => ⟨rfl, k7, k81⟩, fun q => by omega⟩
end
