/-! CUT TO A TRAY'S SORT -/
theorem qlshl_56 (a : Int) : qlshl a 56 = w64 ((a % 18446744073709551616) * 2 ^ 56) := by
  unfold qlshl
  show ((Int64.ofInt a).toBitVec <<< (((Int32.ofInt 56).toInt64 &&& 63).toBitVec.smod 64)).toInt = _
  rw [BitVec.shiftLeft_eq', show (((Int32.ofInt 56).toInt64 &&& 63).toBitVec.smod 64).toNat = 56 by decide +kernel, BitVec.toInt_shiftLeft, w64_bmod]
  rw [show (Int64.ofInt a).toBitVec.toNat = (a % 18446744073709551616).toNat from BitVec.toNat_ofInt ..]
  rw [Nat.shiftLeft_eq]
  rw [Int.natCast_mul, Int.toNat_of_nonneg (Int.emod_nonneg _ (by decide)), show ((2 ^ 56 : Nat) : Int) = 2 ^ 56 by decide +kernel]
theorem qlshr_56 {a : Int} (ha : -9223372036854775808 ≤ a) (ha2 : a < 9223372036854775808) : qlshr a 56 = a / 2 ^ 56 := by
  unfold qlshr
  show ((Int64.ofInt a).toBitVec.sshiftRight' (((Int32.ofInt 56).toInt64 &&& 63).toBitVec.smod 64)).toInt = _
  rw [BitVec.sshiftRight', BitVec.toInt_sshiftRight, show (((Int32.ofInt 56).toInt64 &&& 63).toBitVec.smod 64).toNat = 56 by decide +kernel, Int.shiftRight_eq_div_pow]
  rw [show (Int64.ofInt a).toBitVec.toInt = a from ?_]
  · norm_cast
  · show (Int64.ofInt a).toInt = a
    rw [i64_ofInt, w64_id ha ha2]
theorem qlshl_48 (a : Int) : qlshl a 48 = w64 ((a % 18446744073709551616) * 2 ^ 48) := by
  unfold qlshl
  show ((Int64.ofInt a).toBitVec <<< (((Int32.ofInt 48).toInt64 &&& 63).toBitVec.smod 64)).toInt = _
  rw [BitVec.shiftLeft_eq', show (((Int32.ofInt 48).toInt64 &&& 63).toBitVec.smod 64).toNat = 48 by decide +kernel, BitVec.toInt_shiftLeft, w64_bmod]
  rw [show (Int64.ofInt a).toBitVec.toNat = (a % 18446744073709551616).toNat from BitVec.toNat_ofInt ..]
  rw [Nat.shiftLeft_eq]
  rw [Int.natCast_mul, Int.toNat_of_nonneg (Int.emod_nonneg _ (by decide)), show ((2 ^ 48 : Nat) : Int) = 2 ^ 48 by decide +kernel]
theorem qlshr_48 {a : Int} (ha : -9223372036854775808 ≤ a) (ha2 : a < 9223372036854775808) : qlshr a 48 = a / 2 ^ 48 := by
  unfold qlshr
  show ((Int64.ofInt a).toBitVec.sshiftRight' (((Int32.ofInt 48).toInt64 &&& 63).toBitVec.smod 64)).toInt = _
  rw [BitVec.sshiftRight', BitVec.toInt_sshiftRight, show (((Int32.ofInt 48).toInt64 &&& 63).toBitVec.smod 64).toNat = 48 by decide +kernel, Int.shiftRight_eq_div_pow]
  rw [show (Int64.ofInt a).toBitVec.toInt = a from ?_]
  · norm_cast
  · show (Int64.ofInt a).toInt = a
    rw [i64_ofInt, w64_id ha ha2]
theorem qlshl_32 (a : Int) : qlshl a 32 = w64 ((a % 18446744073709551616) * 2 ^ 32) := by
  unfold qlshl
  show ((Int64.ofInt a).toBitVec <<< (((Int32.ofInt 32).toInt64 &&& 63).toBitVec.smod 64)).toInt = _
  rw [BitVec.shiftLeft_eq', show (((Int32.ofInt 32).toInt64 &&& 63).toBitVec.smod 64).toNat = 32 by decide +kernel, BitVec.toInt_shiftLeft, w64_bmod]
  rw [show (Int64.ofInt a).toBitVec.toNat = (a % 18446744073709551616).toNat from BitVec.toNat_ofInt ..]
  rw [Nat.shiftLeft_eq]
  rw [Int.natCast_mul, Int.toNat_of_nonneg (Int.emod_nonneg _ (by decide)), show ((2 ^ 32 : Nat) : Int) = 2 ^ 32 by decide +kernel]
theorem qlshr_32 {a : Int} (ha : -9223372036854775808 ≤ a) (ha2 : a < 9223372036854775808) : qlshr a 32 = a / 2 ^ 32 := by
  unfold qlshr
  show ((Int64.ofInt a).toBitVec.sshiftRight' (((Int32.ofInt 32).toInt64 &&& 63).toBitVec.smod 64)).toInt = _
  rw [BitVec.sshiftRight', BitVec.toInt_sshiftRight, show (((Int32.ofInt 32).toInt64 &&& 63).toBitVec.smod 64).toNat = 32 by decide +kernel, Int.shiftRight_eq_div_pow]
  rw [show (Int64.ofInt a).toBitVec.toInt = a from ?_]
  · norm_cast
  · show (Int64.ofInt a).toInt = a
    rw [i64_ofInt, w64_id ha ha2]
theorem qlshl_0 (a : Int) : qlshl a 0 = w64 ((a % 18446744073709551616) * 2 ^ 0) := by
  unfold qlshl
  show ((Int64.ofInt a).toBitVec <<< (((Int32.ofInt 0).toInt64 &&& 63).toBitVec.smod 64)).toInt = _
  rw [BitVec.shiftLeft_eq', show (((Int32.ofInt 0).toInt64 &&& 63).toBitVec.smod 64).toNat = 0 by decide +kernel, BitVec.toInt_shiftLeft, w64_bmod]
  rw [show (Int64.ofInt a).toBitVec.toNat = (a % 18446744073709551616).toNat from BitVec.toNat_ofInt ..]
  rw [Nat.shiftLeft_eq]
  rw [Int.natCast_mul, Int.toNat_of_nonneg (Int.emod_nonneg _ (by decide)), show ((2 ^ 0 : Nat) : Int) = 2 ^ 0 by decide +kernel]
theorem qlshr_0 {a : Int} (ha : -9223372036854775808 ≤ a) (ha2 : a < 9223372036854775808) : qlshr a 0 = a / 2 ^ 0 := by
  unfold qlshr
  show ((Int64.ofInt a).toBitVec.sshiftRight' (((Int32.ofInt 0).toInt64 &&& 63).toBitVec.smod 64)).toInt = _
  rw [BitVec.sshiftRight', BitVec.toInt_sshiftRight, show (((Int32.ofInt 0).toInt64 &&& 63).toBitVec.smod 64).toNat = 0 by decide +kernel, Int.shiftRight_eq_div_pow]
  rw [show (Int64.ofInt a).toBitVec.toInt = a from ?_]
  · norm_cast
  · show (Int64.ofInt a).toInt = a
    rw [i64_ofInt, w64_id ha ha2]
theorem cut_eq {s v : Int} (hs : 0 ≤ s ∧ s ≤ 3) (h1 : -9223372036854775808 ≤ v) (h2 : v < 9223372036854775808) : qlshr (qlshl v (w32 (64 - qshl 8 s))) (w32 (64 - qshl 8 s)) = cutV s v := by
  have hw : ∀ x, -9223372036854775808 ≤ w64 x ∧ w64 x < 9223372036854775808 := fun x => by unfold w64; omega
  rcases (show s = 0 ∨ s = 1 ∨ s = 2 ∨ s = 3 by omega) with e | e | e | e <;> subst e
  · rw [show w32 (64 - qshl 8 0) = 56 by decide +kernel, qlshl_56, qlshr_56 (hw _).1 (hw _).2, show cutV 0 v = w8 (w32 v) from rfl]
    unfold w64 w8 w32
    omega
  · rw [show w32 (64 - qshl 8 1) = 48 by decide +kernel, qlshl_48, qlshr_48 (hw _).1 (hw _).2, show cutV 1 v = w16 (w32 v) from rfl]
    unfold w64 w16 w32
    omega
  · rw [show w32 (64 - qshl 8 2) = 32 by decide +kernel, qlshl_32, qlshr_32 (hw _).1 (hw _).2, show cutV 2 v = w32 v from rfl]
    unfold w64 w32
    omega
  · rw [show w32 (64 - qshl 8 3) = 0 by decide +kernel, qlshl_0, qlshr_0 (hw _).1 (hw _).2, show cutV 3 v = v from rfl]
    unfold w64
    omega
section
variable {h : mH} {c : Int} {p L : Int → Int} {M : aM} {t : tT}
theorem s_cut (A : At h c p L M) {τ i v : Int} (t0 : 0 ≤ τ) (t1 : τ < 4) (i0 : 0 ≤ i) (i1 : i < 40) (hs : 0 ≤ M 96 τ ∧ M 96 τ ≤ 3) (h1 : -9223372036854775808 ≤ v) (h2 : v < 9223372036854775808) : f_Md_cut h 75 τ i v = some ((1, cutV (M 96 τ) v), hput h 98 (40 * τ + i) (cutV (M 96 τ) v)) ∧ At (hput h 98 (40 * τ + i) (cutV (M 96 τ) v)) c p L (mup M 98 (40 * τ + i) (cutV (M 96 τ) v)) := by
  have C := A.md
  have A1 := A.aput (v := 98) (40 * τ + i) (cutV (M 96 τ) v) (by decide) (by decide) (by decide) (by decide +kernel) (by decide) (by decide)
  have C1 := A1.md
  refine ⟨?_, A1⟩
  unfold f_Md_cut
  rw [show w32 (w32 (40 * τ) + i) = 40 * τ + i by rw [w32_id (x := 40 * τ) (by omega) (by omega), w32_id (by omega) (by omega)]]
  simp only [C]
  rw [chk_t trivial, chk_t trivial, chk_t (by omega), wtv, chk_t trivial, chk_t trivial, chk_t (by omega), cut_eq hs h1 h2, wth]
  simp only [C1]
  rw [chk_t trivial, chk_t trivial, chk_t (by omega), mup_eq]
theorem r_write (A : At h c p L M) (τ i : Int) {v : Int} (h1 : -9223372036854775808 ≤ v) (h2 : v < 9223372036854775808) (hs : 0 ≤ τ → τ < 4 → M 96 τ ≠ -1 → (0 ≤ M 96 τ ∧ M 96 τ ≤ 3) ∧ 0 ≤ M 97 τ ∧ M 97 τ ≤ 40) : ∃ h' M' y, f_Md_write h 75 τ i v = some ((1, y), h') ∧ At h' c p L M' ∧ Fs [98] 75 [5] M M' ∧ M' 75 5 = (if 0 ≤ τ ∧ τ < 4 then (if M 96 τ = -1 then 2 else if 0 ≤ i ∧ i < M 97 τ then 0 else 3) else 1) ∧ (∀ j : Int, M' 98 j = if ((0 ≤ τ ∧ τ < 4) ∧ M 96 τ ≠ -1 ∧ 0 ≤ i ∧ i < M 97 τ) ∧ j = 40 * τ + i then cutV (M 96 τ) v else M 98 j) ∧ ((0 ≤ τ ∧ τ < 4) ∧ M 96 τ ≠ -1 ∧ 0 ≤ i ∧ i < M 97 τ → y = cutV (M 96 τ) v) := by
  unfold f_Md_write
  rw [chk_t A.md.1, s_trayFault A τ, bndT_ok (by decide), chk_t A.md.1, wth]
  have fin : ∀ k : Int, 0 < k → ∀ g : ¬ ((0 ≤ τ ∧ τ < 4) ∧ M 96 τ ≠ -1 ∧ 0 ≤ i ∧ i < M 97 τ), ∃ h' M' y, some ((1, 0), hput h 75 5 k) = some (((1 : Nat), y), h') ∧ At h' c p L M' ∧ Fs [98] 75 [5] M M' ∧ M' 75 5 = k ∧ (∀ j : Int, M' 98 j = if ((0 ≤ τ ∧ τ < 4) ∧ M 96 τ ≠ -1 ∧ 0 ≤ i ∧ i < M 97 τ) ∧ j = 40 * τ + i then cutV (M 96 τ) v else M 98 j) ∧ ((0 ≤ τ ∧ τ < 4) ∧ M 96 τ ≠ -1 ∧ 0 ≤ i ∧ i < M 97 τ → y = cutV (M 96 τ) v) := fun k k0 g => ⟨_, _, 0, rfl, A.thr k, (Fs.rf _ _ _ _).ps (by decide), thr_eq M k, fun j => by rw [if_neg (fun q => g q.1), mup_fn (by decide)], fun q => absurd q g⟩
  by_cases g1 : 0 ≤ τ ∧ τ < 4
  · by_cases g2 : M 96 τ = -1
    · rw [if_pos g1, if_pos g2, if_pos g1, if_pos g2, chk_t (A.thr 2).md.1, hp_thr A 2, if_neg (by decide)]
      exact fin 2 (by decide) (fun q => q.2.1 g2)
    · rw [if_pos g1, if_neg g2, if_pos g1, if_neg g2]
      obtain ⟨s1, s2⟩ := hs g1.1 g1.2 g2
      have A1 := A.thr 0
      have C1 := A1.md
      have k97 : mup M 75 5 0 97 = M 97 := mup_fn (by decide)
      have k96 : mup M 75 5 0 96 = M 96 := mup_fn (by decide)
      have k98 : mup M 75 5 0 98 = M 98 := mup_fn (by decide)
      simp only [C1]
      rw [chk_t trivial, thr_eq, if_pos (by decide), chk_t trivial, chk_t trivial, chk_t (by omega), k97, w32_id (by omega) (by omega), s_Md_amid, bndT_ok (by decide)]
      by_cases g3 : 0 ≤ i ∧ i < M 97 τ
      · have cu := s_cut A1 (i := i) (v := v) g1.1 g1.2 g3.1 (by omega) (by rw [k96]; exact s1) h1 h2
        rw [k96] at cu
        rw [b2d (show 0 ≤ i ∧ i ≤ M 97 τ - 1 by omega), if_neg (by decide), if_pos g3, chk_t A1.md.1, cu.1, bndT_ok (by decide)]
        refine ⟨_, _, _, rfl, cu.2, ((Fs.rf _ _ _ _).ps (by decide)).pu (by decide) (by decide), by rw [mup_ne (Or.inl (by decide))]; exact thr_eq M 0, fun j => ?_, fun _ => rfl⟩
        by_cases q : j = 40 * τ + i
        · rw [q, mup_eq, if_pos ⟨⟨g1, g2, g3⟩, rfl⟩]
        · rw [mup_ne (Or.inr q), k98, if_neg (fun k => q k.2)]
      · rw [b2n (show ¬ (0 ≤ i ∧ i ≤ M 97 τ - 1) by omega), if_pos rfl, if_neg g3, chk_t A1.md.1, r_fails A1, bndT_ok (by decide)]
        exact ⟨_, _, 0, rfl, A1.thr 3, ((Fs.rf _ _ _ _).ps (by decide)).ps (by decide), thr_eq _ 3, fun j => by rw [if_neg (fun q => g3 q.1.2.2), mup_fn (by decide), k98], fun q => absurd q.2.2 g3⟩
  · rw [if_neg g1, if_neg g1, chk_t (A.thr 1).md.1, hp_thr A 1, if_neg (by decide)]
    exact fin 1 (by decide) (fun q => g1 q.1)
end
