/-! BITS of ints, one by one -/
def bt (x : Int) (i : Nat) : Bool := (BitVec.ofInt 32 x).getLsbD i
theorem bv_toInt (x : Int32) : BitVec.ofInt 32 x.toInt = x.toBitVec := by
  show BitVec.ofInt 32 x.toBitVec.toInt = _
  exact BitVec.ofInt_toInt
theorem ofInt_bv (a : Int) : (Int32.ofInt a).toBitVec = BitVec.ofInt 32 a := rfl
theorem bt_qand (a b : Int) (i : Nat) : bt (qand a b) i = (bt a i && bt b i) := by
  unfold bt qand
  rw [bv_toInt]
  show ((Int32.ofInt a).toBitVec &&& (Int32.ofInt b).toBitVec).getLsbD i = _
  rw [BitVec.getLsbD_and]; rfl
theorem bt_qor (a b : Int) (i : Nat) : bt (qor a b) i = (bt a i || bt b i) := by
  unfold bt qor
  rw [bv_toInt]
  show ((Int32.ofInt a).toBitVec ||| (Int32.ofInt b).toBitVec).getLsbD i = _
  rw [BitVec.getLsbD_or]; rfl
theorem bt_qxor (a b : Int) (i : Nat) : bt (qxor a b) i = (bt a i ^^ bt b i) := by
  unfold bt qxor
  rw [bv_toInt]
  show ((Int32.ofInt a).toBitVec ^^^ (Int32.ofInt b).toBitVec).getLsbD i = _
  rw [BitVec.getLsbD_xor]; rfl
theorem bt_m1 {i : Nat} (h : i < 32) : bt (-1) i = true := by
  unfold bt
  rw [show BitVec.ofInt 32 (-1) = BitVec.allOnes 32 by decide, BitVec.getLsbD_allOnes]
  simp [h]
theorem bt_ge {x : Int} {i : Nat} (h : 32 ≤ i) : bt x i = false := BitVec.getLsbD_of_ge _ _ h
theorem bt_0 (i : Nat) : bt 0 i = false := by
  unfold bt; rw [show BitVec.ofInt 32 0 = 0#32 by decide]; simp
theorem bt_nat (x i : Nat) (h : i < 32) : bt (x : Int) i = x.testBit i := by
  unfold bt
  rw [BitVec.ofInt_natCast, BitVec.getLsbD_ofNat]
  simp [h]
theorem qsh_amt {b : Int} (h1 : 0 ≤ b) (h2 : b < 32) : ((Int32.ofInt b &&& 31).toBitVec.smod 32).toNat = b.toNat := by
  obtain ⟨n, rfl⟩ := Int.eq_ofNat_of_zero_le h1
  have : n < 32 := by omega
  revert this
  have H : ∀ m : Fin 32, ((Int32.ofInt (m.val : Int) &&& 31).toBitVec.smod 32).toNat = ((m.val : Int)).toNat := by decide +kernel
  intro h
  exact H ⟨n, h⟩
theorem bt_qshl {a b : Int} (h1 : 0 ≤ b) (h2 : b < 32) (i : Nat) : bt (qshl a b) i = (decide (i < 32) && decide (b.toNat ≤ i) && bt a (i - b.toNat)) := by
  unfold bt qshl
  rw [bv_toInt]
  show ((Int32.ofInt a).toBitVec <<< ((Int32.ofInt b &&& 31).toBitVec.smod 32)).getLsbD i = _
  rw [BitVec.shiftLeft_eq', BitVec.getLsbD_shiftLeft, qsh_amt h1 h2, ofInt_bv]
  by_cases h : i < b.toNat
  · simp [h, show ¬ b.toNat ≤ i by omega]
  · simp [h, show b.toNat ≤ i by omega]
theorem qshr_eq {a b : Int} (ha : -2147483648 ≤ a) (ha2 : a < 2147483648) (h1 : 0 ≤ b) (h2 : b < 32) : qshr a b = a / 2 ^ b.toNat := by
  unfold qshr
  show ((Int32.ofInt a).toBitVec.sshiftRight' ((Int32.ofInt b &&& 31).toBitVec.smod 32)).toInt = _
  rw [BitVec.sshiftRight', BitVec.toInt_sshiftRight, qsh_amt h1 h2, Int.shiftRight_eq_div_pow]
  rw [show (Int32.ofInt a).toBitVec.toInt = a from ?_]
  · norm_cast
  · show (Int32.ofInt a).toInt = a
    rw [i32_ofInt, w32_id ha ha2]
theorem qand1 (x : Int) : qand x 1 = x % 2 := by
  unfold qand
  have e : ((Int32.ofInt x &&& Int32.ofInt 1)).toBitVec = BitVec.ofInt 32 (x % 2) := by
    show (BitVec.ofInt 32 x &&& 1#32) = _
    apply BitVec.eq_of_toNat_eq
    rw [BitVec.toNat_and, BitVec.toNat_ofInt, BitVec.toNat_ofInt]
    rw [show (1#32).toNat = 1 by decide, Nat.and_one_is_mod]
    omega
  show BitVec.toInt _ = _
  rw [e, BitVec.toInt_ofInt]
  exact Int.bmod_eq_of_le (by omega) (by omega)
theorem bt_div {a : Int} (ha : -2147483648 ≤ a) (ha2 : a < 2147483648) {i : Nat} (hi : i < 32) : bt a i = decide (a / 2 ^ i % 2 = 1) := by
  unfold bt
  rw [BitVec.getLsbD, BitVec.toNat_ofInt, Nat.testBit_eq_decide_div_mod_eq]
  congr 1
  apply propext
  have hp : (2 : Int) ^ i * 2 ^ (32 - i) = 2 ^ 32 := by rw [← Int.pow_add]; congr 1; omega
  have h0 : (0 : Int) < 2 ^ i := Int.pow_pos (by decide)
  obtain ⟨k, hk⟩ : ∃ k : Int, (2 : Int) ^ (32 - i) = 2 * k := ⟨2 ^ (31 - i), by rw [show 32 - i = (31 - i) + 1 by omega, Int.pow_succ]; omega⟩
  have e1 : (((a % ((2 ^ 32 : Nat) : Int)).toNat / 2 ^ i % 2 : Nat) : Int) = a / 2 ^ i % 2 := by
    rw [Int.natCast_emod, Int.natCast_ediv, Int.toNat_of_nonneg (Int.emod_nonneg _ (by decide))]
    have e2 : a % ((2 ^ 32 : Nat) : Int) = a + 2 ^ i * (2 * (k * -(a / 4294967296))) := by
      have e3 : (2 : Int) ^ i * (2 * (k * -(a / 4294967296))) = (2 ^ i * (2 * k)) * -(a / 4294967296) := by
        simp only [Int.mul_assoc]
      rw [e3, ← hk, hp]
      omega
    rw [e2, show ((2 ^ i : Nat) : Int) = (2 : Int) ^ i from Int.natCast_pow 2 i]
    show (a + 2 ^ i * (2 * (k * -(a / 4294967296)))) / 2 ^ i % 2 = a / 2 ^ i % 2
    rw [Int.add_mul_ediv_left _ _ (Int.ne_of_gt h0), Int.add_mul_emod_self_left]
  omega
/-- a step's bit, looked at as the code does -/
theorem bt_at {a v : Int} (ha : -2147483648 ≤ a) (ha2 : a < 2147483648) (h1 : 0 ≤ v) (h2 : v < 32) : qand (qshr a v) 1 = 1 ↔ bt a v.toNat = true := by
  rw [qshr_eq ha ha2 h1 h2, qand1, bt_div ha ha2 (by omega)]
  simp
theorem q_rng (x : Int32) : -2147483648 ≤ x.toInt ∧ x.toInt < 2147483648 := i32_rng x
theorem qand_rng (a b : Int) : -2147483648 ≤ qand a b ∧ qand a b < 2147483648 := i32_rng _
theorem qor_rng (a b : Int) : -2147483648 ≤ qor a b ∧ qor a b < 2147483648 := i32_rng _
theorem qxor_rng (a b : Int) : -2147483648 ≤ qxor a b ∧ qxor a b < 2147483648 := i32_rng _
theorem qshl_rng (a b : Int) : -2147483648 ≤ qshl a b ∧ qshl a b < 2147483648 := i32_rng _
theorem bt_ext {a b : Int} (ha : -2147483648 ≤ a ∧ a < 2147483648) (hb : -2147483648 ≤ b ∧ b < 2147483648) (h : ∀ i, i < 32 → bt a i = bt b i) : a = b := by
  have e : BitVec.ofInt 32 a = BitVec.ofInt 32 b := BitVec.eq_of_getLsbD_eq (fun i hi => h i hi)
  have e2 := congrArg BitVec.toInt e
  rw [BitVec.toInt_ofInt, BitVec.toInt_ofInt, Int.bmod_eq_of_le (by omega) (by omega), Int.bmod_eq_of_le (by omega) (by omega)] at e2
  exact e2
/-- a mask: bits below k alone -/
theorem mask_rng {a : Int} {k : Nat} (hk : k < 31) (ha : -2147483648 ≤ a ∧ a < 2147483648) (h : ∀ i, k ≤ i → i < 32 → bt a i = false) : 0 ≤ a ∧ a < 2 ^ k := by
  have h31 := h 31 (by omega) (by omega)
  rw [bt_div ha.1 ha.2 (by omega)] at h31
  have h0 : 0 ≤ a := by
    have := of_decide_eq_false h31
    omega
  refine ⟨h0, ?_⟩
  obtain ⟨n, rfl⟩ := Int.eq_ofNat_of_zero_le h0
  have : n < 2 ^ k := by
    apply Nat.lt_pow_two_of_testBit
    intro i hi
    by_cases h32 : i < 32
    · rw [← bt_nat n i h32]; exact h i hi h32
    · apply Nat.testBit_lt_two_pow
      have h1 : n < 2 ^ 31 := by omega
      exact Nat.lt_of_lt_of_le h1 (Nat.pow_le_pow_right (by decide) (by omega))
  norm_cast
