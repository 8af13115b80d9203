/-! HALVES: a row of shifts -/
theorem qush_amt {b : Int} (h1 : 0 ≤ b) (h2 : b < 32) : (UInt32.mod ((Int32.ofInt b).toUInt32 &&& Int32.toUInt32 31) 32).toBitVec.toNat = b.toNat := by
  obtain ⟨n, rfl⟩ := Int.eq_ofNat_of_zero_le h1
  have : n < 32 := by omega
  revert this
  have H : ∀ m : Fin 32, (UInt32.mod ((Int32.ofInt (m.val : Int)).toUInt32 &&& Int32.toUInt32 31) 32).toBitVec.toNat = ((m.val : Int)).toNat := by decide +kernel
  intro h
  exact H ⟨n, h⟩
theorem bt_qushr {a b : Int} (h1 : 0 ≤ b) (h2 : b < 32) (i : Nat) : bt (qushr a b) i = bt a (b.toNat + i) := by
  unfold bt qushr
  rw [bv_toInt]
  show ((Int32.ofInt a).toBitVec >>> (UInt32.mod ((Int32.ofInt b).toUInt32 &&& Int32.toUInt32 31) 32).toBitVec).getLsbD i = _
  rw [BitVec.ushiftRight_eq', BitVec.getLsbD_ushiftRight, qush_amt h1 h2, ofInt_bv]
theorem qushr_irng (a b : Int) : -2147483648 ≤ qushr a b ∧ qushr a b < 2147483648 := i32_rng _
theorem qushr16 (x : Int) : 0 ≤ qushr x 16 ∧ qushr x 16 < 65536 := by
  have := mask_rng (k := 16) (by decide) (qushr_irng x 16) (fun i h1 h2 => by rw [bt_qushr (by decide) (by decide)]; exact bt_ge (by show 32 ≤ 16 + i; omega))
  exact this
def xs (b : Nat → Bool) (i : Nat) : Nat → Bool
  | 0 => false
  | k + 1 => xs b i k ^^ b (i + k)
theorem xs_cut {b : Nat → Bool} {i j : Nat} (h : ∀ l, j ≤ l → b (i + l) = false) : ∀ {k : Nat}, j ≤ k → xs b i k = xs b i j
  | 0, g => by rw [show j = 0 by omega]
  | k + 1, g => by
    by_cases e : j = k + 1
    · rw [e]
    · rw [xs, xs_cut h (show j ≤ k by omega), h k (by omega)]; simp
def hvV (x : Int) : Int := mkM (fun i => xs (bt x) i.toNat 32) 32
theorem hvV_of {x y : Int} (hy : -2147483648 ≤ y ∧ y < 2147483648) (h : ∀ i : Nat, i < 32 → bt y i = xs (bt x) i 32) : y = hvV x := mkM_ext (by decide) hy (fun i hi => by rw [h i hi, decide_eq_true hi, Bool.true_and, Int.toNat_natCast])
theorem hvV_bt {x : Int} {i : Nat} (hi : i < 32) : bt (hvV x) i = xs (bt x) i 32 := by
  unfold hvV; rw [bt_mkM _ (by decide) hi, decide_eq_true hi, Bool.true_and, Int.toNat_natCast]
theorem hvV_rng {x : Int} (h0 : 0 ≤ x) (h1 : x < 1073741824) : 0 ≤ hvV x ∧ hvV x < 1073741824 := by
  have hb : ∀ i, 30 ≤ i → bt x i = false := fun i hi => by
    by_cases g : i < 32
    · rw [bt_div (by omega) (by omega) g]
      have : x / 2 ^ i = 0 := Int.ediv_eq_zero_of_lt h0 (by
        have : (2 : Int) ^ 30 ≤ 2 ^ i := by exact_mod_cast Nat.pow_le_pow_right (by decide) hi
        have : (2 : Int) ^ 30 = 1073741824 := by decide
        omega)
      rw [this]; decide
    · exact bt_ge (by omega)
  have := mask_rng (a := hvV x) (k := 30) (by decide) (mkM_rng _ _) (fun i g1 g2 => by
    rw [hvV_bt g2, xs_cut (j := 0) (fun l _ => hb _ (by omega)) (by omega)]; rfl)
  have e : (2 : Int) ^ 30 = 1073741824 := by decide
  rw [e] at this; exact this
def xq (b : Nat → Bool) (s i : Nat) : Nat → Bool
  | 0 => false
  | k + 1 => xq b s i k ^^ b (i + s * k)
theorem xq_2 (b : Nat → Bool) (s i : Nat) : ∀ n : Nat, (xq b (2 * s) i n ^^ xq b (2 * s) (i + s) n) = xq b s i (2 * n)
  | 0 => rfl
  | n + 1 => by
    show ((xq b (2 * s) i n ^^ b (i + 2 * s * n)) ^^ (xq b (2 * s) (i + s) n ^^ b (i + s + 2 * s * n))) = ((xq b s i (2 * n) ^^ b (i + s * (2 * n))) ^^ b (i + s * (2 * n + 1)))
    rw [← xq_2 b s i n, show i + s * (2 * n) = i + 2 * s * n by rw [← Nat.mul_assoc, Nat.mul_comm s 2], show i + s * (2 * n + 1) = i + s + 2 * s * n by rw [Nat.mul_add, ← Nat.mul_assoc, Nat.mul_comm s 2]; omega]
    generalize xq b (2 * s) i n = p
    generalize xq b (2 * s) (i + s) n = q
    generalize b (i + 2 * s * n) = u
    generalize b (i + s + 2 * s * n) = v
    revert p q u v; decide
theorem xs_xq (b : Nat → Bool) (i : Nat) : ∀ n, xs b i n = xq b 1 i n
  | 0 => rfl
  | n + 1 => by rw [xs, xq, xs_xq b i n, Nat.one_mul]
theorem xq_sh {x y s : Int} {b : Nat → Bool} {n k : Nat} (hs : 0 ≤ s ∧ s < 32) (hk : s.toNat = k) (h : ∀ i, bt y i = xq b (2 * k) i n) (i : Nat) : bt (qxor y (qushr y s)) i = xq b k i (2 * n) := by
  rw [bt_qxor, bt_qushr hs.1 hs.2, h, h, hk, Nat.add_comm k i, xq_2]
theorem s_stepsToNought (h : mH) (x : Int) (h0 : -2147483648 ≤ x ∧ x < 2147483648) : f_Nb_stepsToNought h x = some ((0, hvV x), h) := by
  unfold f_Nb_stepsToNought
  have e : ∀ n, f_Nb_stepsToNought_L5 (n + 6) h x 16 = some ((0, hvV x), h) := fun n => by
    have q0 : ∀ i, bt x i = xq (bt x) (2 * 16) i 1 := fun i => by show _ = (false ^^ bt x (i + 2 * 16 * 0)); simp
    have q1 := xq_sh (x := x) (s := 16) (by decide) rfl q0
    rw [f_Nb_stepsToNought_L5, if_neg (by decide), wtv, wtv, show qshr 16 1 = 8 by decide +kernel]
    generalize qxor x (qushr x 16) = y at q1 ⊢
    have q2 := xq_sh (x := x) (s := 8) (k := 8) (by decide) rfl q1
    rw [f_Nb_stepsToNought_L5, if_neg (by decide), wtv, wtv, show qshr 8 1 = 4 by decide +kernel]
    generalize qxor y (qushr y 8) = z at q2 ⊢
    have q3 := xq_sh (x := x) (s := 4) (k := 4) (by decide) rfl q2
    rw [f_Nb_stepsToNought_L5, if_neg (by decide), wtv, wtv, show qshr 4 1 = 2 by decide +kernel]
    generalize qxor z (qushr z 4) = w at q3 ⊢
    have q4 := xq_sh (x := x) (s := 2) (k := 2) (by decide) rfl q3
    rw [f_Nb_stepsToNought_L5, if_neg (by decide), wtv, wtv, show qshr 2 1 = 1 by decide +kernel]
    generalize qxor w (qushr w 2) = u at q4 ⊢
    have q5 := xq_sh (x := x) (s := 1) (k := 1) (by decide) rfl q4
    rw [f_Nb_stepsToNought_L5, if_neg (by decide), wtv, wtv, show qshr 1 1 = 0 by decide +kernel]
    rw [f_Nb_stepsToNought_L5, if_pos (by decide)]
    have e2 := hvV_of (x := x) (qxor_rng u (qushr u 1)) (fun i hi => by rw [q5 i, xs_xq])
    rw [e2]
  rw [show (1000000 : Nat) = 999994 + 6 from rfl, e]
theorem s_Md_counted (h : mH) (x : Int) (h0 : 0 ≤ x) (h1 : x < 2147483648) : f_Md_counted h x = some ((0, hvV x), h) := by
  unfold f_Md_counted
  refine loop_r (F := fun n (b : Int × Int) => f_Md_counted_L4 n h b.1 b.2) (P := fun o => o = some ((0, hvV x), h)) (fun i b => (-2147483648 ≤ b.1 ∧ b.1 < 2147483648) ∧ (∀ j : Nat, j < 32 → bt b.1 j = xs (bt x) j i) ∧ (-2147483648 ≤ b.2 ∧ b.2 < 2147483648) ∧ ∀ j : Nat, bt b.2 j = bt x (j + i)) 32 (fun i hi b hb n => ?_) (fun b hb n => ?_) (i := 0) (b := (0, x)) ⟨⟨by show (-2147483648 : Int) ≤ 0; decide, by show (0 : Int) < 2147483648; decide⟩, fun j _ => bt_0 j, ⟨by omega, h1⟩, fun j => rfl⟩ (by omega) (by omega)
  · obtain ⟨a, y⟩ := b
    obtain ⟨g1, g2, g3, g4⟩ := hb
    have g2 : ∀ j : Nat, j < 32 → bt a j = xs (bt x) j i := g2
    have g4 : ∀ j : Nat, bt y j = bt x (j + i) := g4
    show f_Md_counted_L4 (n + 1) h a y = _ ∨ ∃ b', _ ∧ f_Md_counted_L4 (n + 1) h a y = _
    rw [f_Md_counted_L4]
    by_cases e : y = 0
    · left
      rw [if_pos e]
      have : a = hvV x := hvV_of g1 (fun j hj => by
        rw [g2 j hj]
        refine (xs_cut (fun l hl => ?_) (by omega)).symm
        have := g4 (j + l - i)
        rw [e, bt_0] at this
        rw [show j + l = j + l - i + i by omega]; exact this.symm)
      rw [this]
    · right
      rw [if_neg e, wtv, wtv]
      refine ⟨(qxor a y, qushr y 1), ⟨qxor_rng _ _, fun j hj => ?_, qushr_irng _ _, fun j => ?_⟩, rfl⟩
      · show bt (qxor a y) j = xs (bt x) j (i + 1)
        rw [bt_qxor, g2 j hj, g4 j]; rfl
      · show bt (qushr y 1) j = bt x (j + (i + 1))
        rw [bt_qushr (by decide) (by decide), show (1 : Int).toNat = 1 from rfl, g4 (1 + j), show 1 + j + i = j + (i + 1) by omega]
  · obtain ⟨a, y⟩ := b
    obtain ⟨g1, g2, g3, g4⟩ := hb
    have g2 : ∀ j : Nat, j < 32 → bt a j = xs (bt x) j 32 := g2
    have g4 : ∀ j : Nat, bt y j = bt x (j + 32) := g4
    have e : y = 0 := bt_ext g3 (by decide) (fun j _ => by rw [g4 j, bt_0]; exact bt_ge (by omega))
    show f_Md_counted_L4 (n + 1) h a y = _
    have e3 : a = hvV x := hvV_of g1 g2
    rw [f_Md_counted_L4, if_pos e, e3]
/-! how often 2 goes into a number -/
def tzV (y : Int) : Int := f1 (fun b => decide (y / 2 ^ b.toNat % 2 = 1)) 32
theorem hvV_0 {x : Int} (h0 : 0 ≤ x) (h1 : x < 2147483648) (h : hvV x = 0) : x = 0 := by
  refine bt_ext ⟨by omega, h1⟩ (by decide) ?_
  have hx : ∀ m i : Nat, 32 - i = m → bt x i = false := by
    intro m
    induction m using Nat.strongRecOn with
    | ind m ih =>
      intro i hm
      by_cases g : 32 ≤ i
      · exact bt_ge g
      · have e := hvV_bt (x := x) (show i < 32 by omega)
        rw [h, bt_0, xs_cut (j := 1) (fun l hl => ih (32 - (i + l)) (by omega) (i + l) rfl) (by decide)] at e
        have e2 : xs (bt x) i 1 = bt x i := by show (false ^^ bt x (i + 0)) = _; simp
        rw [e2] at e; exact e.symm
  intro i _
  rw [bt_0]; exact hx _ i rfl
theorem tz_ex {y : Int} (h0 : 0 < y) (h1 : y < 1073741824) : ∃ b : Nat, b < 30 ∧ (∃ k : Int, 0 ≤ k ∧ y = 2 ^ b * (2 * k + 1)) ∧ tzV y = b := by
  have H : ∀ m : Nat, ∀ y : Int, 0 < y → y < 2 ^ m → ∃ b : Nat, b < m ∧ ∃ k : Int, 0 ≤ k ∧ y = 2 ^ b * (2 * k + 1) := by
    intro m
    induction m with
    | zero => intro y g0 g1; have : (2 : Int) ^ 0 = 1 := rfl; omega
    | succ m ih =>
      intro y g0 g1
      rw [Int.pow_succ] at g1
      by_cases e : y % 2 = 1
      · exact ⟨0, by omega, y / 2, by omega, by show y = 1 * _; omega⟩
      · obtain ⟨b, hb, k, hk, e2⟩ := ih (y / 2) (by omega) (by omega)
        refine ⟨b + 1, by omega, k, hk, ?_⟩
        rw [Int.pow_succ, Int.mul_right_comm, ← e2]; omega
  obtain ⟨b, hb, k, hk, e⟩ := H 30 y h0 (by have : (2 : Int) ^ 30 = 1073741824 := by decide
                                            omega)
  refine ⟨b, hb, ⟨k, hk, e⟩, f1_at (by omega) (by omega) ?_ (fun j g0 g1 => ?_)⟩
  · rw [Int.toNat_natCast, e, Int.mul_ediv_cancel_left _ (by have : (0 : Int) < 2 ^ b := Int.pow_pos (by decide)
                                                             omega)]
    exact decide_eq_true (by omega)
  · have hp : (0 : Int) < 2 ^ j.toNat := Int.pow_pos (by decide)
    have e3 : (2 : Int) ^ b = 2 ^ j.toNat * (2 * 2 ^ (b - j.toNat - 1)) := by
      rw [← Int.mul_assoc, Int.mul_right_comm, ← Int.pow_add, Int.mul_comm, ← Int.pow_succ']
      congr 1; omega
    rw [e, e3, Int.mul_assoc, Int.mul_ediv_cancel_left _ (by omega), Int.mul_assoc]
    exact decide_eq_false (by omega)
theorem ntz_mask {y : Int} {b : Nat} {k : Int} (hb : b < 30) (hk : 0 ≤ k) (e : y = 2 ^ b * (2 * k + 1)) (h1 : y < 1073741824) : qand (qxor y (-1)) (w32 (y - 1)) = 2 ^ b - 1 := by
  have hp : (0 : Int) < 2 ^ b := Int.pow_pos (by decide)
  have hp2 : (2 : Int) ^ b ≤ 2 ^ 29 := by exact_mod_cast Nat.pow_le_pow_right (by decide) (show b ≤ 29 by omega)
  have hp3 : (2 : Int) ^ 29 = 536870912 := by decide
  have hy0 : 0 < y := by rw [e]; exact Int.mul_pos hp (by omega)
  have hc : (((2 ^ b - 1 : Nat) : Nat) : Int) = 2 ^ b - 1 := by
    have : 0 < 2 ^ b := Nat.two_pow_pos b
    rw [Int.natCast_sub (by omega)]; push_cast; rfl
  rw [w32_id (by omega) (by omega)]
  refine bt_ext (qand_rng _ _) (by omega) (fun j hj => ?_)
  rw [bt_qand, bt_qxor, bt_m1 hj, bt_div (by omega) (by omega) hj, bt_div (by omega) (by omega) hj, ← hc, bt_nat _ _ hj, Nat.testBit_two_pow_sub_one]
  have hq : (0 : Int) < 2 ^ j := Int.pow_pos (by decide)
  by_cases g : j < b
  · have e3 : (2 : Int) ^ b = 2 ^ j * (2 * 2 ^ (b - j - 1)) := by
      rw [← Int.mul_assoc, Int.mul_right_comm, ← Int.pow_add, Int.mul_comm, ← Int.pow_succ']
      congr 1; omega
    have e4 : y = 2 ^ j * (2 * (2 ^ (b - j - 1) * (2 * k + 1))) := by rw [e, e3, Int.mul_assoc, Int.mul_assoc]
    have e5 : y / 2 ^ j = 2 * (2 ^ (b - j - 1) * (2 * k + 1)) := by rw [e4, Int.mul_ediv_cancel_left _ (by omega)]
    have e6 : (y - 1) / 2 ^ j = 2 * (2 ^ (b - j - 1) * (2 * k + 1)) - 1 := by
      generalize 2 * (2 ^ (b - j - 1) * (2 * k + 1)) = w at e4
      rw [e4]
      rw [show (2 : Int) ^ j * w - 1 = (2 ^ j - 1) + 2 ^ j * (w - 1) by rw [Int.mul_sub]; omega, Int.add_mul_ediv_left _ _ (by omega), Int.ediv_eq_zero_of_lt (by omega) (by omega)]; omega
    rw [e5, e6, decide_eq_false (show ¬ (2 * (2 ^ (b - j - 1) * (2 * k + 1)) % 2 = 1) by omega), decide_eq_true (show (2 * (2 ^ (b - j - 1) * (2 * k + 1)) - 1) % 2 = 1 by omega), decide_eq_true g]; rfl
  · rw [decide_eq_false g]
    have e1 : y / 2 ^ j = (2 * k + 1) / 2 ^ (j - b) := by
      rw [show j = b + (j - b) by omega, Int.pow_add, ← Int.ediv_ediv_of_nonneg (by omega), e, Int.mul_ediv_cancel_left _ (by omega), show b + (j - b) - b = j - b by omega]
    have e2 : (y - 1) / 2 ^ j = (2 * k) / 2 ^ (j - b) := by
      rw [show j = b + (j - b) by omega, Int.pow_add, ← Int.ediv_ediv_of_nonneg (by omega), e, show (2 : Int) ^ b * (2 * k + 1) - 1 = (2 ^ b - 1) + 2 ^ b * (2 * k) by rw [Int.mul_add]; omega, Int.add_mul_ediv_left _ _ (by omega), show ((2 : Int) ^ b - 1) / 2 ^ b = 0 from Int.ediv_eq_zero_of_lt (by omega) (by omega), Int.zero_add, show b + (j - b) - b = j - b by omega]
    rw [e1, e2]
    by_cases g2 : j = b
    · rw [g2, Nat.sub_self, show ((2 : Int) ^ 0) = 1 from rfl, Int.ediv_one, Int.ediv_one, decide_eq_true (show (2 * k + 1) % 2 = 1 by omega)]; rfl
    · rw [show j - b = (j - b - 1) + 1 by omega, Int.pow_succ', ← Int.ediv_ediv_of_nonneg (by decide), ← Int.ediv_ediv_of_nonneg (by decide), show (2 * k + 1) / 2 = k by omega, show 2 * k / 2 = k by omega]
      cases decide (k / 2 ^ (j - b - 1) % 2 = 1) <;> rfl
def nt74 (x n : Int) : Int := w32 (n + qushr x 1)
def nt62 (x n : Int) : Int := if x ≤ 4 then nt74 x n else nt74 (qushr x 2) (w32 (n + 2))
def nt49 (x n : Int) : Int := if x ≤ 16 then nt62 x n else nt62 (qushr x 4) (w32 (n + 4))
def nt34 (x n : Int) : Int := if x ≤ 256 then nt49 x n else nt49 (qushr x 8) (w32 (n + 8))
def ntA (x : Int) : Int := if 0 < x then (if x ≤ 65536 then nt34 x 1 else nt34 (qushr x 16) (w32 (1 + 16))) else qand x 32
theorem s_nt62 (h : mH) (x n : Int) : f_Ig_numberOfTrailingZeros_J62 x n h = some ((0, nt62 x n), h) := by
  unfold f_Ig_numberOfTrailingZeros_J62 f_Ig_numberOfTrailingZeros_J74 nt62 nt74
  by_cases g : x ≤ 4
  · rw [if_pos g, if_pos g]
  · rw [if_neg g, if_neg g, wtv, wtv]
theorem s_nt49 (h : mH) (x n : Int) : f_Ig_numberOfTrailingZeros_J49 x n h = some ((0, nt49 x n), h) := by
  unfold f_Ig_numberOfTrailingZeros_J49 nt49
  by_cases g : x ≤ 16
  · rw [if_pos g, if_pos g, s_nt62]
  · rw [if_neg g, if_neg g, wtv, wtv, s_nt62]
theorem s_nt34 (h : mH) (x n : Int) : f_Ig_numberOfTrailingZeros_J34 x n h = some ((0, nt34 x n), h) := by
  unfold f_Ig_numberOfTrailingZeros_J34 nt34
  by_cases g : x ≤ 256
  · rw [if_pos g, if_pos g, s_nt49]
  · rw [if_neg g, if_neg g, wtv, wtv, s_nt49]
theorem s_ntz (h : mH) {y : Int} (h0 : 0 < y) (h1 : y < 1073741824) : f_Ig_numberOfTrailingZeros h y = some ((0, tzV y), h) := by
  obtain ⟨b, hb, ⟨k, hk, e⟩, e2⟩ := tz_ex h0 h1
  unfold f_Ig_numberOfTrailingZeros
  rw [wtv, ntz_mask hb hk e h1, e2]
  have e3 : (if 0 < (2 : Int) ^ b - 1 then (if (2 : Int) ^ b - 1 ≤ 65536 then f_Ig_numberOfTrailingZeros_J34 (2 ^ b - 1) 1 h else wtv (w32 (1 + 16)) (fun x2 => wtv (qushr (2 ^ b - 1) 16) (fun x3 => f_Ig_numberOfTrailingZeros_J34 x3 x2 h))) else some ((0, qand (2 ^ b - 1) 32), h)) = some ((0, ntA (2 ^ b - 1)), h) := by
    unfold ntA
    split
    · split
      · rw [s_nt34]
      · rw [wtv, wtv, s_nt34]
    · rfl
  rw [e3]
  have H : ∀ m : Fin 30, ntA ((2 : Int) ^ m.val - 1) = (m.val : Int) := by decide +kernel
  rw [H ⟨b, hb⟩]
theorem c_needHalves (h : mH) (n x : Int) (hx : -2147483648 ≤ x ∧ x < 2147483648) : f_Nb_needHalves h n x = if (1 ≤ n ∧ n ≤ 30) ∧ 0 ≤ x ∧ x < 2 ^ n.toNat then some ((3, 0), h) else some ((4, xA), halc h 0 0 6) := by
  unfold f_Nb_needHalves
  by_cases g1 : n < 1
  · rw [if_pos g1, if_neg (by omega)]; rfl
  rw [if_neg g1]
  by_cases g2 : 30 < n
  · rw [if_pos g2, if_neg (by omega)]; rfl
  rw [if_neg g2]
  by_cases g3 : x < 0
  · rw [if_pos g3, if_neg (by omega)]; rfl
  rw [if_neg g3, qshr_eq hx.1 hx.2 (by omega) (by omega)]
  have hp : (0 : Int) < 2 ^ n.toNat := Int.pow_pos (by decide)
  by_cases g4 : x < 2 ^ n.toNat
  · rw [if_pos (Int.ediv_eq_zero_of_lt (by omega) g4), if_pos ⟨by omega, by omega, g4⟩]
  · rw [if_neg, if_neg (fun q => g4 q.2.2)]
    · rfl
    · intro e
      have := Int.emod_def x (2 ^ n.toNat)
      rw [e, Int.mul_zero] at this
      have := Int.emod_lt_of_pos x hp
      omega
theorem pow30 {n : Int} (h0 : 1 ≤ n) (h : n ≤ 30) : (2 : Int) ^ n.toNat ≤ 1073741824 := by
  have : (2 : Int) ^ n.toNat ≤ 2 ^ 30 := by exact_mod_cast Nat.pow_le_pow_right (by decide) (show n.toNat ≤ 30 by omega)
  have e : (2 : Int) ^ 30 = 1073741824 := by decide
  omega
section
variable {h : mH} {c : Int} {p L : Int → Int} {M : aM} {E : Int → tT}
theorem c_halves (A : At h c p L M) {t : tT} (K : KS E M L t) (n x : Int) (hx : -2147483648 ≤ x ∧ x < 2147483648) : CR c M E t (f_Nb_halves h 1 n x) (if (1 ≤ n ∧ n ≤ 30) ∧ 0 ≤ x ∧ x < 2 ^ n.toNat then (0, hvV x) else (4, xA)) := by
  unfold f_Nb_halves
  rw [c_needHalves h n x hx]
  by_cases g : (1 ≤ n ∧ n ≤ 30) ∧ 0 ≤ x ∧ x < 2 ^ n.toNat
  · rw [if_pos g, if_pos g, bndT_ok (by decide), s_stepsToNought h x hx, bndT_ok (by decide)]
    exact CR_ok A K
  · rw [if_neg g, if_neg g, bndT_ex]; exact CR_ex A K
theorem c_halvesFirst (A : At h c p L M) {t : tT} (K : KS E M L t) (n x : Int) (hx : -2147483648 ≤ x ∧ x < 2147483648) : CR c M E t (f_Nb_halvesFirst h 1 n x) (if (1 ≤ n ∧ n ≤ 30) ∧ 0 ≤ x ∧ x < 2 ^ n.toNat then (0, if x = 0 then -1 else tzV (hvV x)) else (4, xA)) := by
  unfold f_Nb_halvesFirst
  rw [c_needHalves h n x hx]
  by_cases g : (1 ≤ n ∧ n ≤ 30) ∧ 0 ≤ x ∧ x < 2 ^ n.toNat
  · rw [if_pos g, if_pos g, bndT_ok (by decide)]
    by_cases g2 : x = 0
    · rw [if_pos g2, if_pos g2]; exact CR_ok A K
    · have hp := pow30 g.1.1 g.1.2
      have hr := hvV_rng g.2.1 (by omega)
      have hne : hvV x ≠ 0 := fun e => g2 (hvV_0 g.2.1 (by omega) e)
      rw [if_neg g2, if_neg g2, s_stepsToNought h x hx, bndT_ok (by decide), s_ntz h (by omega) hr.2, bndT_ok (by decide)]
      exact CR_ok A K
  · rw [if_neg g, if_neg g, bndT_ex]; exact CR_ex A K
end
