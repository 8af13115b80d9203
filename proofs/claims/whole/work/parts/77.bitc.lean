/-! HOW MANY BITS: the row of sums that the library member makes, for masks of 18 bits -/
theorem land_split {k a b c d : Nat} (ha : a < 2 ^ k) (hc : c < 2 ^ k) : (2 ^ k * b + a) &&& (2 ^ k * d + c) = 2 ^ k * (b &&& d) + (a &&& c) := by
  apply Nat.eq_of_testBit_eq
  intro i
  rw [Nat.testBit_and, Nat.testBit_two_pow_mul_add _ ha, Nat.testBit_two_pow_mul_add _ hc, Nat.testBit_two_pow_mul_add _ (Nat.and_lt_two_pow _ hc)]
  split
  · rw [Nat.testBit_and]
  · rw [Nat.testBit_and]
theorem land_256 {a b c d : Nat} (ha : a < 256) (hc : c < 256) : (256 * b + a) &&& (256 * d + c) = 256 * (b &&& d) + (a &&& c) := land_split (k := 8) ha hc
def n1B (v : Nat) : Nat := v - ((v / 2) &&& 1431655765)
def n2B (x : Nat) : Nat := (x &&& 858993459) + ((x / 4) &&& 858993459)
def n3B (x : Nat) : Nat := (x + x / 16) &&& 252645135
def n4B (x : Nat) : Nat := x + x / 256
def n5B (x : Nat) : Nat := x + x / 65536
def n1H (m : Nat) : Nat := m - ((m / 2) &&& 5592405)
def n1L (l : Nat) : Nat := l - ((l / 2) &&& 85)
def n2H (x : Nat) : Nat := (x &&& 3355443) + ((x / 4) &&& 3355443)
def n2L (x : Nat) : Nat := (x &&& 51) + ((x / 4) &&& 51)
def n3H (x : Nat) : Nat := (x + x / 16) &&& 986895
def n3L (x : Nat) : Nat := (x + x / 16) &&& 15
def ppB : Nat → Nat → Nat
  | 0, _ => 0
  | k + 1, v => v % 2 + ppB k (v / 2)
def alB (f : Nat → Bool) : Nat → Bool
  | 0 => true
  | n + 1 => f n && alB f n
theorem alB_at {f : Nat → Bool} : ∀ {n : Nat}, alB f n = true → ∀ i, i < n → f i = true
  | 0, _, i, hi => absurd hi (by omega)
  | n + 1, h, i, hi => by
    rw [alB, Bool.and_eq_true] at h
    by_cases e : i = n
    · rw [e]; exact h.1
    · exact alB_at h.2 i (by omega)
theorem bl1 : alB (fun l => alB (fun e => Nat.beq ((128 * e + l / 2) &&& 85) ((l / 2) &&& 85)) 2) 256 = true := by decide +kernel
theorem bl2 : alB (fun l => alB (fun e => Nat.beq ((64 * e + l / 4) &&& 51) ((l / 4) &&& 51)) 4) 256 = true := by decide +kernel
theorem bl3 : alB (fun l => alB (fun q => Nat.ble (n2L (n1L l) + (16 * q + n2L (n1L l) / 16)) 255 && Nat.beq ((n2L (n1L l) + (16 * q + n2L (n1L l) / 16)) &&& 15) (ppB 8 l) && Nat.ble (n1L l) 255 && Nat.ble (n2L (n1L l)) 255 && Nat.ble (ppB 8 l) 8) 5) 256 = true := by decide +kernel
theorem bl4 : alB (fun m => Nat.ble (n2H (n1H m) % 16) 4 && Nat.ble (n3H (n2H (n1H m))) 767 && Nat.ble (n3H (n2H (n1H m)) % 256) 8 && Nat.beq (n3H (n2H (n1H m)) % 256 + n3H (n2H (n1H m)) / 256) (ppB 10 m)) 1024 = true := by decide +kernel
def bcB (v : Nat) : Nat := n5B (n4B (n3B (n2B (n1B v)))) &&& 63
theorem ppB_add : ∀ (k j v : Nat), ppB (k + j) v = ppB k (v % 2 ^ k) + ppB j (v / 2 ^ k)
  | 0, j, v => by show ppB (0 + j) v = 0 + ppB j (v / 1); rw [Nat.zero_add, Nat.zero_add, Nat.div_one]
  | k + 1, j, v => by
    rw [show k + 1 + j = (k + j) + 1 by omega]
    show v % 2 + ppB (k + j) (v / 2) = v % 2 ^ (k + 1) % 2 + ppB k (v % 2 ^ (k + 1) / 2) + ppB j (v / 2 ^ (k + 1))
    have h1 : v % 2 ^ (k + 1) % 2 = v % 2 := Nat.mod_mod_of_dvd v ⟨2 ^ k, by rw [Nat.pow_succ, Nat.mul_comm]⟩
    have h2 : v % 2 ^ (k + 1) / 2 = v / 2 % 2 ^ k := by rw [Nat.pow_succ, Nat.mod_mul_left_div_self]
    have h3 : v / 2 / 2 ^ k = v / 2 ^ (k + 1) := by rw [Nat.div_div_eq_div_mul, Nat.pow_succ']
    rw [ppB_add k j (v / 2), h1, h2, h3, Nat.add_assoc]
theorem bcB_pp {v : Nat} (h : v < 262144) : bcB v = ppB 18 v := by
  have hv : v = 256 * (v / 256) + v % 256 := by omega
  have hm : v / 256 < 1024 := by omega
  have hl : v % 256 < 256 := by omega
  rw [show (18 : Nat) = 8 + 10 from rfl, ppB_add 8 10 v, show (2 : Nat) ^ 8 = 256 from rfl]
  generalize v / 256 = m at hv hm
  generalize v % 256 = l at hv hl
  subst hv
  have a1 := Nat.eq_of_beq_eq_true (alB_at (alB_at bl1 l hl) (m % 2) (by omega))
  have e1 : n1B (256 * m + l) = 256 * n1H m + n1L l := by
    unfold n1B n1H n1L
    rw [show (256 * m + l) / 2 = 256 * (m / 2) + (128 * (m % 2) + l / 2) by omega, show 1431655765 = 256 * 5592405 + 85 from rfl, land_256 (by omega) (by omega), a1]
    have h1 : (m / 2) &&& 5592405 ≤ m / 2 := Nat.and_le_left
    have h2 : (l / 2) &&& 85 ≤ l / 2 := Nat.and_le_left
    omega
  have b4 := alB_at bl4 m hm
  simp only [Bool.and_eq_true] at b4
  obtain ⟨⟨⟨c1, c2⟩, c3⟩, c4⟩ := b4
  have c1 := Nat.le_of_ble_eq_true c1
  have c2 := Nat.le_of_ble_eq_true c2
  have c3 := Nat.le_of_ble_eq_true c3
  have c4 := Nat.eq_of_beq_eq_true c4
  have b3 := alB_at (alB_at bl3 l hl) (n2H (n1H m) % 16) (by omega)
  simp only [Bool.and_eq_true] at b3
  obtain ⟨⟨⟨⟨d1, d2⟩, d3⟩, d4⟩, d5⟩ := b3
  have d1 := Nat.le_of_ble_eq_true d1
  have d2 := Nat.eq_of_beq_eq_true d2
  have d3 := Nat.le_of_ble_eq_true d3
  have d4 := Nat.le_of_ble_eq_true d4
  have d5 := Nat.le_of_ble_eq_true d5
  have a2 := Nat.eq_of_beq_eq_true (alB_at (alB_at bl2 (n1L l) (by omega)) (n1H m % 4) (by omega))
  have e2 : n2B (256 * n1H m + n1L l) = 256 * n2H (n1H m) + n2L (n1L l) := by
    unfold n2B n2H n2L
    rw [show (256 * n1H m + n1L l) / 4 = 256 * (n1H m / 4) + (64 * (n1H m % 4) + n1L l / 4) by omega, show 858993459 = 256 * 3355443 + 51 from rfl, land_256 (by omega) (by omega), land_256 (by omega) (by omega), a2]
    omega
  have e3 : n3B (256 * n2H (n1H m) + n2L (n1L l)) = 256 * n3H (n2H (n1H m)) + ppB 8 l := by
    unfold n3B
    rw [show 256 * n2H (n1H m) + n2L (n1L l) + (256 * n2H (n1H m) + n2L (n1L l)) / 16 = 256 * (n2H (n1H m) + n2H (n1H m) / 16) + (n2L (n1L l) + (16 * (n2H (n1H m) % 16) + n2L (n1L l) / 16)) by omega, show 252645135 = 256 * 986895 + 15 from rfl, land_256 (by omega) (by omega), d2]
    rfl
  unfold bcB
  rw [e1, e2, e3]
  unfold n4B n5B
  rw [show 63 = 2 ^ 6 - 1 from rfl, Nat.and_two_pow_sub_one_eq_mod]
  have key : ∀ w y : Nat, w ≤ 767 → w % 256 ≤ 8 → y ≤ 8 → (256 * w + y + (256 * w + y) / 256 + (256 * w + y + (256 * w + y) / 256) / 65536) % 2 ^ 6 = y + (w % 256 + w / 256) := by
    intro w y h1 h2 h3
    have h4 : (256 * w + y) / 256 = w := by omega
    rw [h4]
    obtain ⟨r, hr⟩ : ∃ r, r = w / 256 := ⟨_, rfl⟩
    obtain ⟨c, hc⟩ : ∃ c, c = w % 256 := ⟨_, rfl⟩
    have h5 : w = 256 * r + c := by omega
    have h6 : r ≤ 2 := by omega
    have h7 : c ≤ 8 := by omega
    rw [← hr, ← hc]
    clear hr hc h1 h2 h4
    subst h5
    have h8 : (256 * (256 * r + c) + y + (256 * r + c)) / 65536 = r := by omega
    rw [h8]
    show _ % 64 = _
    omega
  rw [← c4]
  exact key _ _ c2 c3 d5
theorem cnN_shift (P : Int → Bool) : ∀ k : Nat, cnN P (k + 1) = (if P 0 = true then 1 else 0) + cnN (fun i => P (i + 1)) k
  | 0 => by show 0 + _ = _ + 0; simp
  | k + 1 => by
    show cnN P (k + 1) + _ = _ + (cnN (fun i => P (i + 1)) k + _)
    rw [cnN_shift P k]
    push_cast
    omega
theorem ppB_cn : ∀ (k v : Nat), ((ppB k v : Nat) : Int) = cnN (fun i => v.testBit i.toNat) k
  | 0, v => rfl
  | k + 1, v => by
    rw [cnN_shift, cnN_congr (Q := fun i => (v / 2).testBit i.toNat) (fun i g0 g1 => by rw [show (i + 1).toNat = i.toNat + 1 by omega, Nat.testBit_succ]), ← ppB_cn k (v / 2)]
    show ((v % 2 + ppB k (v / 2) : Nat) : Int) = _
    rw [show (0 : Int).toNat = 0 from rfl, Nat.testBit_zero]
    by_cases e : v % 2 = 1
    · rw [if_pos (decide_eq_true e)]; omega
    · rw [if_neg (by rw [decide_eq_false e]; decide)]; omega
theorem qand_nat {a b : Nat} (ha : a < 2147483648) (hb : b < 2147483648) : qand a b = ((a &&& b : Nat) : Int) := by
  have h1 : a &&& b ≤ a := Nat.and_le_left
  refine bt_ext (qand_rng _ _) (by omega) (fun i hi => ?_)
  rw [bt_qand, bt_nat _ _ hi, bt_nat _ _ hi, bt_nat _ _ hi, Nat.testBit_and]
theorem qushr_nat {a : Nat} (ha : a < 2147483648) {k : Nat} (hk : k < 32) : qushr a k = ((a / 2 ^ k : Nat) : Int) := by
  have h1 : a / 2 ^ k ≤ a := Nat.div_le_self _ _
  refine bt_ext (qushr_irng _ _) ⟨Int.le_trans (by decide) (Int.natCast_nonneg _), Int.lt_of_le_of_lt (Int.ofNat_le.mpr h1) (by omega)⟩ (fun i hi => ?_)
  rw [bt_qushr (by omega) (by omega), bt_nat _ _ hi, Int.toNat_natCast, Nat.testBit_div_two_pow]
  by_cases g : k + i < 32
  · rw [bt_nat _ _ g, Nat.add_comm]
  · rw [bt_ge (by omega)]
    symm
    apply Nat.testBit_lt_two_pow
    have : 2 ^ 31 ≤ 2 ^ (i + k) := Nat.pow_le_pow_right (by decide) (by omega)
    omega
theorem s_bitCount (h : mH) (f : Int → Bool) {k : Nat} (hk : k ≤ 18) : f_Ig_bitCount h (mkM f k) = some ((0, cnN f k), h) := by
  have hp := mkM_pos (f := f) (n := k) (by omega)
  have hp2 := pw18 hk
  have hb : ∀ i : Nat, i < 32 → (mkM f k).toNat.testBit i = (decide (i < k) && f i) := fun i hi => by
    rw [← bt_nat _ _ hi, show (((mkM f k).toNat : Nat) : Int) = mkM f k by omega, bt_mkM f (by omega) hi]
  have hx : (((mkM f k).toNat : Nat) : Int) = mkM f k := by omega
  have hc : cnN f k = ((ppB 18 (mkM f k).toNat : Nat) : Int) := by
    have h18 : cnN (fun i => (mkM f k).toNat.testBit i.toNat) 18 = cnN (fun i => decide (i < (k : Int)) && f i) 18 := cnN_congr fun i g0 g1 => by
      rw [hb i.toNat (by omega), show ((i.toNat : Nat) : Int) = i by omega]
      congr 1; exact decide_eq_decide.mpr (by omega)
    rw [ppB_cn, h18]
    have H : ∀ n : Nat, k ≤ n → cnN (fun i => decide (i < (k : Int)) && f i) n = cnN f k := by
      intro n
      induction n with
      | zero => intro g; rw [show k = 0 by omega]; rfl
      | succ n ih =>
        intro g
        by_cases e : k = n + 1
        · rw [← e]
          exact cnN_congr fun i g0 g1 => by rw [decide_eq_true g1, Bool.true_and]
        · show cnN _ n + (if (decide ((n : Int) < (k : Int)) && f n) = true then 1 else 0) = _
          rw [ih (by omega), decide_eq_false (show ¬ ((n : Int) < (k : Int)) by omega)]; simp
    exact (H 18 hk).symm
  rw [hc, ← bcB_pp (by omega)]
  have hv : (mkM f k).toNat < 262144 := by omega
  rw [← hx]
  rw [Int.toNat_natCast]
  generalize (mkM f k).toNat = v at hv
  unfold f_Ig_bitCount bcB
  have q1 : qushr (v : Int) 1 = ((v / 2 : Nat) : Int) := qushr_nat (k := 1) (by omega) (by decide)
  have q2 : qand ((v / 2 : Nat) : Int) 1431655765 = (((v / 2) &&& 1431655765 : Nat) : Int) := qand_nat (by omega) (by decide)
  have l1 : (v / 2) &&& 1431655765 ≤ v / 2 := Nat.and_le_left
  have e1 : w32 ((v : Int) - qand (qushr (v : Int) 1) 1431655765) = ((n1B v : Nat) : Int) := by
    rw [q1, q2]; unfold n1B; rw [w32_id (by omega) (by omega)]; omega
  rw [wtv, e1]
  have r1 : n1B v ≤ v := by unfold n1B; omega
  generalize n1B v = x1 at *
  have q3 : qand (x1 : Int) 858993459 = ((x1 &&& 858993459 : Nat) : Int) := qand_nat (by omega) (by decide)
  have q4 : qushr (x1 : Int) 2 = ((x1 / 4 : Nat) : Int) := qushr_nat (k := 2) (by omega) (by decide)
  have q5 : qand ((x1 / 4 : Nat) : Int) 858993459 = (((x1 / 4) &&& 858993459 : Nat) : Int) := qand_nat (by omega) (by decide)
  have l2 : x1 &&& 858993459 ≤ x1 := Nat.and_le_left
  have l3 : (x1 / 4) &&& 858993459 ≤ x1 / 4 := Nat.and_le_left
  have e2 : w32 (qand (x1 : Int) 858993459 + qand (qushr (x1 : Int) 2) 858993459) = ((n2B x1 : Nat) : Int) := by
    rw [q3, q4, q5]; unfold n2B; rw [w32_id (by omega) (by omega)]; omega
  rw [wtv, e2]
  have r2 : n2B x1 ≤ 600000 := by unfold n2B; omega
  generalize n2B x1 = x2 at *
  have q6 : qushr (x2 : Int) 4 = ((x2 / 16 : Nat) : Int) := qushr_nat (k := 4) (by omega) (by decide)
  have e3 : qand (w32 ((x2 : Int) + qushr (x2 : Int) 4)) 252645135 = ((n3B x2 : Nat) : Int) := by
    rw [q6, w32_id (by omega) (by omega)]; unfold n3B
    rw [show (x2 : Int) + ((x2 / 16 : Nat) : Int) = ((x2 + x2 / 16 : Nat) : Int) by omega]
    exact qand_nat (by omega) (by decide)
  rw [wtv, e3]
  have r3 : n3B x2 ≤ 1200000 := by
    have : n3B x2 ≤ x2 + x2 / 16 := Nat.and_le_left
    omega
  generalize n3B x2 = x3 at *
  have q7 : qushr (x3 : Int) 8 = ((x3 / 256 : Nat) : Int) := qushr_nat (k := 8) (by omega) (by decide)
  have e4 : w32 ((x3 : Int) + qushr (x3 : Int) 8) = ((n4B x3 : Nat) : Int) := by
    rw [q7, w32_id (by omega) (by omega)]; unfold n4B; omega
  rw [wtv, e4]
  have r4 : n4B x3 ≤ 2400000 := by unfold n4B; omega
  generalize n4B x3 = x4 at *
  have q8 : qushr (x4 : Int) 16 = ((x4 / 65536 : Nat) : Int) := qushr_nat (k := 16) (by omega) (by decide)
  have e5 : w32 ((x4 : Int) + qushr (x4 : Int) 16) = ((n5B x4 : Nat) : Int) := by
    rw [q8, w32_id (by omega) (by omega)]; unfold n5B; omega
  rw [wtv, e5]
  have r5 : n5B x4 ≤ 4800000 := by unfold n5B; omega
  rw [show qand ((n5B x4 : Nat) : Int) 63 = ((n5B x4 &&& 63 : Nat) : Int) from qand_nat (by omega) (by decide)]
