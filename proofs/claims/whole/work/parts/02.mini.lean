/-! THE LITTLE MACHINE: values are (kind, number): kind 0 an int, 1 a long, 2 a reference (0 null, k the k-th cell made since the law began, below 0 what was there), 9 nothing known -/
abbrev mV : Type := Nat × Int
abbrev mH : Type := (Int × Int) × (Int → Nat) × (Int → Int) × (Int → Int → Int)
abbrev mR : Type := mV × mH
def hpN (h : mH) : Int := h.1.1
def hpS (h : mH) : Int := h.1.2
def hpT (h : mH) (z : Int) : Nat := h.2.1 z
def hpL (h : mH) (z : Int) : Int := h.2.2.1 z
def hpV (h : mH) (z i : Int) : Int := h.2.2.2 z i
def hput (h : mH) (z i v : Int) : mH := (h.1, h.2.1, h.2.2.1, fun b j => if b = z ∧ j = i then v else h.2.2.2 b j)
def halc (h : mH) (t : Nat) (len sz : Int) : mH := ((h.1.1 + 1, h.1.2 + sz), fun b => if b = h.1.1 + 1 then t else h.2.1 b, fun b => if b = h.1.1 + 1 then len else h.2.2.1 b, fun b j => if b = h.1.1 + 1 then 0 else h.2.2.2 b j)
def hcpy (h : mH) (a sp d dp n : Int) : mH := (h.1, h.2.1, h.2.2.1, fun b j => if b = d ∧ dp ≤ j ∧ j < dp + n then h.2.2.2 a (sp + (j - dp)) else h.2.2.2 b j)
def w32 (x : Int) : Int := (x + 2147483648) % 4294967296 - 2147483648
def w64 (x : Int) : Int := (x + 9223372036854775808) % 18446744073709551616 - 9223372036854775808
def w8 (x : Int) : Int := (x + 128) % 256 - 128
def w16 (x : Int) : Int := (x + 32768) % 65536 - 32768
def qand (a b : Int) : Int := (Int32.ofInt a &&& Int32.ofInt b).toInt
def qor (a b : Int) : Int := (Int32.ofInt a ||| Int32.ofInt b).toInt
def qxor (a b : Int) : Int := (Int32.ofInt a ^^^ Int32.ofInt b).toInt
def qshl (a b : Int) : Int := (Int32.ofInt a <<< (Int32.ofInt b &&& 31)).toInt
def qshr (a b : Int) : Int := (Int32.ofInt a >>> (Int32.ofInt b &&& 31)).toInt
def qushr (a b : Int) : Int := ((Int32.ofInt a).toUInt32 >>> ((Int32.ofInt b).toUInt32 &&& Int32.toUInt32 31)).toInt32.toInt
def qland (a b : Int) : Int := (Int64.ofInt a &&& Int64.ofInt b).toInt
def qlor (a b : Int) : Int := (Int64.ofInt a ||| Int64.ofInt b).toInt
def qlshl (a b : Int) : Int := (Int64.ofInt a <<< ((Int32.ofInt b).toInt64 &&& 63)).toInt
def qlshr (a b : Int) : Int := (Int64.ofInt a >>> ((Int32.ofInt b).toInt64 &&& 63)).toInt
def qlcmp (a b : Int) : Int := if b < a then 1 else if a = b then 0 else -1
def chk (c : Prop) [Decidable c] (x : Option mR) : Option mR := if c then x else none
def bndX (x : Option mR) (k : Int → mH → Option mR) : Option mR := match x with
  | none => none
  | some ((t, v), h) => if t = 4 then some ((4, v), h) else k v h
theorem chk_some {c : Prop} [Decidable c] {x : Option mR} {r : mR} (h : chk c x = some r) : c ∧ x = some r := by
  unfold chk at h
  by_cases hc : c
  · rw [if_pos hc] at h; exact ⟨hc, h⟩
  · rw [if_neg hc] at h; cases h
theorem bndX_some {x : Option mR} {k : Int → mH → Option mR} {r : mR} (h : bndX x k = some r) : ∃ r1 : mR, x = some r1 ∧ ((r1.1.1 = 4 ∧ r = ((4, r1.1.2), r1.2)) ∨ (r1.1.1 ≠ 4 ∧ k r1.1.2 r1.2 = some r)) := by
  unfold bndX at h
  cases x with
  | none => cases h
  | some r1 =>
    obtain ⟨⟨t, v⟩, h1⟩ := r1
    refine ⟨_, rfl, ?_⟩
    by_cases ht : t = 4
    · simp only [ht, if_true] at h
      exact Or.inl ⟨ht, (Option.some.inj h).symm⟩
    · simp only [ht, if_false] at h
      exact Or.inr ⟨ht, h⟩
theorem w32_bmod (x : Int) : x.bmod 4294967296 = w32 x := by
  rw [Int.bmod_def]; unfold w32; split <;> omega
theorem w64_bmod (x : Int) : x.bmod 18446744073709551616 = w64 x := by
  rw [Int.bmod_def]; unfold w64; split <;> omega
theorem w8_bmod (x : Int) : x.bmod 256 = w8 x := by
  rw [Int.bmod_def]; unfold w8; split <;> omega
theorem w16_bmod (x : Int) : x.bmod 65536 = w16 x := by
  rw [Int.bmod_def]; unfold w16; split <;> omega
theorem w32_id {x : Int} (h1 : -2147483648 ≤ x) (h2 : x < 2147483648) : w32 x = x := by unfold w32; omega
theorem w64_id {x : Int} (h1 : -9223372036854775808 ≤ x) (h2 : x < 9223372036854775808) : w64 x = x := by unfold w64; omega
theorem i32_rng (x : Int32) : -2147483648 ≤ x.toInt ∧ x.toInt < 2147483648 := ⟨by have := x.le_toInt; simpa using this, by have := x.toInt_lt; simpa using this⟩
theorem i64_rng (x : Int64) : -9223372036854775808 ≤ x.toInt ∧ x.toInt < 9223372036854775808 := ⟨by have := x.le_toInt; simpa using this, by have := x.toInt_lt; simpa using this⟩
theorem i32_add (x y : Int32) : (x + y).toInt = w32 (x.toInt + y.toInt) := by rw [Int32.toInt_add, ← w32_bmod]
theorem i32_sub (x y : Int32) : (x - y).toInt = w32 (x.toInt - y.toInt) := by rw [Int32.toInt_sub, ← w32_bmod]
theorem i32_mul (x y : Int32) : (x * y).toInt = w32 (x.toInt * y.toInt) := by rw [Int32.toInt_mul, ← w32_bmod]
theorem i32_neg (x : Int32) : (-x).toInt = w32 (-x.toInt) := by rw [Int32.toInt_neg, ← w32_bmod]
theorem i32_div (x y : Int32) : (x / y).toInt = w32 (Int.tdiv x.toInt y.toInt) := by rw [Int32.toInt_div, ← w32_bmod]
theorem i32_ofInt (z : Int) : (Int32.ofInt z).toInt = w32 z := by rw [Int32.toInt_ofInt, ← w32_bmod]
theorem i64_add (x y : Int64) : (x + y).toInt = w64 (x.toInt + y.toInt) := by rw [Int64.toInt_add, ← w64_bmod]
theorem i64_sub (x y : Int64) : (x - y).toInt = w64 (x.toInt - y.toInt) := by rw [Int64.toInt_sub, ← w64_bmod]
theorem i64_mul (x y : Int64) : (x * y).toInt = w64 (x.toInt * y.toInt) := by rw [Int64.toInt_mul, ← w64_bmod]
theorem i64_div (x y : Int64) : (x / y).toInt = w64 (Int.tdiv x.toInt y.toInt) := by rw [Int64.toInt_div, ← w64_bmod]
theorem tmod_rng {a b lo hi : Int} (h1 : lo ≤ a) (h2 : a < hi) (hl : lo ≤ 0) (hh : 0 < hi) : lo ≤ Int.tmod a b ∧ Int.tmod a b < hi := by
  rcases Int.le_total 0 a with h | h
  · have h3 := Int.tmod_nonneg b h
    have h4 : Int.tmod a b ≤ a := by
      have := Int.natAbs_tmod a b
      have h5 : (Int.tmod a b).natAbs ≤ a.natAbs := by rw [this]; exact Nat.mod_le _ _
      omega
    omega
  · have h4 : (Int.tmod a b).natAbs ≤ a.natAbs := by rw [Int.natAbs_tmod]; exact Nat.mod_le _ _
    have h5 : Int.tmod a b ≤ 0 := by
      have h6 := Int.tmod_nonneg b (show 0 ≤ -a by omega)
      rw [Int.neg_tmod] at h6
      omega
    omega
theorem i32_rem (x y : Int32) : (x - x / y * y).toInt = Int.tmod x.toInt y.toInt := by
  obtain ⟨h1, h2⟩ := i32_rng x
  have h3 := tmod_rng (b := y.toInt) h1 h2 (by omega) (by omega)
  have h4 : Int.tmod x.toInt y.toInt = x.toInt - y.toInt * Int.tdiv x.toInt y.toInt := by have := Int.tmod_add_mul_tdiv x.toInt y.toInt; omega
  rw [Int32.toInt_sub, Int32.toInt_mul, Int32.toInt_div, Int.sub_bmod_bmod, ← Int.sub_bmod_bmod, Int.bmod_mul_bmod, Int.sub_bmod_bmod, Int.mul_comm, ← h4]
  rw [show ((2 : Nat) ^ 32) = 4294967296 from rfl, w32_bmod]
  exact w32_id h3.1 h3.2
theorem i64_rem (x y : Int64) : (x - x / y * y).toInt = Int.tmod x.toInt y.toInt := by
  obtain ⟨h1, h2⟩ := i64_rng x
  have h3 := tmod_rng (b := y.toInt) h1 h2 (by omega) (by omega)
  have h4 : Int.tmod x.toInt y.toInt = x.toInt - y.toInt * Int.tdiv x.toInt y.toInt := by have := Int.tmod_add_mul_tdiv x.toInt y.toInt; omega
  rw [Int64.toInt_sub, Int64.toInt_mul, Int64.toInt_div, Int.sub_bmod_bmod, ← Int.sub_bmod_bmod, Int.bmod_mul_bmod, Int.sub_bmod_bmod, Int.mul_comm, ← h4]
  rw [show ((2 : Nat) ^ 64) = 18446744073709551616 from rfl, w64_bmod]
  exact w64_id h3.1 h3.2
theorem i32_and (x y : Int32) : (x &&& y).toInt = qand x.toInt y.toInt := by unfold qand; rw [Int32.ofInt_toInt, Int32.ofInt_toInt]
theorem i32_or (x y : Int32) : (x ||| y).toInt = qor x.toInt y.toInt := by unfold qor; rw [Int32.ofInt_toInt, Int32.ofInt_toInt]
theorem i32_xor (x y : Int32) : (x ^^^ y).toInt = qxor x.toInt y.toInt := by unfold qxor; rw [Int32.ofInt_toInt, Int32.ofInt_toInt]
theorem i32_shl (x y : Int32) : (x <<< (y &&& 31)).toInt = qshl x.toInt y.toInt := by unfold qshl; rw [Int32.ofInt_toInt, Int32.ofInt_toInt]
theorem i32_shr (x y : Int32) : (x >>> (y &&& 31)).toInt = qshr x.toInt y.toInt := by unfold qshr; rw [Int32.ofInt_toInt, Int32.ofInt_toInt]
theorem i32_ushr (x y : Int32) : (x.toUInt32 >>> (y.toUInt32 &&& Int32.toUInt32 31)).toInt32.toInt = qushr x.toInt y.toInt := by unfold qushr; rw [Int32.ofInt_toInt, Int32.ofInt_toInt]
theorem i64_and (x y : Int64) : (x &&& y).toInt = qland x.toInt y.toInt := by unfold qland; rw [Int64.ofInt_toInt, Int64.ofInt_toInt]
theorem i64_or (x y : Int64) : (x ||| y).toInt = qlor x.toInt y.toInt := by unfold qlor; rw [Int64.ofInt_toInt, Int64.ofInt_toInt]
theorem i64_shl (x : Int64) (y : Int32) : (x <<< (y.toInt64 &&& 63)).toInt = qlshl x.toInt y.toInt := by unfold qlshl; rw [Int64.ofInt_toInt, Int32.ofInt_toInt]
theorem i64_shr (x : Int64) (y : Int32) : (x >>> (y.toInt64 &&& 63)).toInt = qlshr x.toInt y.toInt := by unfold qlshr; rw [Int64.ofInt_toInt, Int32.ofInt_toInt]
theorem i64_cmp (x y : Int64) : (lg_cmp x y).toInt = qlcmp x.toInt y.toInt := by
  unfold lg_cmp qlcmp
  simp only [gt_iff_lt, Int64.lt_iff_toInt_lt, ← Int64.toInt_inj]
  split
  · rfl
  · split <;> rfl
theorem i32_i2b (x : Int32) : x.toInt8.toInt32.toInt = w8 x.toInt := by rw [Int8.toInt_toInt32, Int32.toInt_toInt8, ← w8_bmod]
theorem i32_i2s (x : Int32) : x.toInt16.toInt32.toInt = w16 x.toInt := by rw [Int16.toInt_toInt32, Int32.toInt_toInt16, ← w16_bmod]
theorem i64_l2i (x : Int64) : x.toInt32.toInt = w32 x.toInt := by rw [Int64.toInt_toInt32, ← w32_bmod]
theorem i32_zero : (0 : Int32).toInt = 0 := by decide
theorem i64_zero : (0 : Int64).toInt = 0 := by decide
theorem i32_in {x : Int32} {n : Nat} : vp_in x n ↔ 0 ≤ x.toInt ∧ x.toInt < n := vp_in_iff
theorem i32_cl {x : Int32} (h : 0 ≤ x.toInt) : (x.toNatClampNeg : Int) = x.toInt := by
  show ((x.toInt.toNat : Nat) : Int) = x.toInt
  omega
/-! ## what is given once for all: the launch, the state at the law's entry, the script, the tables' numbers, the literals -/
abbrev mG : Type := Launch × State × (Nat × Nat × (Nat → Int32)) × va_G × (Nat → ClassId) × (Nat → Nat) × (Nat → Nat)
def gL (G : mG) : Launch := G.1
def gS (G : mG) : State := G.2.1
def gB (G : mG) : Nat := G.2.2.1.1
def gLen (G : mG) : Nat := G.2.2.1.2.1
def gXs (G : mG) : Nat → Int32 := G.2.2.1.2.2
def gD (G : mG) : va_G := G.2.2.2.1
def gC (G : mG) : Nat → ClassId := G.2.2.2.2.1
def gK (G : mG) : Nat → Nat := G.2.2.2.2.2.1
def gW (G : mG) : Nat → Nat := G.2.2.2.2.2.2
def gO (G : mG) : Nat := (gS G).heap.size
def mA (G : mG) : Nat → Prop := fun q => gO G ≤ q
def mTy (G : mG) : List (ClassId × FieldType) := [(gC G 21, .int), (gC G 22, .long), (gC G 23, .byte), (gC G 24, .boolean), (gC G 25, .object "NineBars$Box"), (gC G 26, .object "NineBars$Tray")]
def mad (G : mG) (z : Int) : Nat := gO G + (z.toNat - 1)
/-- what a reference is in the machine: cells made; the script (-1); the literals (-2, -3 ..) -/
def mlow (G : mG) (k : Nat) : Nat := if k = 1 then gB G else if k < 100 then gK G (k - 2) else gW G (k - 100)
def mr (G : mG) (z : Int) : Value := if z = 0 then .null else if 0 < z then .ref (mad G z) else .ref (mlow G (-z).toNat)
theorem mr_0 (G : mG) : mr G 0 = .null := rfl
theorem mr_pos {G : mG} {z : Int} (h : 0 < z) : mr G z = .ref (mad G z) := by unfold mr; rw [if_neg (by omega), if_pos h]
theorem mr_neg {G : mG} {z : Int} (h : z < 0) : mr G z = .ref (mlow G (-z).toNat) := by unfold mr; rw [if_neg (by omega), if_neg (by omega)]
def mRV (G : mG) (q : mV) (v : Value) : Prop := match v with
  | .int x => q = (0, x.toInt)
  | .long x => q = (1, x.toInt)
  | .ref a => q.1 = 2 ∧ mr G q.2 = .ref a
  | .null => q.1 = 2 ∧ mr G q.2 = .null
  | _ => False
theorem mRV_i {G : mG} {a : Int} {v : Value} (h : mRV G (0, a) v) : ∃ x : Int32, v = .int x ∧ x.toInt = a := by
  cases v with
  | int x => exact ⟨x, rfl, (Prod.mk.inj h).2.symm⟩
  | long x => exact absurd (Prod.mk.inj h).1 (by decide)
  | ref a => exact absurd (show (0 : Nat) = 2 from h.1) (by decide)
  | null => exact absurd (show (0 : Nat) = 2 from h.1) (by decide)
  | float x => exact h.elim
  | double x => exact h.elim
  | retAddr x => exact h.elim
theorem mRV_l {G : mG} {a : Int} {v : Value} (h : mRV G (1, a) v) : ∃ x : Int64, v = .long x ∧ x.toInt = a := by
  cases v with
  | int x => exact absurd (Prod.mk.inj h).1 (by decide)
  | long x => exact ⟨x, rfl, (Prod.mk.inj h).2.symm⟩
  | ref a => exact absurd (show (1 : Nat) = 2 from h.1) (by decide)
  | null => exact absurd (show (1 : Nat) = 2 from h.1) (by decide)
  | float x => exact h.elim
  | double x => exact h.elim
  | retAddr x => exact h.elim
theorem mRV_r {G : mG} {a : Int} {v : Value} (h : mRV G (2, a) v) : v = mr G a := by
  cases v with
  | int x => exact absurd (Prod.mk.inj h).1 (by decide)
  | long x => exact absurd (Prod.mk.inj h).1 (by decide)
  | ref a => exact h.2.symm
  | null => exact h.2.symm
  | float x => exact h.elim
  | double x => exact h.elim
  | retAddr x => exact h.elim
theorem mRV_ofr (G : mG) (a : Int) : mRV G (2, a) (mr G a) := by
  have h : ∀ v, mr G a = v → (v = .null ∨ ∃ q, v = .ref q) → mRV G (2, a) v := by
    intro v hv h
    rcases h with rfl | ⟨q, rfl⟩
    · exact ⟨rfl, hv⟩
    · exact ⟨rfl, hv⟩
  refine h _ rfl ?_
  unfold mr
  split
  · exact Or.inl rfl
  · split
    · exact Or.inr ⟨_, rfl⟩
    · exact Or.inr ⟨_, rfl⟩
theorem mRV_tag {G : mG} {q : mV} {v : Value} (h : mRV G q v) : q.1 < 3 := by
  cases v with
  | int x => rw [show q = (0, x.toInt) from h]; show (0 : Nat) < 3; decide
  | long x => rw [show q = (1, x.toInt) from h]; show (1 : Nat) < 3; decide
  | ref a => rw [h.1]; decide
  | null => rw [h.1]; decide
  | float x => exact h.elim
  | double x => exact h.elim
  | retAddr x => exact h.elim
theorem mRV_cat {G : mG} {q : mV} {v : Value} (h : mRV G q v) : v.category = if q.1 = 1 then 2 else 1 := by
  cases v with
  | int x => rw [show q = (0, x.toInt) from h]; rfl
  | long x => rw [show q = (1, x.toInt) from h]; rfl
  | ref a => rw [h.1]; rfl
  | null => rw [h.1]; rfl
  | float x => exact h.elim
  | double x => exact h.elim
  | retAddr x => exact h.elim
def mRS (G : mG) : List mV → List Value → Prop
  | [], [] => True
  | q :: st, v :: mst => mRV G q v ∧ mRS G st mst
  | _, _ => False
theorem mRS_c {G : mG} {q : mV} {st : List mV} {mst : List Value} (h : mRS G (q :: st) mst) : ∃ v m2, mst = v :: m2 ∧ mRV G q v ∧ mRS G st m2 := by
  cases mst with
  | nil => exact h.elim
  | cons v m2 => exact ⟨v, m2, rfl, h.1, h.2⟩
theorem mRS_i {G : mG} {a : Int} {st : List mV} {mst : List Value} (h : mRS G ((0, a) :: st) mst) : ∃ (x : Int32) (m2 : List Value), mst = .int x :: m2 ∧ x.toInt = a ∧ mRS G st m2 := by
  obtain ⟨v, m2, rfl, h1, h2⟩ := mRS_c h
  obtain ⟨x, rfl, hx⟩ := mRV_i h1
  exact ⟨x, m2, rfl, hx, h2⟩
theorem mRS_l {G : mG} {a : Int} {st : List mV} {mst : List Value} (h : mRS G ((1, a) :: st) mst) : ∃ (x : Int64) (m2 : List Value), mst = .long x :: m2 ∧ x.toInt = a ∧ mRS G st m2 := by
  obtain ⟨v, m2, rfl, h1, h2⟩ := mRS_c h
  obtain ⟨x, rfl, hx⟩ := mRV_l h1
  exact ⟨x, m2, rfl, hx, h2⟩
theorem mRS_r {G : mG} {a : Int} {st : List mV} {mst : List Value} (h : mRS G ((2, a) :: st) mst) : ∃ (m2 : List Value), mst = mr G a :: m2 ∧ mRS G st m2 := by
  obtain ⟨v, m2, rfl, h1, h2⟩ := mRS_c h
  exact ⟨m2, by rw [mRV_r h1], h2⟩
def mwt : List mV → Nat
  | [] => 0
  | q :: st => (if q.1 = 1 then 2 else 1) + mwt st
theorem mRS_wt {G : mG} : ∀ {st : List mV} {mst : List Value}, mRS G st mst → (mst.map fun v => v.category).sum = mwt st
  | [], [], _ => rfl
  | q :: st, v :: mst, h => by
    rw [List.map_cons, List.sum_cons, mRS_wt h.2, mRV_cat h.1]; rfl
  | [], _ :: _, h => h.elim
  | _ :: _, [], h => h.elim
/-! ## a method's own numbers: class, name, code, locals, what it returns, its table, how deep its calls go -/
abbrev mM : Type := String × MethodName × ByteArray × Nat × Option FieldType × List (Nat × Nat × Nat × Nat) × Nat
def mO (M : mM) : String := M.1
def mY (M : mM) : MethodName := M.2.1
def mB (M : mM) : ByteArray := M.2.2.1
def mLo (M : mM) : Nat := M.2.2.2.1
def mRt (M : mM) : Option FieldType := M.2.2.2.2.1
def mHh (M : mM) : List (Nat × Nat × Nat × Nat) := M.2.2.2.2.2.1
def mDp (M : mM) : Nat := M.2.2.2.2.2.2
/-- the literals' sites: class, entry, text, number; the words' lengths and letters -/
def mLK : List (String × Nat × String × Nat) := [("NineBars", 111, "not so many bytes are on the tape", 10), ("NineBars$Reader", 72, "bar", 0), ("NineBars$Reader", 99, "at", 4), ("NineBars$Reader", 101, "open", 5), ("NineBars$Reader", 77, "rule", 1), ("NineBars$Reader", 114, "to", 6), ("NineBars$Reader", 120, "if", 7), ("NineBars$Reader", 131, "not", 9), ("NineBars$Reader", 129, "and", 8), ("NineBars$Reader", 82, "nested", 2), ("NineBars$Reader", 92, "wear", 3), ("NineBars", 440, "no such bar", 11), ("NineBars", 166, "what is 0 to 5", 12), ("NineBars", 173, "no such rule", 13), ("NineBars", 192, "what is 0 to 4", 14), ("NineBars", 442, "no such stand", 15), ("NineBars", 444, "more than 20,000 stands", 16), ("NineBars", 446, "no such tray", 17), ("NineBars", 448, "the tray is missing", 18), ("NineBars", 232, "what is 0 to 3", 19), ("NineBars", 245, "times is 1 to 60", 20), ("NineBars", 249, "no bars", 21), ("NineBars", 281, "what is 0 or 1", 22), ("NineBars", 287, "n is 0 to 999", 23), ("NineBars", 304, "what is 0, or 10 and more", 24), ("NineBars", 452, "n is 1 to 30, bits are of n", 25), ("NineBars", 325, "m is 1 to 999, what is 0 to 6", 26), ("NineBars", 330, "more than 600 stands", 27), ("NineBars", 341, "not 1 to 40 numbers", 28), ("NineBars", 347, "n is 1 or 2, what is 0 to 2", 29), ("NineBars", 470, "a number that tells of no stand", 30), ("NineBars", 381, "n is 0 to 20", 31), ("NineBars", 397, "no such sort, or not so many", 32), ("NineBars", 404, "no such place", 33), ("NineBars", 450, "no such image", 34), ("NineBars", 428, "no such image was made", 35), ("NineBarsModel", 180, "bar", 0), ("NineBarsModel", 155, "at", 4), ("NineBarsModel", 156, "open", 5), ("NineBarsModel", 185, "rule", 1), ("NineBarsModel", 164, "to", 6), ("NineBarsModel", 170, "if", 7), ("NineBarsModel", 178, "not", 9), ("NineBarsModel", 176, "and", 8), ("NineBarsModel", 190, "nested", 2), ("NineBarsModel", 195, "wear", 3)]
def mLn : List Nat := [3, 4, 6, 4, 2, 4, 2, 2, 3, 3]
def mBy : List (List Int32) := [[98, 97, 114], [114, 117, 108, 101], [110, 101, 115, 116, 101, 100], [119, 101, 97, 114], [97, 116], [111, 112, 101, 110], [116, 111], [105, 102], [97, 110, 100], [110, 111, 116]]
def mTB (w : Cond) : Prop := w ∈ lw_tbl ∧ goodWord w = true
def mTL : List Cond := lw_tbl.filter goodWord
theorem mTL_in {w : Cond} : w ∈ mTL ↔ mTB w := List.mem_filter
def mNC : List (String × String) := [("java/lang/IllegalArgumentException", "java/util/NoSuchElementException"), ("java/lang/IllegalArgumentException", "java/lang/IllegalStateException"), ("java/lang/IllegalArgumentException", "java/lang/IndexOutOfBoundsException"), ("java/util/NoSuchElementException", "java/lang/IllegalArgumentException"), ("java/util/NoSuchElementException", "java/lang/IllegalStateException"), ("java/util/NoSuchElementException", "java/lang/IndexOutOfBoundsException"), ("java/lang/IllegalStateException", "java/lang/IllegalArgumentException"), ("java/lang/IllegalStateException", "java/util/NoSuchElementException"), ("java/lang/IllegalStateException", "java/lang/IndexOutOfBoundsException"), ("java/lang/IndexOutOfBoundsException", "java/lang/IllegalArgumentException"), ("java/lang/IndexOutOfBoundsException", "java/util/NoSuchElementException"), ("java/lang/IndexOutOfBoundsException", "java/lang/IllegalStateException")]
def mm_at (own : String) (ic : Nat) (X : String) (ix : Nat) (rx : ByteArray) (names : List String) : List Cond := (Bundle.ownAtomsX own ic X ix rx names).filter vx_no
def mThB (i : UInt8) : ByteArray := ⟨#[0x2a, 0x2b, 0xb7, 0x00, i, 0xb1]⟩
def mThr : List (Nat × String × Nat) := [(113, "java/lang/IllegalArgumentException", 7), (175, "java/util/NoSuchElementException", 13), (251, "java/lang/IllegalStateException", 7), (406, "java/lang/IndexOutOfBoundsException", 7)]
def mThN : List String := ["java/lang/RuntimeException", "java/lang/Exception"]
def mThA (q : Nat × String × Nat) : List Cond := mm_at "NineBars" q.1 q.2.1 q.2.2 (mThB q.2.2.toUInt8) mThN
def mNW : List Cond := (mThr.flatMap mThA).filter (fun w => !goodWord w)
def mNWk (w : Cond) : Bool := match w with
  | .castable _ _ => true
  | .declares _ => true
  | _ => false
theorem mNW_k : mNW.all mNWk = true := by decide +kernel
theorem mNW_in : ∀ w ∈ mNW, w ∈ lw_tbl := by decide +kernel
def mNk (w : Cond) : Bool := match w with
  | .fieldLinkNest _ _ _ _ _ _ => true
  | .methodLinkNest _ _ _ _ => true
  | _ => false
def mTN (w : Cond) : Prop := w ∈ lw_tbl ∧ mNk w = true
def GOK (G : mG) : Prop := (gL G).stackTraces = false ∧ (∀ w, mTB w → w.before #[.ref (gB G)] (gS G) = true) ∧ va_K (gD G) vwCl (mTy G) (gS G) ∧ (va_X (gB G) (gLen G) (gXs G) (gS G) (gS G).heap ∧ gB G < gO G ∧ gLen G ≤ 3072) ∧
  (∀ q ∈ mLK, vk_R q.1 q.2.1 q.2.2.1 (gK G q.2.2.2) (gS G)) ∧ vk_S 10 mLn mBy (gK G) (gW G) (mA G) (gS G) (gS G).heap ∧
  (vx_Zq Bundle.tN "UNASSIGNED_STACK" Bundle.steD (mA G) (gS G) (gS G).heap ∧ vx_Zq Bundle.tN "SUPPRESSED_SENTINEL" Bundle.listD (mA G) (gS G) (gS G).heap) ∧
  va_Z "java/lang/String" "COMPACT_STRINGS" "Z" (.int 1) (mA G) (gS G) (gS G).heap ∧ va_Z "jdk/internal/util/Preconditions" "SIOOBE_FORMATTER" "Ljava/util/function/BiFunction;" (if gW G 98 = 0 then .null else .ref (gW G 99)) (mA G) (gS G) (gS G).heap ∧ va_AO "NineBars$Box" (gS G) ∧ va_AO "NineBars$Tray" (gS G) ∧ (∀ q ∈ mNC, va_Nc q.1 q.2 (gS G)) ∧ (∀ w ∈ mNW, va_Nw w (gS G)) ∧ ∀ w, mTN w → va_Nw w (gS G)
def mENV (G : mG) (U : State) : Prop := (gS G).WarmedH U.vm ∧ gO G ≤ U.heap.size ∧ ∀ q, q < gO G → U.heap[q]? = (gS G).heap[q]?
def mCX (G : mG) (M : mM) (p : Program) (R : Room) (s : State) (m : MethodId) (args : Array Value) (meth : Method) (c : Code) : Prop :=
  p.tables.exec = Jvm.exec ∧ c.code = mB M ∧ c.maxLocals = mLo M ∧ meth.sig.returnType = mRt M ∧ meth.locks = false ∧ c.exceptionTable.toList = tableOf (mHh M) ∧ s.vm.findClass (mO M) = some m.cls ∧ meth.name = (mY M).name ∧
    (∀ w, mTB w → w.before args s = true) ∧ mENV G s ∧ (20 + 2 * mDp M ≤ R.frames ∧ 300 + 100 * mDp M ≤ R.locals) ∧ GOK G
/-- the locals: what is known of each -/
def mRL (G : mG) (M : mM) (ls : List mV) (lsA : Array Slot) : Prop := ls.length = mLo M ∧ ∃ lst, lv_has lsA (mLo M) lst ∧ ∀ (i : Nat) (q : mV), ls[i]? = some q → q.1 < 3 → ∃ v, (i, v) ∈ lst ∧ mRV G q v
theorem mRL_get {G : mG} {M : mM} {ls : List mV} {lsA : Array Slot} (h : mRL G M ls lsA) {i : Nat} {q : mV} (hq : ls[i]? = some q) (ht : q.1 < 3) : ∃ v, lsA[i]? = some (.val v) ∧ mRV G q v := by
  obtain ⟨-, lst, h1, h2⟩ := h
  obtain ⟨v, h3, h4⟩ := h2 i q hq ht
  exact ⟨v, h1.2.2 _ h3, h4⟩
/-- storing -/
def lst1 (ls : List mV) (i : Nat) (q : mV) : List mV := match i with
  | 0 => ls.set 0 q
  | k + 1 => if (ls.getD k (9, 0)).1 = 1 then (ls.set k (9, 0)).set (k + 1) q else ls.set (k + 1) q
def lst2 (ls : List mV) (i : Nat) (q : mV) : List mV := (lst1 ls i q).set (i + 1) (9, 0)
theorem lst1_len (ls : List mV) (i : Nat) (q : mV) : (lst1 ls i q).length = ls.length := by
  unfold lst1; split
  · simp
  · split <;> simp
theorem lst1_get {ls : List mV} {i : Nat} {q : mV} (hi : i < ls.length) {j : Nat} {r : mV} (h : (lst1 ls i q)[j]? = some r) (hr : r.1 < 3) : (j = i ∧ r = q) ∨ (j ≠ i ∧ ls[j]? = some r ∧ ¬ (j + 1 = i ∧ r.1 = 1)) := by
  unfold lst1 at h
  split at h
  · by_cases hj : j = 0
    · subst hj
      rw [List.getElem?_set_self hi] at h
      exact Or.inl ⟨rfl, (Option.some.inj h).symm⟩
    · rw [List.getElem?_set_ne (Ne.symm hj)] at h
      exact Or.inr ⟨hj, h, fun z => by omega⟩
  · rename_i k
    split at h
    · rename_i h1
      by_cases hj : j = k + 1
      · subst hj
        rw [List.getElem?_set_self (by simpa using hi)] at h
        exact Or.inl ⟨rfl, (Option.some.inj h).symm⟩
      · rw [List.getElem?_set_ne (Ne.symm hj)] at h
        by_cases hjk : j = k
        · subst hjk
          rw [List.getElem?_set_self (by omega)] at h
          rw [← Option.some.inj h] at hr
          exact absurd hr (by decide)
        · rw [List.getElem?_set_ne (Ne.symm hjk)] at h
          exact Or.inr ⟨hj, h, fun z => hjk (by omega)⟩
    · rename_i h1
      by_cases hj : j = k + 1
      · subst hj
        rw [List.getElem?_set_self hi] at h
        exact Or.inl ⟨rfl, (Option.some.inj h).symm⟩
      · rw [List.getElem?_set_ne (Ne.symm hj)] at h
        refine Or.inr ⟨hj, h, fun z => h1 ?_⟩
        have hk : j = k := by omega
        subst hk
        rw [List.getD_eq_getElem?_getD, h]
        exact z.2
theorem mRL_st1 {G : mG} {M : mM} {ls ls' : List mV} {lsA lsB : Array Slot} {i : Nat} {q : mV} {v : Value} {lst : List (Nat × Value)} (hlen : ls.length = mLo M) (hall : ∀ (i : Nat) (q : mV), ls[i]? = some q → q.1 < 3 → ∃ v, (i, v) ∈ lst ∧ mRV G q v) (hv : mRV G q v)
    (hi : i < ls.length) (he : lst1 ls i q = ls') (hB : lv_has lsB (mLo M) ((i, v) :: lst.filter (fun q => !(q.1 == i) && !(q.1 + 1 == i && q.2.category == 2)))) : mRL G M ls' lsB := by
  subst he
  refine ⟨by rw [lst1_len, hlen], _, hB, fun j r hj hr => ?_⟩
  rcases lst1_get hi hj hr with ⟨rfl, rfl⟩ | ⟨h1, h2, h3⟩
  · exact ⟨v, List.mem_cons_self, hv⟩
  · obtain ⟨u, h4, h5⟩ := hall j r h2 hr
    refine ⟨u, List.mem_cons_of_mem _ (List.mem_filter.mpr ⟨h4, ?_⟩), h5⟩
    have hc := mRV_cat h5
    by_cases ht : r.1 = 1
    · have : ¬ j + 1 = i := fun z => h3 ⟨z, ht⟩
      simp [h1, this]
    · rw [if_neg ht] at hc
      simp [h1, hc]
theorem mRL_st2 {G : mG} {M : mM} {ls ls' : List mV} {lsB : Array Slot} {i : Nat} {q : mV} {v : Value} {lst : List (Nat × Value)} (hlen : ls.length = mLo M) (hall : ∀ (i : Nat) (q : mV), ls[i]? = some q → q.1 < 3 → ∃ v, (i, v) ∈ lst ∧ mRV G q v) (hv : mRV G q v)
    (hi : i + 1 < ls.length) (he : lst2 ls i q = ls') (hB : lv_has lsB (mLo M) ((i, v) :: lst.filter (fun q => !(q.1 == i) && (!(q.1 == i + 1) && !(q.1 + 1 == i && q.2.category == 2))))) : mRL G M ls' lsB := by
  subst he
  refine ⟨by unfold lst2; rw [List.length_set, lst1_len, hlen], _, hB, fun j r hj hr => ?_⟩
  unfold lst2 at hj
  have hji : j ≠ i + 1 := by
    rintro rfl
    rw [List.getElem?_set_self (by rw [lst1_len]; exact hi)] at hj
    rw [← Option.some.inj hj] at hr
    exact absurd hr (by decide)
  rw [List.getElem?_set_ne (Ne.symm hji)] at hj
  rcases lst1_get (by omega) hj hr with ⟨rfl, rfl⟩ | ⟨h1, h2, h3⟩
  · exact ⟨v, List.mem_cons_self, hv⟩
  · obtain ⟨u, h4, h5⟩ := hall j r h2 hr
    refine ⟨u, List.mem_cons_of_mem _ (List.mem_filter.mpr ⟨h4, ?_⟩), h5⟩
    have hc := mRV_cat h5
    by_cases ht : r.1 = 1
    · have : ¬ j + 1 = i := fun z => h3 ⟨z, ht⟩
      simp [h1, this, hji]
    · rw [if_neg ht] at hc
      simp [h1, hc, hji]
/-! ## the heap -/
/-- the kinds: class c is 1 + its place in vwCl; 21 .. 26 arrays; 0 nothing that is used -/
def ftag (d : String) : Nat := if d = "I" ∨ d = "Z" then 0 else if d = "J" then 1 else 2
def mRE (G : mG) (h : mH) (z : Int) (e : va_E) : Prop :=
  if hpT h z < 20 then ∃ (C : String) (T : u_T) (N : Nat) (fs : List Value), vwCl[hpT h z - 1]? = some (C, T, N) ∧ e = .inr (hpT h z - 1, fs) ∧ fs.length = N ∧ ∀ (k : Nat) (v : Value), fs[k]? = some v → mRV G (ftag (T k).2.2.1, hpV h z k) v
  else if hpT h z = 22 then ∃ (n : Nat) (f : Nat → Int64), e = .inl (gC G 22, n, .inr (.inl f)) ∧ n < 2147483648 ∧ hpL h z = n ∧ ∀ i : Nat, i < n → hpV h z i = (f i).toInt
  else if hpT h z = 25 ∨ hpT h z = 26 then ∃ (n : Nat) (f : Nat → Option Nat), e = .inl (gC G (hpT h z), n, .inr (.inr (.inr (.inr f)))) ∧ n < 2147483648 ∧ hpL h z = n ∧ ∀ i : Nat, i < n → mr G (hpV h z i) = va_rf (f i)
  else (hpT h z = 21 ∨ hpT h z = 23 ∨ hpT h z = 24) ∧ ∃ (n : Nat) (f : Nat → Int32), e = .inl (gC G (hpT h z), n, .inl f) ∧ n < 2147483648 ∧ hpL h z = n ∧ ∀ i : Nat, i < n → hpV h z i = (f i).toInt
def mRH (G : mG) (h : mH) (H : Heap) : Prop := (H.size : Int) = gO G + hpN h ∧ 0 ≤ hpN h ∧ ∃ E : Int → va_E, ∀ z, hpT h z ≠ 0 → 0 < z ∧ z ≤ hpN h ∧ va_at (gD G) vwCl (mad G z, E z) H ∧ mRE G h z (E z)
/-- how a method ends -/
def mRO (G : mG) (q : mV) (v : Option Value) : Prop := match v with
  | none => q.1 = 3
  | some v => mRV G q v
def exNo (E : String) : Int := if E = "java/lang/IllegalArgumentException" then 1 else if E = "java/util/NoSuchElementException" then 2 else if E = "java/lang/IllegalStateException" then 3 else if E = "java/lang/IndexOutOfBoundsException" then 4 else 0
def mQC (G : mG) (r : mR) : Array Value → State → Outcome → State → Prop := fun _ st o t => (∃ v, o = .returned v ∧ mRO G r.1 v ∧ mRH G r.2 t.heap) ∧ va_F (mA G) st t
def mXC (G : mG) (r : mR) : String → State → State → Prop := fun E st t => r.1 = (4, exNo E) ∧ exNo E ≠ 0 ∧ mRH G r.2 t.heap ∧ va_F (mA G) st t
def mJ (G : mG) (M : mM) (pc : Nat) (ls st : List mV) (h : mH) (r : mR) : Prop :=
  (hpN h ≤ hpN r.2 ∧ hpS h ≤ hpS r.2) ∧
  ∀ (p : Program) (e : Env) (R : Room) (s : State) (m : MethodId) (args : Array Value) (below : List Frame) (meth : Method) (c : Code) (H : Heap) (locs : List Loc) (cells slots mc ms : Nat) (lsA : Array Slot) (mst : List Value),
    mCX G M p R s m args meth c → va_S (mA G) s.heap H locs → mRH G h H → mRL G M ls lsA → mRS G st mst →
    (cells : Int) + (hpN r.2 - hpN h) ≤ mc → (slots : Int) + (hpS r.2 - hpS h) ≤ ms → mc ≤ R.cells → ms ≤ R.slots →
    W p (gL G) e R s m args below meth c H locs cells slots (vx_MQ below (mQC G r) (mXC G r) args s mc ms (mA G)) (F0 m pc lsA mst)
def mStep (G : mG) (M : mM) (pc pc' : Nat) (ls ls' st st' : List mV) (h : mH) : Prop :=
  ∀ (p : Program) (e : Env) (R : Room) (s : State) (m : MethodId) (args : Array Value) (below : List Frame) (meth : Method) (c : Code) (H : Heap) (locs : List Loc) (cells slots : Nat) (Q : State → Prop) (lsA : Array Slot) (mst : List Value),
    mCX G M p R s m args meth c → va_S (mA G) s.heap H locs → mRH G h H → mRL G M ls lsA → mRS G st mst → cells ≤ R.cells → slots ≤ R.slots →
    (∀ lsB mst', mRL G M ls' lsB → mRS G st' mst' → W p (gL G) e R s m args below meth c H locs cells slots Q (F0 m pc' lsB mst')) → W p (gL G) e R s m args below meth c H locs cells slots Q (F0 m pc lsA mst)
theorem j_step {G : mG} {M : mM} {pc pc' : Nat} {ls ls' st st' : List mV} {h : mH} {r : mR} (P : mStep G M pc pc' ls ls' st st' h) (k : mJ G M pc' ls' st' h r) : mJ G M pc ls st h r :=
  ⟨k.1, fun p e R s m args below meth c H locs cells slots mc ms lsA mst hC hS hH hL hst h1 h2 h3 h4 =>
    P p e R s m args below meth c H locs cells slots _ lsA mst hC hS hH hL hst (by have := k.1.1; omega) (by have := k.1.2; omega) fun lsB mst' g1 g2 => k.2 p e R s m args below meth c H locs cells slots mc ms lsB mst' hC hS hH g1 g2 h1 h2 h3 h4⟩
theorem j_br {G : mG} {M : mM} {pc p1 p2 : Nat} {ls st st' : List mV} {h : mH} {r : mR} {cd : Prop} [Decidable cd] {A B : Option mR} (hr : (if cd then A else B) = some r)
    (P : ∀ (p : Program) (e : Env) (R : Room) (s : State) (m : MethodId) (args : Array Value) (below : List Frame) (meth : Method) (c : Code) (H : Heap) (locs : List Loc) (cells slots : Nat) (Q : State → Prop) (lsA : Array Slot) (mst : List Value),
      mCX G M p R s m args meth c → mRS G st mst → ∃ mst', mRS G st' mst' ∧ ((cd → W p (gL G) e R s m args below meth c H locs cells slots Q (F0 m p1 lsA mst')) → (¬ cd → W p (gL G) e R s m args below meth c H locs cells slots Q (F0 m p2 lsA mst')) → W p (gL G) e R s m args below meth c H locs cells slots Q (F0 m pc lsA mst)))
    (kt : A = some r → mJ G M p1 ls st' h r) (kf : B = some r → mJ G M p2 ls st' h r) : mJ G M pc ls st h r := by
  by_cases hc : cd
  · rw [if_pos hc] at hr
    have k := kt hr
    refine ⟨k.1, fun p e R s m args below meth c H locs cells slots mc ms lsA mst hC hS hH hL hst h1 h2 h3 h4 => ?_⟩
    obtain ⟨mst', q2, q1⟩ := P p e R s m args below meth c H locs cells slots (vx_MQ below (mQC G r) (mXC G r) args s mc ms (mA G)) lsA mst hC hst
    exact q1 (fun _ => k.2 p e R s m args below meth c H locs cells slots mc ms lsA mst' hC hS hH hL q2 h1 h2 h3 h4) (fun z => absurd hc z)
  · rw [if_neg hc] at hr
    have k := kf hr
    refine ⟨k.1, fun p e R s m args below meth c H locs cells slots mc ms lsA mst hC hS hH hL hst h1 h2 h3 h4 => ?_⟩
    obtain ⟨mst', q2, q1⟩ := P p e R s m args below meth c H locs cells slots (vx_MQ below (mQC G r) (mXC G r) args s mc ms (mA G)) lsA mst hC hst
    exact q1 (fun z => absurd z hc) (fun _ => k.2 p e R s m args below meth c H locs cells slots mc ms lsA mst' hC hS hH hL q2 h1 h2 h3 h4)

section
variable {G : mG} {M : mM} {pc : Nat} {ls ls' st : List mV} {h : mH} {r : mR}

theorem j_iadd {a b : Int} (hd : decode (mB M) pc = .ok (.iadd, 1)) (k : mJ G M (pc + 1) ls ((0, w32 (a + b)) :: st) h r) : mJ G M pc ls ((0, b) :: (0, a) :: st) h r := by
  refine j_step (fun p e R s m args below meth c H locs cells slots Q lsA mst hC hS hH hL hst hcl hsl kk => by
  obtain ⟨hx, hb, hml, hr, hlk, htb, hown, hnm, hts, henv, hR⟩ := hC
  obtain ⟨y, m1, rfl, rfl, hst1⟩ := mRS_i hst
  obtain ⟨x, m2, rfl, rfl, hst2⟩ := mRS_i hst1
  exact lv_iadd hx hb hd (kk lsA _ hL ⟨(by show mRV G _ (.int _); exact Prod.ext rfl (i32_add x y).symm), hst2⟩)) k
theorem j_isub {a b : Int} (hd : decode (mB M) pc = .ok (.isub, 1)) (k : mJ G M (pc + 1) ls ((0, w32 (a - b)) :: st) h r) : mJ G M pc ls ((0, b) :: (0, a) :: st) h r := by
  refine j_step (fun p e R s m args below meth c H locs cells slots Q lsA mst hC hS hH hL hst hcl hsl kk => by
  obtain ⟨hx, hb, hml, hr, hlk, htb, hown, hnm, hts, henv, hR⟩ := hC
  obtain ⟨y, m1, rfl, rfl, hst1⟩ := mRS_i hst
  obtain ⟨x, m2, rfl, rfl, hst2⟩ := mRS_i hst1
  exact lv_isub hx hb hd (kk lsA _ hL ⟨(by show mRV G _ (.int _); exact Prod.ext rfl (i32_sub x y).symm), hst2⟩)) k
theorem j_imul {a b : Int} (hd : decode (mB M) pc = .ok (.imul, 1)) (k : mJ G M (pc + 1) ls ((0, w32 (a * b)) :: st) h r) : mJ G M pc ls ((0, b) :: (0, a) :: st) h r := by
  refine j_step (fun p e R s m args below meth c H locs cells slots Q lsA mst hC hS hH hL hst hcl hsl kk => by
  obtain ⟨hx, hb, hml, hr, hlk, htb, hown, hnm, hts, henv, hR⟩ := hC
  obtain ⟨y, m1, rfl, rfl, hst1⟩ := mRS_i hst
  obtain ⟨x, m2, rfl, rfl, hst2⟩ := mRS_i hst1
  exact lv_imul hx hb hd (kk lsA _ hL ⟨(by show mRV G _ (.int _); exact Prod.ext rfl (i32_mul x y).symm), hst2⟩)) k
theorem j_iand {a b : Int} (hd : decode (mB M) pc = .ok (.iand, 1)) (k : mJ G M (pc + 1) ls ((0, qand a b) :: st) h r) : mJ G M pc ls ((0, b) :: (0, a) :: st) h r := by
  refine j_step (fun p e R s m args below meth c H locs cells slots Q lsA mst hC hS hH hL hst hcl hsl kk => by
  obtain ⟨hx, hb, hml, hr, hlk, htb, hown, hnm, hts, henv, hR⟩ := hC
  obtain ⟨y, m1, rfl, rfl, hst1⟩ := mRS_i hst
  obtain ⟨x, m2, rfl, rfl, hst2⟩ := mRS_i hst1
  exact lv_iand hx hb hd (kk lsA _ hL ⟨(by show mRV G _ (.int _); exact Prod.ext rfl (i32_and x y).symm), hst2⟩)) k
theorem j_ior {a b : Int} (hd : decode (mB M) pc = .ok (.ior, 1)) (k : mJ G M (pc + 1) ls ((0, qor a b) :: st) h r) : mJ G M pc ls ((0, b) :: (0, a) :: st) h r := by
  refine j_step (fun p e R s m args below meth c H locs cells slots Q lsA mst hC hS hH hL hst hcl hsl kk => by
  obtain ⟨hx, hb, hml, hr, hlk, htb, hown, hnm, hts, henv, hR⟩ := hC
  obtain ⟨y, m1, rfl, rfl, hst1⟩ := mRS_i hst
  obtain ⟨x, m2, rfl, rfl, hst2⟩ := mRS_i hst1
  exact lv_ior hx hb hd (kk lsA _ hL ⟨(by show mRV G _ (.int _); exact Prod.ext rfl (i32_or x y).symm), hst2⟩)) k
theorem j_ixor {a b : Int} (hd : decode (mB M) pc = .ok (.ixor, 1)) (k : mJ G M (pc + 1) ls ((0, qxor a b) :: st) h r) : mJ G M pc ls ((0, b) :: (0, a) :: st) h r := by
  refine j_step (fun p e R s m args below meth c H locs cells slots Q lsA mst hC hS hH hL hst hcl hsl kk => by
  obtain ⟨hx, hb, hml, hr, hlk, htb, hown, hnm, hts, henv, hR⟩ := hC
  obtain ⟨y, m1, rfl, rfl, hst1⟩ := mRS_i hst
  obtain ⟨x, m2, rfl, rfl, hst2⟩ := mRS_i hst1
  exact lv_ixor hx hb hd (kk lsA _ hL ⟨(by show mRV G _ (.int _); exact Prod.ext rfl (i32_xor x y).symm), hst2⟩)) k
theorem j_ishl {a b : Int} (hd : decode (mB M) pc = .ok (.ishl, 1)) (k : mJ G M (pc + 1) ls ((0, qshl a b) :: st) h r) : mJ G M pc ls ((0, b) :: (0, a) :: st) h r := by
  refine j_step (fun p e R s m args below meth c H locs cells slots Q lsA mst hC hS hH hL hst hcl hsl kk => by
  obtain ⟨hx, hb, hml, hr, hlk, htb, hown, hnm, hts, henv, hR⟩ := hC
  obtain ⟨y, m1, rfl, rfl, hst1⟩ := mRS_i hst
  obtain ⟨x, m2, rfl, rfl, hst2⟩ := mRS_i hst1
  exact lv_ishl hx hb hd (kk lsA _ hL ⟨(by show mRV G _ (.int _); exact Prod.ext rfl (i32_shl x y).symm), hst2⟩)) k
theorem j_ishr {a b : Int} (hd : decode (mB M) pc = .ok (.ishr, 1)) (k : mJ G M (pc + 1) ls ((0, qshr a b) :: st) h r) : mJ G M pc ls ((0, b) :: (0, a) :: st) h r := by
  refine j_step (fun p e R s m args below meth c H locs cells slots Q lsA mst hC hS hH hL hst hcl hsl kk => by
  obtain ⟨hx, hb, hml, hr, hlk, htb, hown, hnm, hts, henv, hR⟩ := hC
  obtain ⟨y, m1, rfl, rfl, hst1⟩ := mRS_i hst
  obtain ⟨x, m2, rfl, rfl, hst2⟩ := mRS_i hst1
  exact lv_ishr hx hb hd (kk lsA _ hL ⟨(by show mRV G _ (.int _); exact Prod.ext rfl (i32_shr x y).symm), hst2⟩)) k
theorem j_iushr {a b : Int} (hd : decode (mB M) pc = .ok (.iushr, 1)) (k : mJ G M (pc + 1) ls ((0, qushr a b) :: st) h r) : mJ G M pc ls ((0, b) :: (0, a) :: st) h r := by
  refine j_step (fun p e R s m args below meth c H locs cells slots Q lsA mst hC hS hH hL hst hcl hsl kk => by
  obtain ⟨hx, hb, hml, hr, hlk, htb, hown, hnm, hts, henv, hR⟩ := hC
  obtain ⟨y, m1, rfl, rfl, hst1⟩ := mRS_i hst
  obtain ⟨x, m2, rfl, rfl, hst2⟩ := mRS_i hst1
  exact lv_iushr hx hb hd rfl (kk lsA _ hL ⟨(by show mRV G _ (.int _); exact Prod.ext rfl (i32_ushr x y).symm), hst2⟩)) k
theorem j_idiv {a b : Int} (hd : decode (mB M) pc = .ok (.idiv, 1)) {X : Option mR} (hr : chk (b ≠ 0) X = some r) (k : X = some r → mJ G M (pc + 1) ls ((0, w32 (Int.tdiv a b)) :: st) h r) : mJ G M pc ls ((0, b) :: (0, a) :: st) h r := by
  have hne := (chk_some hr).1
  refine j_step (fun p e R s m args below meth c H locs cells slots Q lsA mst hC hS hH hL hst hcl hsl kk => by
  obtain ⟨hx, hb, hml, hr, hlk, htb, hown, hnm, hts, henv, hR⟩ := hC
  obtain ⟨y, m1, rfl, rfl, hst1⟩ := mRS_i hst
  obtain ⟨x, m2, rfl, rfl, hst2⟩ := mRS_i hst1
  exact lv_idiv hx hb hd (fun e0 => hne (by rw [e0]; first | exact i32_zero | exact i64_zero)) (kk lsA _ hL ⟨(by show mRV G _ (.int _); exact Prod.ext rfl (i32_div x y).symm), hst2⟩)) (k (chk_some hr).2)
theorem j_irem {a b : Int} (hd : decode (mB M) pc = .ok (.irem, 1)) {X : Option mR} (hr : chk (b ≠ 0) X = some r) (k : X = some r → mJ G M (pc + 1) ls ((0, Int.tmod a b) :: st) h r) : mJ G M pc ls ((0, b) :: (0, a) :: st) h r := by
  have hne := (chk_some hr).1
  refine j_step (fun p e R s m args below meth c H locs cells slots Q lsA mst hC hS hH hL hst hcl hsl kk => by
  obtain ⟨hx, hb, hml, hr, hlk, htb, hown, hnm, hts, henv, hR⟩ := hC
  obtain ⟨y, m1, rfl, rfl, hst1⟩ := mRS_i hst
  obtain ⟨x, m2, rfl, rfl, hst2⟩ := mRS_i hst1
  exact lv_irem hx hb hd (fun e0 => hne (by rw [e0]; first | exact i32_zero | exact i64_zero)) (kk lsA _ hL ⟨(by show mRV G _ (.int _); exact Prod.ext rfl (i32_rem x y).symm), hst2⟩)) (k (chk_some hr).2)
theorem j_ladd {a b : Int} (hd : decode (mB M) pc = .ok (.ladd, 1)) (k : mJ G M (pc + 1) ls ((1, w64 (a + b)) :: st) h r) : mJ G M pc ls ((1, b) :: (1, a) :: st) h r := by
  refine j_step (fun p e R s m args below meth c H locs cells slots Q lsA mst hC hS hH hL hst hcl hsl kk => by
  obtain ⟨hx, hb, hml, hr, hlk, htb, hown, hnm, hts, henv, hR⟩ := hC
  obtain ⟨y, m1, rfl, rfl, hst1⟩ := mRS_l hst
  obtain ⟨x, m2, rfl, rfl, hst2⟩ := mRS_l hst1
  exact lv_ladd hx hb hd (kk lsA _ hL ⟨(by show mRV G _ (.long _); exact Prod.ext rfl (i64_add x y).symm), hst2⟩)) k
theorem j_lsub {a b : Int} (hd : decode (mB M) pc = .ok (.lsub, 1)) (k : mJ G M (pc + 1) ls ((1, w64 (a - b)) :: st) h r) : mJ G M pc ls ((1, b) :: (1, a) :: st) h r := by
  refine j_step (fun p e R s m args below meth c H locs cells slots Q lsA mst hC hS hH hL hst hcl hsl kk => by
  obtain ⟨hx, hb, hml, hr, hlk, htb, hown, hnm, hts, henv, hR⟩ := hC
  obtain ⟨y, m1, rfl, rfl, hst1⟩ := mRS_l hst
  obtain ⟨x, m2, rfl, rfl, hst2⟩ := mRS_l hst1
  exact lv_lsub hx hb hd (kk lsA _ hL ⟨(by show mRV G _ (.long _); exact Prod.ext rfl (i64_sub x y).symm), hst2⟩)) k
theorem j_lmul {a b : Int} (hd : decode (mB M) pc = .ok (.lmul, 1)) (k : mJ G M (pc + 1) ls ((1, w64 (a * b)) :: st) h r) : mJ G M pc ls ((1, b) :: (1, a) :: st) h r := by
  refine j_step (fun p e R s m args below meth c H locs cells slots Q lsA mst hC hS hH hL hst hcl hsl kk => by
  obtain ⟨hx, hb, hml, hr, hlk, htb, hown, hnm, hts, henv, hR⟩ := hC
  obtain ⟨y, m1, rfl, rfl, hst1⟩ := mRS_l hst
  obtain ⟨x, m2, rfl, rfl, hst2⟩ := mRS_l hst1
  exact lv_lmul hx hb hd (kk lsA _ hL ⟨(by show mRV G _ (.long _); exact Prod.ext rfl (i64_mul x y).symm), hst2⟩)) k
theorem j_land {a b : Int} (hd : decode (mB M) pc = .ok (.land, 1)) (k : mJ G M (pc + 1) ls ((1, qland a b) :: st) h r) : mJ G M pc ls ((1, b) :: (1, a) :: st) h r := by
  refine j_step (fun p e R s m args below meth c H locs cells slots Q lsA mst hC hS hH hL hst hcl hsl kk => by
  obtain ⟨hx, hb, hml, hr, hlk, htb, hown, hnm, hts, henv, hR⟩ := hC
  obtain ⟨y, m1, rfl, rfl, hst1⟩ := mRS_l hst
  obtain ⟨x, m2, rfl, rfl, hst2⟩ := mRS_l hst1
  exact lv_land hx hb hd (kk lsA _ hL ⟨(by show mRV G _ (.long _); exact Prod.ext rfl (i64_and x y).symm), hst2⟩)) k
theorem j_lor {a b : Int} (hd : decode (mB M) pc = .ok (.lor, 1)) (k : mJ G M (pc + 1) ls ((1, qlor a b) :: st) h r) : mJ G M pc ls ((1, b) :: (1, a) :: st) h r := by
  refine j_step (fun p e R s m args below meth c H locs cells slots Q lsA mst hC hS hH hL hst hcl hsl kk => by
  obtain ⟨hx, hb, hml, hr, hlk, htb, hown, hnm, hts, henv, hR⟩ := hC
  obtain ⟨y, m1, rfl, rfl, hst1⟩ := mRS_l hst
  obtain ⟨x, m2, rfl, rfl, hst2⟩ := mRS_l hst1
  exact lv_lor hx hb hd (kk lsA _ hL ⟨(by show mRV G _ (.long _); exact Prod.ext rfl (i64_or x y).symm), hst2⟩)) k
theorem j_ldiv {a b : Int} (hd : decode (mB M) pc = .ok (.ldiv, 1)) {X : Option mR} (hr : chk (b ≠ 0) X = some r) (k : X = some r → mJ G M (pc + 1) ls ((1, w64 (Int.tdiv a b)) :: st) h r) : mJ G M pc ls ((1, b) :: (1, a) :: st) h r := by
  have hne := (chk_some hr).1
  refine j_step (fun p e R s m args below meth c H locs cells slots Q lsA mst hC hS hH hL hst hcl hsl kk => by
  obtain ⟨hx, hb, hml, hr, hlk, htb, hown, hnm, hts, henv, hR⟩ := hC
  obtain ⟨y, m1, rfl, rfl, hst1⟩ := mRS_l hst
  obtain ⟨x, m2, rfl, rfl, hst2⟩ := mRS_l hst1
  exact lv_ldiv hx hb hd (fun e0 => hne (by rw [e0]; first | exact i32_zero | exact i64_zero)) (kk lsA _ hL ⟨(by show mRV G _ (.long _); exact Prod.ext rfl (i64_div x y).symm), hst2⟩)) (k (chk_some hr).2)
theorem j_lrem {a b : Int} (hd : decode (mB M) pc = .ok (.lrem, 1)) {X : Option mR} (hr : chk (b ≠ 0) X = some r) (k : X = some r → mJ G M (pc + 1) ls ((1, Int.tmod a b) :: st) h r) : mJ G M pc ls ((1, b) :: (1, a) :: st) h r := by
  have hne := (chk_some hr).1
  refine j_step (fun p e R s m args below meth c H locs cells slots Q lsA mst hC hS hH hL hst hcl hsl kk => by
  obtain ⟨hx, hb, hml, hr, hlk, htb, hown, hnm, hts, henv, hR⟩ := hC
  obtain ⟨y, m1, rfl, rfl, hst1⟩ := mRS_l hst
  obtain ⟨x, m2, rfl, rfl, hst2⟩ := mRS_l hst1
  exact lv_lrem hx hb hd (fun e0 => hne (by rw [e0]; first | exact i32_zero | exact i64_zero)) (kk lsA _ hL ⟨(by show mRV G _ (.long _); exact Prod.ext rfl (i64_rem x y).symm), hst2⟩)) (k (chk_some hr).2)
theorem j_lshl {a b : Int} (hd : decode (mB M) pc = .ok (.lshl, 1)) (k : mJ G M (pc + 1) ls ((1, qlshl a b) :: st) h r) : mJ G M pc ls ((0, b) :: (1, a) :: st) h r := by
  refine j_step (fun p e R s m args below meth c H locs cells slots Q lsA mst hC hS hH hL hst hcl hsl kk => by
  obtain ⟨hx, hb, hml, hr, hlk, htb, hown, hnm, hts, henv, hR⟩ := hC
  obtain ⟨y, m1, rfl, rfl, hst1⟩ := mRS_i hst
  obtain ⟨x, m2, rfl, rfl, hst2⟩ := mRS_l hst1
  exact lv_lshl hx hb hd rfl (kk lsA _ hL ⟨(by show mRV G _ (.long _); exact Prod.ext rfl (i64_shl x y).symm), hst2⟩)) k
theorem j_lshr {a b : Int} (hd : decode (mB M) pc = .ok (.lshr, 1)) (k : mJ G M (pc + 1) ls ((1, qlshr a b) :: st) h r) : mJ G M pc ls ((0, b) :: (1, a) :: st) h r := by
  refine j_step (fun p e R s m args below meth c H locs cells slots Q lsA mst hC hS hH hL hst hcl hsl kk => by
  obtain ⟨hx, hb, hml, hr, hlk, htb, hown, hnm, hts, henv, hR⟩ := hC
  obtain ⟨y, m1, rfl, rfl, hst1⟩ := mRS_i hst
  obtain ⟨x, m2, rfl, rfl, hst2⟩ := mRS_l hst1
  exact lv_lshr hx hb hd rfl (kk lsA _ hL ⟨(by show mRV G _ (.long _); exact Prod.ext rfl (i64_shr x y).symm), hst2⟩)) k
theorem j_lcmp {a b : Int} (hd : decode (mB M) pc = .ok (.lcmp, 1)) (k : mJ G M (pc + 1) ls ((0, qlcmp a b) :: st) h r) : mJ G M pc ls ((1, b) :: (1, a) :: st) h r := by
  refine j_step (fun p e R s m args below meth c H locs cells slots Q lsA mst hC hS hH hL hst hcl hsl kk => by
  obtain ⟨hx, hb, hml, hr, hlk, htb, hown, hnm, hts, henv, hR⟩ := hC
  obtain ⟨y, m1, rfl, rfl, hst1⟩ := mRS_l hst
  obtain ⟨x, m2, rfl, rfl, hst2⟩ := mRS_l hst1
  exact W.lcmp hx hb hd (kk lsA _ hL ⟨(by show mRV G _ (.int _); exact Prod.ext rfl (i64_cmp x y).symm), hst2⟩)) k
theorem j_ineg {a : Int} (hd : decode (mB M) pc = .ok (.ineg, 1)) (k : mJ G M (pc + 1) ls ((0, w32 (-a)) :: st) h r) : mJ G M pc ls ((0, a) :: st) h r := by
  refine j_step (fun p e R s m args below meth c H locs cells slots Q lsA mst hC hS hH hL hst hcl hsl kk => by
  obtain ⟨hx, hb, hml, hr, hlk, htb, hown, hnm, hts, henv, hR⟩ := hC
  obtain ⟨x, m1, rfl, rfl, hst1⟩ := mRS_i hst
  exact lv_ineg hx hb hd (kk lsA _ hL ⟨(by show mRV G _ (.int _); exact Prod.ext rfl (i32_neg x).symm), hst1⟩)) k
theorem j_i2l {a : Int} (hd : decode (mB M) pc = .ok (.i2l, 1)) (k : mJ G M (pc + 1) ls ((1, a) :: st) h r) : mJ G M pc ls ((0, a) :: st) h r := by
  refine j_step (fun p e R s m args below meth c H locs cells slots Q lsA mst hC hS hH hL hst hcl hsl kk => by
  obtain ⟨hx, hb, hml, hr, hlk, htb, hown, hnm, hts, henv, hR⟩ := hC
  obtain ⟨x, m1, rfl, rfl, hst1⟩ := mRS_i hst
  exact lv_i2l hx hb hd rfl (kk lsA _ hL ⟨(by show mRV G _ (.long _); exact Prod.ext rfl (Int32.toInt_toInt64 x).symm), hst1⟩)) k
theorem j_l2i {a : Int} (hd : decode (mB M) pc = .ok (.l2i, 1)) (k : mJ G M (pc + 1) ls ((0, w32 a) :: st) h r) : mJ G M pc ls ((1, a) :: st) h r := by
  refine j_step (fun p e R s m args below meth c H locs cells slots Q lsA mst hC hS hH hL hst hcl hsl kk => by
  obtain ⟨hx, hb, hml, hr, hlk, htb, hown, hnm, hts, henv, hR⟩ := hC
  obtain ⟨x, m1, rfl, rfl, hst1⟩ := mRS_l hst
  exact lv_l2i hx hb hd rfl (kk lsA _ hL ⟨(by show mRV G _ (.int _); exact Prod.ext rfl (i64_l2i x).symm), hst1⟩)) k
theorem j_i2b {a : Int} (hd : decode (mB M) pc = .ok (.i2b, 1)) (k : mJ G M (pc + 1) ls ((0, w8 a) :: st) h r) : mJ G M pc ls ((0, a) :: st) h r := by
  refine j_step (fun p e R s m args below meth c H locs cells slots Q lsA mst hC hS hH hL hst hcl hsl kk => by
  obtain ⟨hx, hb, hml, hr, hlk, htb, hown, hnm, hts, henv, hR⟩ := hC
  obtain ⟨x, m1, rfl, rfl, hst1⟩ := mRS_i hst
  exact lv_i2b hx hb hd rfl (kk lsA _ hL ⟨(by show mRV G _ (.int _); exact Prod.ext rfl (i32_i2b x).symm), hst1⟩)) k
theorem j_i2s {a : Int} (hd : decode (mB M) pc = .ok (.i2s, 1)) (k : mJ G M (pc + 1) ls ((0, w16 a) :: st) h r) : mJ G M pc ls ((0, a) :: st) h r := by
  refine j_step (fun p e R s m args below meth c H locs cells slots Q lsA mst hC hS hH hL hst hcl hsl kk => by
  obtain ⟨hx, hb, hml, hr, hlk, htb, hown, hnm, hts, henv, hR⟩ := hC
  obtain ⟨x, m1, rfl, rfl, hst1⟩ := mRS_i hst
  exact lv_i2s hx hb hd rfl (kk lsA _ hL ⟨(by show mRV G _ (.int _); exact Prod.ext rfl (i32_i2s x).symm), hst1⟩)) k
theorem j_iconst {n : Int} (hd : decode (mB M) pc = .ok (.iconst n, 1)) (k : mJ G M (pc + 1) ls ((0, n) :: st) h r) (hn : -2147483648 ≤ n ∧ n < 2147483648 := by decide) : mJ G M pc ls st h r := by
  refine j_step (fun p e R s m args below meth c H locs cells slots Q lsA mst hC hS hH hL hst hcl hsl kk => by
  obtain ⟨hx, hb, hml, hr, hlk, htb, hown, hnm, hts, henv, hR⟩ := hC
  exact lv_iconst hx hb hd rfl (kk lsA _ hL ⟨(by show mRV G _ (.int _); exact Prod.ext rfl ((i32_ofInt n).trans (w32_id hn.1 hn.2)).symm), hst⟩)) k
theorem j_bipush {n : Int} (hd : decode (mB M) pc = .ok (.bipush n, 2)) (k : mJ G M (pc + 2) ls ((0, n) :: st) h r) (hn : (Int8.ofInt n).toInt32.toInt = n := by decide) : mJ G M pc ls st h r := by
  refine j_step (fun p e R s m args below meth c H locs cells slots Q lsA mst hC hS hH hL hst hcl hsl kk => by
  obtain ⟨hx, hb, hml, hr, hlk, htb, hown, hnm, hts, henv, hR⟩ := hC
  exact lv_bipush hx hb hd rfl (kk lsA _ hL ⟨(by show mRV G _ (.int _); exact Prod.ext rfl hn.symm), hst⟩)) k
theorem j_sipush {n : Int} (hd : decode (mB M) pc = .ok (.sipush n, 3)) (k : mJ G M (pc + 3) ls ((0, n) :: st) h r) (hn : (Int16.ofInt n).toInt32.toInt = n := by decide) : mJ G M pc ls st h r := by
  refine j_step (fun p e R s m args below meth c H locs cells slots Q lsA mst hC hS hH hL hst hcl hsl kk => by
  obtain ⟨hx, hb, hml, hr, hlk, htb, hown, hnm, hts, henv, hR⟩ := hC
  exact lv_sipush hx hb hd rfl (kk lsA _ hL ⟨(by show mRV G _ (.int _); exact Prod.ext rfl hn.symm), hst⟩)) k
theorem j_lconst {n : Fin 2} {z : Int} (hd : decode (mB M) pc = .ok (.lconst n, 1)) (k : mJ G M (pc + 1) ls ((1, z) :: st) h r) (hn : (Int64.ofNat (n : Nat)).toInt = z := by decide) : mJ G M pc ls st h r := by
  refine j_step (fun p e R s m args below meth c H locs cells slots Q lsA mst hC hS hH hL hst hcl hsl kk => by
  obtain ⟨hx, hb, hml, hr, hlk, htb, hown, hnm, hts, henv, hR⟩ := hC
  exact lv_lconst hx hb hd rfl (kk lsA _ hL ⟨(by show mRV G _ (.long _); exact Prod.ext rfl hn.symm), hst⟩)) k
theorem j_ldc {i : Nat} {v : Int32} {z : Int} (hd : decode (mB M) pc = .ok (.ldc i, 2)) (hc : mTB (Cond.constant (mO M) i v)) (hv : v.toInt = z) (k : mJ G M (pc + 2) ls ((0, z) :: st) h r) : mJ G M pc ls st h r := by
  refine j_step (fun p e R s m args below meth c H locs cells slots Q lsA mst hC hS hH hL hst hcl hsl kk => by
  obtain ⟨hx, hb, hml, hr, hlk, htb, hown, hnm, hts, henv, hR⟩ := hC
  exact lv_ldc hx hb hown (hts _ hc) hd (kk lsA _ hL ⟨(by show mRV G _ (.int _); exact Prod.ext rfl hv.symm), hst⟩)) k
theorem j_ldcw {i : Nat} {v : Int32} {z : Int} (hd : decode (mB M) pc = .ok (.ldc_w i, 3)) (hc : mTB (Cond.constant (mO M) i v)) (hv : v.toInt = z) (k : mJ G M (pc + 3) ls ((0, z) :: st) h r) : mJ G M pc ls st h r := by
  refine j_step (fun p e R s m args below meth c H locs cells slots Q lsA mst hC hS hH hL hst hcl hsl kk => by
  obtain ⟨hx, hb, hml, hr, hlk, htb, hown, hnm, hts, henv, hR⟩ := hC
  exact lv_ldcw hx hb hown (hts _ hc) hd (kk lsA _ hL ⟨(by show mRV G _ (.int _); exact Prod.ext rfl hv.symm), hst⟩)) k
theorem j_ldc2 {i : Nat} {v : Int64} {z : Int} (hd : decode (mB M) pc = .ok (.ldc2_w i, 3)) (hc : mTB (Cond.constantLong (mO M) i v)) (hv : v.toInt = z) (k : mJ G M (pc + 3) ls ((1, z) :: st) h r) : mJ G M pc ls st h r := by
  refine j_step (fun p e R s m args below meth c H locs cells slots Q lsA mst hC hS hH hL hst hcl hsl kk => by
  obtain ⟨hx, hb, hml, hr, hlk, htb, hown, hnm, hts, henv, hR⟩ := hC
  exact lv_ldc2 hx hb hown (hts _ hc) hd (kk lsA _ hL ⟨(by show mRV G _ (.long _); exact Prod.ext rfl hv.symm), hst⟩)) k
theorem j_iload {i : Nat} {a : Int} (hd : decode (mB M) pc = .ok (.iload i, 2)) (hl : ls[i]? = some (0, a)) (k : mJ G M (pc + 2) ls ((0, a) :: st) h r) : mJ G M pc ls st h r := by
  refine j_step (fun p e R s m args below meth c H locs cells slots Q lsA mst hC hS hH hL hst hcl hsl kk => by
  obtain ⟨hx, hb, hml, hr, hlk, htb, hown, hnm, hts, henv, hR⟩ := hC
  obtain ⟨v, hv, hq⟩ := mRL_get hL hl (Nat.le_of_ble_eq_true rfl)
  obtain ⟨x, rfl, rfl⟩ := mRV_i hq
  exact lv_iload hx hb hd hv (kk lsA _ hL ⟨hq, hst⟩)) k
theorem j_iload_n {i : Fin 4} {a : Int} (hd : decode (mB M) pc = .ok (.iload_n i, 1)) (hl : ls[(i : Nat)]? = some (0, a)) (k : mJ G M (pc + 1) ls ((0, a) :: st) h r) : mJ G M pc ls st h r := by
  refine j_step (fun p e R s m args below meth c H locs cells slots Q lsA mst hC hS hH hL hst hcl hsl kk => by
  obtain ⟨hx, hb, hml, hr, hlk, htb, hown, hnm, hts, henv, hR⟩ := hC
  obtain ⟨v, hv, hq⟩ := mRL_get hL hl (Nat.le_of_ble_eq_true rfl)
  obtain ⟨x, rfl, rfl⟩ := mRV_i hq
  exact lv_iload_n hx hb hd rfl hv (kk lsA _ hL ⟨hq, hst⟩)) k
theorem j_lload {i : Nat} {a : Int} (hd : decode (mB M) pc = .ok (.lload i, 2)) (hl : ls[i]? = some (1, a)) (k : mJ G M (pc + 2) ls ((1, a) :: st) h r) : mJ G M pc ls st h r := by
  refine j_step (fun p e R s m args below meth c H locs cells slots Q lsA mst hC hS hH hL hst hcl hsl kk => by
  obtain ⟨hx, hb, hml, hr, hlk, htb, hown, hnm, hts, henv, hR⟩ := hC
  obtain ⟨v, hv, hq⟩ := mRL_get hL hl (Nat.le_of_ble_eq_true rfl)
  obtain ⟨x, rfl, rfl⟩ := mRV_l hq
  exact lv_lload hx hb hd hv (kk lsA _ hL ⟨hq, hst⟩)) k
theorem j_lload_n {i : Fin 4} {a : Int} (hd : decode (mB M) pc = .ok (.lload_n i, 1)) (hl : ls[(i : Nat)]? = some (1, a)) (k : mJ G M (pc + 1) ls ((1, a) :: st) h r) : mJ G M pc ls st h r := by
  refine j_step (fun p e R s m args below meth c H locs cells slots Q lsA mst hC hS hH hL hst hcl hsl kk => by
  obtain ⟨hx, hb, hml, hr, hlk, htb, hown, hnm, hts, henv, hR⟩ := hC
  obtain ⟨v, hv, hq⟩ := mRL_get hL hl (Nat.le_of_ble_eq_true rfl)
  obtain ⟨x, rfl, rfl⟩ := mRV_l hq
  exact lv_lload_n hx hb hd rfl hv (kk lsA _ hL ⟨hq, hst⟩)) k
theorem j_aload {i : Nat} {a : Int} (hd : decode (mB M) pc = .ok (.aload i, 2)) (hl : ls[i]? = some (2, a)) (k : mJ G M (pc + 2) ls ((2, a) :: st) h r) : mJ G M pc ls st h r := by
  refine j_step (fun p e R s m args below meth c H locs cells slots Q lsA mst hC hS hH hL hst hcl hsl kk => by
  obtain ⟨hx, hb, hml, hr, hlk, htb, hown, hnm, hts, henv, hR⟩ := hC
  obtain ⟨v, hv, hq⟩ := mRL_get hL hl (Nat.le_of_ble_eq_true rfl)
  have hk := kk lsA (v :: mst) hL ⟨hq, hst⟩
  rcases v with x | x | x | x | - | x | x
  · exact absurd (Prod.mk.inj hq).1 (by decide)
  · exact absurd (Prod.mk.inj hq).1 (by decide)
  · exact hq.elim
  · exact hq.elim
  · exact lv_aloadN hx hb hd hv hk
  · exact lv_aload hx hb hd hv hk
  · exact hq.elim) k
theorem j_aload_n {i : Fin 4} {a : Int} (hd : decode (mB M) pc = .ok (.aload_n i, 1)) (hl : ls[(i : Nat)]? = some (2, a)) (k : mJ G M (pc + 1) ls ((2, a) :: st) h r) : mJ G M pc ls st h r := by
  refine j_step (fun p e R s m args below meth c H locs cells slots Q lsA mst hC hS hH hL hst hcl hsl kk => by
  obtain ⟨hx, hb, hml, hr, hlk, htb, hown, hnm, hts, henv, hR⟩ := hC
  obtain ⟨v, hv, hq⟩ := mRL_get hL hl (Nat.le_of_ble_eq_true rfl)
  have hk := kk lsA (v :: mst) hL ⟨hq, hst⟩
  rcases v with x | x | x | x | - | x | x
  · exact absurd (Prod.mk.inj hq).1 (by decide)
  · exact absurd (Prod.mk.inj hq).1 (by decide)
  · exact hq.elim
  · exact hq.elim
  · exact lv_aload_nN hx hb hd rfl hv hk
  · exact lv_aload_n hx hb hd rfl hv hk
  · exact hq.elim) k
theorem j_istore {i : Nat} {a : Int} (hd : decode (mB M) pc = .ok (.istore i, 2)) (he : lst1 ls i (0, a) = ls') (k : mJ G M (pc + 2) ls' st h r) (hi : i < ls.length := by exact Nat.le_of_ble_eq_true rfl) : mJ G M pc ls ((0, a) :: st) h r := by
  refine j_step (fun p e R s m args below meth c H locs cells slots Q lsA mst hC hS hH hL hst hcl hsl kk => by
  obtain ⟨hx, hb, hml, hr, hlk, htb, hown, hnm, hts, henv, hR⟩ := hC
  obtain ⟨x, m1, rfl, hxa, hst1⟩ := mRS_i hst
  obtain ⟨hlen, lst, h1, h2⟩ := hL
  exact lv_istore hx hb hd h1 (by rw [← hlen]; exact hi) rfl (fun lsB hB => kk lsB _ (mRL_st1 (lsA := lsA) hlen h2 (by show mRV G _ (.int _); exact Prod.ext rfl hxa.symm) hi he hB) hst1)) k
theorem j_istore_n {i : Fin 4} {a : Int} (hd : decode (mB M) pc = .ok (.istore_n i, 1)) (he : lst1 ls (i : Nat) (0, a) = ls') (k : mJ G M (pc + 1) ls' st h r) (hi : (i : Nat) < ls.length := by exact Nat.le_of_ble_eq_true rfl) : mJ G M pc ls ((0, a) :: st) h r := by
  refine j_step (fun p e R s m args below meth c H locs cells slots Q lsA mst hC hS hH hL hst hcl hsl kk => by
  obtain ⟨hx, hb, hml, hr, hlk, htb, hown, hnm, hts, henv, hR⟩ := hC
  obtain ⟨x, m1, rfl, hxa, hst1⟩ := mRS_i hst
  obtain ⟨hlen, lst, h1, h2⟩ := hL
  exact lv_istore_n hx hb hd rfl h1 (by rw [← hlen]; exact hi) rfl (fun lsB hB => kk lsB _ (mRL_st1 (lsA := lsA) hlen h2 (by show mRV G _ (.int _); exact Prod.ext rfl hxa.symm) hi he hB) hst1)) k
theorem j_lstore {i : Nat} {a : Int} (hd : decode (mB M) pc = .ok (.lstore i, 2)) (he : lst2 ls i (1, a) = ls') (k : mJ G M (pc + 2) ls' st h r) (hi : i + 1 < ls.length := by exact Nat.le_of_ble_eq_true rfl) : mJ G M pc ls ((1, a) :: st) h r := by
  refine j_step (fun p e R s m args below meth c H locs cells slots Q lsA mst hC hS hH hL hst hcl hsl kk => by
  obtain ⟨hx, hb, hml, hr, hlk, htb, hown, hnm, hts, henv, hR⟩ := hC
  obtain ⟨x, m1, rfl, hxa, hst1⟩ := mRS_l hst
  obtain ⟨hlen, lst, h1, h2⟩ := hL
  exact lv_lstore hx hb hd h1 (by rw [← hlen]; exact hi) rfl (fun lsB hB => kk lsB _ (mRL_st2 hlen h2 (by show mRV G _ (.long _); exact Prod.ext rfl hxa.symm) hi he hB) hst1)) k
theorem j_lstore_n {i : Fin 4} {a : Int} (hd : decode (mB M) pc = .ok (.lstore_n i, 1)) (he : lst2 ls (i : Nat) (1, a) = ls') (k : mJ G M (pc + 1) ls' st h r) (hi : (i : Nat) + 1 < ls.length := by exact Nat.le_of_ble_eq_true rfl) : mJ G M pc ls ((1, a) :: st) h r := by
  refine j_step (fun p e R s m args below meth c H locs cells slots Q lsA mst hC hS hH hL hst hcl hsl kk => by
  obtain ⟨hx, hb, hml, hr, hlk, htb, hown, hnm, hts, henv, hR⟩ := hC
  obtain ⟨x, m1, rfl, hxa, hst1⟩ := mRS_l hst
  obtain ⟨hlen, lst, h1, h2⟩ := hL
  exact lv_lstore_n hx hb hd rfl h1 (by rw [← hlen]; exact hi) rfl (fun lsB hB => kk lsB _ (mRL_st2 hlen h2 (by show mRV G _ (.long _); exact Prod.ext rfl hxa.symm) hi he hB) hst1)) k
theorem j_astore {i : Nat} {a : Int} (hd : decode (mB M) pc = .ok (.astore i, 2)) (he : lst1 ls i (2, a) = ls') (k : mJ G M (pc + 2) ls' st h r) (hi : i < ls.length := by exact Nat.le_of_ble_eq_true rfl) : mJ G M pc ls ((2, a) :: st) h r := by
  refine j_step (fun p e R s m args below meth c H locs cells slots Q lsA mst hC hS hH hL hst hcl hsl kk => by
  obtain ⟨hx, hb, hml, hr, hlk, htb, hown, hnm, hts, henv, hR⟩ := hC
  obtain ⟨v, m1, rfl, hq, hst1⟩ := mRS_c hst
  obtain ⟨hlen, lst, h1, h2⟩ := hL
  have hk := fun lsB hB => kk lsB m1 (mRL_st1 (lsA := lsA) (v := v) hlen h2 hq hi he hB) hst1
  have hi2 : i < mLo M := by rw [← hlen]; exact hi
  rcases v with x | x | x | x | - | x | x
  · exact absurd (Prod.mk.inj hq).1 (by decide)
  · exact absurd (Prod.mk.inj hq).1 (by decide)
  · exact hq.elim
  · exact hq.elim
  · exact lv_astoreN hx hb hd h1 hi2 rfl hk
  · exact lv_astore hx hb hd h1 hi2 rfl hk
  · exact hq.elim) k
theorem j_astore_n {i : Fin 4} {a : Int} (hd : decode (mB M) pc = .ok (.astore_n i, 1)) (he : lst1 ls (i : Nat) (2, a) = ls') (k : mJ G M (pc + 1) ls' st h r) (hi : (i : Nat) < ls.length := by exact Nat.le_of_ble_eq_true rfl) : mJ G M pc ls ((2, a) :: st) h r := by
  refine j_step (fun p e R s m args below meth c H locs cells slots Q lsA mst hC hS hH hL hst hcl hsl kk => by
  obtain ⟨hx, hb, hml, hr, hlk, htb, hown, hnm, hts, henv, hR⟩ := hC
  obtain ⟨v, m1, rfl, hq, hst1⟩ := mRS_c hst
  obtain ⟨hlen, lst, h1, h2⟩ := hL
  have hk := fun lsB hB => kk lsB m1 (mRL_st1 (lsA := lsA) (v := v) hlen h2 hq hi he hB) hst1
  have hi2 : (i : Nat) < mLo M := by rw [← hlen]; exact hi
  rcases v with x | x | x | x | - | x | x
  · exact absurd (Prod.mk.inj hq).1 (by decide)
  · exact absurd (Prod.mk.inj hq).1 (by decide)
  · exact hq.elim
  · exact hq.elim
  · exact lv_astore_nN hx hb hd rfl h1 hi2 rfl hk
  · exact lv_astore_n hx hb hd rfl h1 hi2 rfl hk
  · exact hq.elim) k
theorem j_iinc {i : Nat} {n a : Int} (hd : decode (mB M) pc = .ok (.iinc i n, 3)) (hl : ls[i]? = some (0, a)) (he : lst1 ls i (0, w32 (a + n)) = ls') (k : mJ G M (pc + 3) ls' st h r) (hi : i < ls.length := by exact Nat.le_of_ble_eq_true rfl) (hn : -2147483648 ≤ n ∧ n < 2147483648 := by decide) : mJ G M pc ls st h r := by
  refine j_step (fun p e R s m args below meth c H locs cells slots Q lsA mst hC hS hH hL hst hcl hsl kk => by
  obtain ⟨hx, hb, hml, hr, hlk, htb, hown, hnm, hts, henv, hR⟩ := hC
  obtain ⟨hlen, lst, h1, h2⟩ := hL
  obtain ⟨v, h3, h4⟩ := h2 i _ hl (Nat.le_of_ble_eq_true rfl)
  obtain ⟨x, rfl, rfl⟩ := mRV_i h4
  obtain ⟨kx, hkx⟩ := List.getElem?_of_mem h3
  exact lv_iinc hx hb hd h1 hkx rfl (by rw [← hlen]; exact hi) rfl (fun lsB hB => kk lsB _ (mRL_st1 (lsA := lsA) hlen h2 (by show mRV G _ (.int _); refine Prod.ext rfl ?_; rw [i32_add, i32_ofInt, w32_id hn.1 hn.2]) hi he hB) hst)) k
theorem j_dup {q : mV} (hd : decode (mB M) pc = .ok (.dup, 1)) (k : mJ G M (pc + 1) ls (q :: q :: st) h r) (hq : Nat.beq q.1 1 = false := by rfl) : mJ G M pc ls (q :: st) h r := by
  refine j_step (fun p e R s m args below meth c H locs cells slots Q lsA mst hC hS hH hL hst hcl hsl kk => by
  obtain ⟨hx, hb, hml, hr, hlk, htb, hown, hnm, hts, henv, hR⟩ := hC
  obtain ⟨v, m1, rfl, h1, hst1⟩ := mRS_c hst
  exact lv_dup hx hb hd (by rw [mRV_cat h1, if_neg (Nat.ne_of_beq_eq_false hq)]) (kk lsA _ hL ⟨h1, h1, hst1⟩)) k
theorem j_pop {q : mV} (hd : decode (mB M) pc = .ok (.pop, 1)) (k : mJ G M (pc + 1) ls st h r) (hq : Nat.beq q.1 1 = false := by rfl) : mJ G M pc ls (q :: st) h r := by
  refine j_step (fun p e R s m args below meth c H locs cells slots Q lsA mst hC hS hH hL hst hcl hsl kk => by
  obtain ⟨hx, hb, hml, hr, hlk, htb, hown, hnm, hts, henv, hR⟩ := hC
  obtain ⟨v, m1, rfl, h1, hst1⟩ := mRS_c hst
  exact lv_pop hx hb hd (by rw [mRV_cat h1, if_neg (Nat.ne_of_beq_eq_false hq)]) (kk lsA _ hL hst1)) k
theorem j_pop2 {q : mV} (hd : decode (mB M) pc = .ok (.pop2, 1)) (k : mJ G M (pc + 1) ls st h r) (hq : q.1 = 1 := by rfl) : mJ G M pc ls (q :: st) h r := by
  refine j_step (fun p e R s m args below meth c H locs cells slots Q lsA mst hC hS hH hL hst hcl hsl kk => by
  obtain ⟨hx, hb, hml, hr, hlk, htb, hown, hnm, hts, henv, hR⟩ := hC
  obtain ⟨v, m1, rfl, h1, hst1⟩ := mRS_c hst
  exact lv_pop2_2 hx hb hd (by rw [mRV_cat h1, if_pos hq]) (kk lsA _ hL hst1)) k
theorem j_dup2 {q q2 : mV} (hd : decode (mB M) pc = .ok (.dup2, 1)) (k : mJ G M (pc + 1) ls (q :: q2 :: q :: q2 :: st) h r) (hq : Nat.beq q.1 1 = false := by rfl) (hq2 : Nat.beq q2.1 1 = false := by rfl) : mJ G M pc ls (q :: q2 :: st) h r := by
  refine j_step (fun p e R s m args below meth c H locs cells slots Q lsA mst hC hS hH hL hst hcl hsl kk => by
  obtain ⟨hx, hb, hml, hr, hlk, htb, hown, hnm, hts, henv, hR⟩ := hC
  obtain ⟨v, m1, rfl, h1, hst1⟩ := mRS_c hst
  obtain ⟨u, m2, rfl, h2, hst2⟩ := mRS_c hst1
  exact lv_dup2_11 hx hb hd (by rw [mRV_cat h1, if_neg (Nat.ne_of_beq_eq_false hq)]) (by rw [mRV_cat h2, if_neg (Nat.ne_of_beq_eq_false hq2)]) (kk lsA _ hL ⟨h1, h2, h1, h2, hst2⟩)) k
theorem j_goto {off : Int} {tgt : Nat} (hd : decode (mB M) pc = .ok (.goto off, 3)) (k : mJ G M tgt ls st h r) (ht : (pc : Int) + off = (tgt : Int) := by decide) : mJ G M pc ls st h r := by
  refine j_step (fun p e R s m args below meth c H locs cells slots Q lsA mst hC hS hH hL hst hcl hsl kk => by
  obtain ⟨hx, hb, hml, hr, hlk, htb, hown, hnm, hts, henv, hR⟩ := hC
  exact lv_goto hx hb hd ht (kk lsA _ hL hst)) k
theorem j_if_eq {a off : Int} {tgt : Nat} {A B : Option mR} (hd : decode (mB M) pc = .ok (.ifCond .eq off, 3)) (hr : (if a = 0 then A else B) = some r) (kt : A = some r → mJ G M tgt ls st h r) (kf : B = some r → mJ G M (pc + 3) ls st h r) (ht : (pc : Int) + off = (tgt : Int) := by decide) : mJ G M pc ls ((0, a) :: st) h r := by
  refine j_br hr (fun p e R s m args below meth c H locs cells slots Q lsA mst hC hst => by
    obtain ⟨hx, hb, hml, hr1, hlk, htb, hown, hnm, hts, henv, hR⟩ := hC
    obtain ⟨x, m1, rfl, rfl, hst1⟩ := mRS_i hst
    have hcv : (x = 0) ↔ (x.toInt = 0) := (Int32.toInt_inj (x := x) (y := 0)).symm.trans (by rw [i32_zero])
    exact ⟨m1, hst1, fun k1 k2 => lv_if_eq hx hb hd ht (fun z => k1 (hcv.mp z)) (fun z => k2 (fun y => z (hcv.mpr y)))⟩) kt kf
theorem j_if_ne {a off : Int} {tgt : Nat} {A B : Option mR} (hd : decode (mB M) pc = .ok (.ifCond .ne off, 3)) (hr : (if a = 0 then B else A) = some r) (kt : A = some r → mJ G M tgt ls st h r) (kf : B = some r → mJ G M (pc + 3) ls st h r) (ht : (pc : Int) + off = (tgt : Int) := by decide) : mJ G M pc ls ((0, a) :: st) h r := by
  refine j_br hr (fun p e R s m args below meth c H locs cells slots Q lsA mst hC hst => by
    obtain ⟨hx, hb, hml, hr1, hlk, htb, hown, hnm, hts, henv, hR⟩ := hC
    obtain ⟨x, m1, rfl, rfl, hst1⟩ := mRS_i hst
    have hcv : (x = 0) ↔ (x.toInt = 0) := (Int32.toInt_inj (x := x) (y := 0)).symm.trans (by rw [i32_zero])
    exact ⟨m1, hst1, fun k1 k2 => lv_if_ne hx hb hd ht (fun z => k2 (fun y => z (hcv.mpr y))) (fun z => k1 (hcv.mp z))⟩) kf kt
theorem j_if_lt {a off : Int} {tgt : Nat} {A B : Option mR} (hd : decode (mB M) pc = .ok (.ifCond .lt off, 3)) (hr : (if a < 0 then A else B) = some r) (kt : A = some r → mJ G M tgt ls st h r) (kf : B = some r → mJ G M (pc + 3) ls st h r) (ht : (pc : Int) + off = (tgt : Int) := by decide) : mJ G M pc ls ((0, a) :: st) h r := by
  refine j_br hr (fun p e R s m args below meth c H locs cells slots Q lsA mst hC hst => by
    obtain ⟨hx, hb, hml, hr1, hlk, htb, hown, hnm, hts, henv, hR⟩ := hC
    obtain ⟨x, m1, rfl, rfl, hst1⟩ := mRS_i hst
    have hcv : (x < 0) ↔ (x.toInt < 0) := Int32.lt_iff_toInt_lt.trans (by rw [i32_zero])
    exact ⟨m1, hst1, fun k1 k2 => lv_if_lt hx hb hd ht (fun z => k1 (hcv.mp z)) (fun z => k2 (fun y => z (hcv.mpr y)))⟩) kt kf
theorem j_if_ge {a off : Int} {tgt : Nat} {A B : Option mR} (hd : decode (mB M) pc = .ok (.ifCond .ge off, 3)) (hr : (if 0 ≤ a then A else B) = some r) (kt : A = some r → mJ G M tgt ls st h r) (kf : B = some r → mJ G M (pc + 3) ls st h r) (ht : (pc : Int) + off = (tgt : Int) := by decide) : mJ G M pc ls ((0, a) :: st) h r := by
  refine j_br hr (fun p e R s m args below meth c H locs cells slots Q lsA mst hC hst => by
    obtain ⟨hx, hb, hml, hr1, hlk, htb, hown, hnm, hts, henv, hR⟩ := hC
    obtain ⟨x, m1, rfl, rfl, hst1⟩ := mRS_i hst
    have hcv : (0 ≤ x) ↔ (0 ≤ x.toInt) := Int32.le_iff_toInt_le.trans (by rw [i32_zero])
    exact ⟨m1, hst1, fun k1 k2 => lv_if_ge hx hb hd ht (fun z => k1 (hcv.mp z)) (fun z => k2 (fun y => z (hcv.mpr y)))⟩) kt kf
theorem j_if_gt {a off : Int} {tgt : Nat} {A B : Option mR} (hd : decode (mB M) pc = .ok (.ifCond .gt off, 3)) (hr : (if 0 < a then A else B) = some r) (kt : A = some r → mJ G M tgt ls st h r) (kf : B = some r → mJ G M (pc + 3) ls st h r) (ht : (pc : Int) + off = (tgt : Int) := by decide) : mJ G M pc ls ((0, a) :: st) h r := by
  refine j_br hr (fun p e R s m args below meth c H locs cells slots Q lsA mst hC hst => by
    obtain ⟨hx, hb, hml, hr1, hlk, htb, hown, hnm, hts, henv, hR⟩ := hC
    obtain ⟨x, m1, rfl, rfl, hst1⟩ := mRS_i hst
    have hcv : (0 < x) ↔ (0 < x.toInt) := Int32.lt_iff_toInt_lt.trans (by rw [i32_zero])
    exact ⟨m1, hst1, fun k1 k2 => lv_if_gt hx hb hd ht (fun z => k1 (hcv.mp z)) (fun z => k2 (fun y => z (hcv.mpr y)))⟩) kt kf
theorem j_if_le {a off : Int} {tgt : Nat} {A B : Option mR} (hd : decode (mB M) pc = .ok (.ifCond .le off, 3)) (hr : (if a ≤ 0 then A else B) = some r) (kt : A = some r → mJ G M tgt ls st h r) (kf : B = some r → mJ G M (pc + 3) ls st h r) (ht : (pc : Int) + off = (tgt : Int) := by decide) : mJ G M pc ls ((0, a) :: st) h r := by
  refine j_br hr (fun p e R s m args below meth c H locs cells slots Q lsA mst hC hst => by
    obtain ⟨hx, hb, hml, hr1, hlk, htb, hown, hnm, hts, henv, hR⟩ := hC
    obtain ⟨x, m1, rfl, rfl, hst1⟩ := mRS_i hst
    have hcv : (x ≤ 0) ↔ (x.toInt ≤ 0) := Int32.le_iff_toInt_le.trans (by rw [i32_zero])
    exact ⟨m1, hst1, fun k1 k2 => lv_if_le hx hb hd ht (fun z => k1 (hcv.mp z)) (fun z => k2 (fun y => z (hcv.mpr y)))⟩) kt kf
theorem j_icmp_eq {a b off : Int} {tgt : Nat} {A B : Option mR} (hd : decode (mB M) pc = .ok (.if_icmp .eq off, 3)) (hr : (if a = b then A else B) = some r) (kt : A = some r → mJ G M tgt ls st h r) (kf : B = some r → mJ G M (pc + 3) ls st h r) (ht : (pc : Int) + off = (tgt : Int) := by decide) : mJ G M pc ls ((0, b) :: (0, a) :: st) h r := by
  refine j_br hr (fun p e R s m args below meth c H locs cells slots Q lsA mst hC hst => by
    obtain ⟨hx, hb, hml, hr1, hlk, htb, hown, hnm, hts, henv, hR⟩ := hC
    obtain ⟨y, m1, rfl, rfl, hst1⟩ := mRS_i hst
    obtain ⟨x, m2, rfl, rfl, hst2⟩ := mRS_i hst1
    have hcv : (x = y) ↔ (x.toInt = y.toInt) := Int32.toInt_inj.symm
    exact ⟨m2, hst2, fun k1 k2 => lv_icmp_eq hx hb hd ht (fun z => k1 (hcv.mp z)) (fun z => k2 (fun y => z (hcv.mpr y)))⟩) kt kf
theorem j_icmp_ne {a b off : Int} {tgt : Nat} {A B : Option mR} (hd : decode (mB M) pc = .ok (.if_icmp .ne off, 3)) (hr : (if a = b then B else A) = some r) (kt : A = some r → mJ G M tgt ls st h r) (kf : B = some r → mJ G M (pc + 3) ls st h r) (ht : (pc : Int) + off = (tgt : Int) := by decide) : mJ G M pc ls ((0, b) :: (0, a) :: st) h r := by
  refine j_br hr (fun p e R s m args below meth c H locs cells slots Q lsA mst hC hst => by
    obtain ⟨hx, hb, hml, hr1, hlk, htb, hown, hnm, hts, henv, hR⟩ := hC
    obtain ⟨y, m1, rfl, rfl, hst1⟩ := mRS_i hst
    obtain ⟨x, m2, rfl, rfl, hst2⟩ := mRS_i hst1
    have hcv : (x = y) ↔ (x.toInt = y.toInt) := Int32.toInt_inj.symm
    exact ⟨m2, hst2, fun k1 k2 => lv_icmp_ne hx hb hd ht (fun z => k2 (fun y => z (hcv.mpr y))) (fun z => k1 (hcv.mp z))⟩) kf kt
theorem j_icmp_lt {a b off : Int} {tgt : Nat} {A B : Option mR} (hd : decode (mB M) pc = .ok (.if_icmp .lt off, 3)) (hr : (if a < b then A else B) = some r) (kt : A = some r → mJ G M tgt ls st h r) (kf : B = some r → mJ G M (pc + 3) ls st h r) (ht : (pc : Int) + off = (tgt : Int) := by decide) : mJ G M pc ls ((0, b) :: (0, a) :: st) h r := by
  refine j_br hr (fun p e R s m args below meth c H locs cells slots Q lsA mst hC hst => by
    obtain ⟨hx, hb, hml, hr1, hlk, htb, hown, hnm, hts, henv, hR⟩ := hC
    obtain ⟨y, m1, rfl, rfl, hst1⟩ := mRS_i hst
    obtain ⟨x, m2, rfl, rfl, hst2⟩ := mRS_i hst1
    have hcv : (x < y) ↔ (x.toInt < y.toInt) := Int32.lt_iff_toInt_lt
    exact ⟨m2, hst2, fun k1 k2 => lv_icmp_lt hx hb hd ht (fun z => k1 (hcv.mp z)) (fun z => k2 (fun y => z (hcv.mpr y)))⟩) kt kf
theorem j_icmp_ge {a b off : Int} {tgt : Nat} {A B : Option mR} (hd : decode (mB M) pc = .ok (.if_icmp .ge off, 3)) (hr : (if b ≤ a then A else B) = some r) (kt : A = some r → mJ G M tgt ls st h r) (kf : B = some r → mJ G M (pc + 3) ls st h r) (ht : (pc : Int) + off = (tgt : Int) := by decide) : mJ G M pc ls ((0, b) :: (0, a) :: st) h r := by
  refine j_br hr (fun p e R s m args below meth c H locs cells slots Q lsA mst hC hst => by
    obtain ⟨hx, hb, hml, hr1, hlk, htb, hown, hnm, hts, henv, hR⟩ := hC
    obtain ⟨y, m1, rfl, rfl, hst1⟩ := mRS_i hst
    obtain ⟨x, m2, rfl, rfl, hst2⟩ := mRS_i hst1
    have hcv : (y ≤ x) ↔ (y.toInt ≤ x.toInt) := Int32.le_iff_toInt_le
    exact ⟨m2, hst2, fun k1 k2 => lv_icmp_ge hx hb hd ht (fun z => k1 (hcv.mp z)) (fun z => k2 (fun y => z (hcv.mpr y)))⟩) kt kf
theorem j_icmp_gt {a b off : Int} {tgt : Nat} {A B : Option mR} (hd : decode (mB M) pc = .ok (.if_icmp .gt off, 3)) (hr : (if b < a then A else B) = some r) (kt : A = some r → mJ G M tgt ls st h r) (kf : B = some r → mJ G M (pc + 3) ls st h r) (ht : (pc : Int) + off = (tgt : Int) := by decide) : mJ G M pc ls ((0, b) :: (0, a) :: st) h r := by
  refine j_br hr (fun p e R s m args below meth c H locs cells slots Q lsA mst hC hst => by
    obtain ⟨hx, hb, hml, hr1, hlk, htb, hown, hnm, hts, henv, hR⟩ := hC
    obtain ⟨y, m1, rfl, rfl, hst1⟩ := mRS_i hst
    obtain ⟨x, m2, rfl, rfl, hst2⟩ := mRS_i hst1
    have hcv : (y < x) ↔ (y.toInt < x.toInt) := Int32.lt_iff_toInt_lt
    exact ⟨m2, hst2, fun k1 k2 => lv_icmp_gt hx hb hd ht (fun z => k1 (hcv.mp z)) (fun z => k2 (fun y => z (hcv.mpr y)))⟩) kt kf
theorem j_icmp_le {a b off : Int} {tgt : Nat} {A B : Option mR} (hd : decode (mB M) pc = .ok (.if_icmp .le off, 3)) (hr : (if a ≤ b then A else B) = some r) (kt : A = some r → mJ G M tgt ls st h r) (kf : B = some r → mJ G M (pc + 3) ls st h r) (ht : (pc : Int) + off = (tgt : Int) := by decide) : mJ G M pc ls ((0, b) :: (0, a) :: st) h r := by
  refine j_br hr (fun p e R s m args below meth c H locs cells slots Q lsA mst hC hst => by
    obtain ⟨hx, hb, hml, hr1, hlk, htb, hown, hnm, hts, henv, hR⟩ := hC
    obtain ⟨y, m1, rfl, rfl, hst1⟩ := mRS_i hst
    obtain ⟨x, m2, rfl, rfl, hst2⟩ := mRS_i hst1
    have hcv : (x ≤ y) ↔ (x.toInt ≤ y.toInt) := Int32.le_iff_toInt_le
    exact ⟨m2, hst2, fun k1 k2 => lv_icmp_le hx hb hd ht (fun z => k1 (hcv.mp z)) (fun z => k2 (fun y => z (hcv.mpr y)))⟩) kt kf
theorem j_ifnonnull {a off : Int} {tgt : Nat} {A B : Option mR} (hd : decode (mB M) pc = .ok (.ifnonnull off, 3)) (hr : (if a = 0 then B else A) = some r) (kt : A = some r → mJ G M tgt ls st h r) (kf : B = some r → mJ G M (pc + 3) ls st h r) (ht : (pc : Int) + off = (tgt : Int) := by decide) : mJ G M pc ls ((2, a) :: st) h r := by
  refine j_br hr (fun p e R s m args below meth c H locs cells slots Q lsA mst hC hst => by
    obtain ⟨hx, hb, hml, hr1, hlk, htb, hown, hnm, hts, henv, hR⟩ := hC
    obtain ⟨m1, rfl, hst1⟩ := mRS_r hst
    refine ⟨m1, hst1, fun k1 k2 => ?_⟩
    by_cases ha : a = 0
    · subst ha
      exact lv_ifnonnullN hx hb hd (k1 rfl)
    · have h9 : ∃ q, mr G a = .ref q := by unfold mr; rw [if_neg ha]; split <;> exact ⟨_, rfl⟩
      obtain ⟨q, hq⟩ := h9
      rw [hq]
      exact lv_ifnonnull hx hb hd ht (k2 ha)) kf kt
theorem j_tabIn {a dflt lo hi off : Int} {offs : Array Int} {len tgt : Nat} (hd : decode (mB M) pc = .ok (.tableswitch dflt lo hi offs, len)) (h1 : ¬ a < lo) (h2 : ¬ hi < a) (ho : offs[(a - lo).toNat]? = some off) (ht : (pc : Int) + off = (tgt : Int)) (k : mJ G M tgt ls st h r) : mJ G M pc ls ((0, a) :: st) h r := by
  refine j_step (fun p e R s m args below meth c H locs cells slots Q lsA mst hC hS hH hL hst hcl hsl kk => by
  obtain ⟨hx, hb, hml, hr, hlk, htb, hown, hnm, hts, henv, hR⟩ := hC
  obtain ⟨x, m1, rfl, rfl, hst1⟩ := mRS_i hst
  exact lv_tableIn hx hb hd h1 h2 ho ht (kk lsA _ hL hst1)) k
theorem j_tabOut {a dflt lo hi : Int} {offs : Array Int} {len tgt : Nat} (hd : decode (mB M) pc = .ok (.tableswitch dflt lo hi offs, len)) (h1 : a < lo ∨ hi < a) (ht : (pc : Int) + dflt = (tgt : Int)) (k : mJ G M tgt ls st h r) : mJ G M pc ls ((0, a) :: st) h r := by
  refine j_step (fun p e R s m args below meth c H locs cells slots Q lsA mst hC hS hH hL hst hcl hsl kk => by
  obtain ⟨hx, hb, hml, hr, hlk, htb, hown, hnm, hts, henv, hR⟩ := hC
  obtain ⟨x, m1, rfl, rfl, hst1⟩ := mRS_i hst
  exact lv_tableOut hx hb hd h1 ht (kk lsA _ hL hst1)) k
end
