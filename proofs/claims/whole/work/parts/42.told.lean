/-! NUMBERS OF A TOLD BOX: t is the reference's row of it -/
abbrev tT : Type := Int → Int
def nb (t : tT) : Int := t 1
def nr (t : tT) : Int := t 2
def ne (t : tT) : Int := t 3
def we (t : tT) : Int := t 4
def pl (t : tT) (b : Int) : Int := t (5 + 4 * b)
def pa (t : tT) (b : Int) : Int := t (6 + 4 * b)
def po (t : tT) (b : Int) : Int := t (7 + 4 * b)
def md (t : tT) (b : Int) : Int := t (8 + 4 * b)
def ps (t : tT) (b : Int) : Int := t (425 + b)
def rb (t : tT) (r : Int) : Int := t (41 + 16 * r)
def rf (t : tT) (r : Int) : Int := t (42 + 16 * r)
def rt (t : tT) (r : Int) : Int := t (43 + 16 * r)
def rn (t : tT) (r : Int) : Int := t (44 + 16 * r)
def fb (t : tT) (r f : Int) : Int := t (45 + 16 * r + 3 * f)
def fn (t : tT) (r f : Int) : Int := t (46 + 16 * r + 3 * f)
def fp (t : tT) (r f : Int) : Int := t (47 + 16 * r + 3 * f)
/-- what is fixed as it is told -/
def WS (t : tT) : Prop := (0 ≤ nb t ∧ nb t ≤ 9) ∧ (0 ≤ nr t ∧ nr t ≤ 24) ∧ (0 ≤ ne t ∧ ne t ≤ 9) ∧ (0 ≤ we t ∧ we t ≤ 99) ∧ (0 ≤ t 0 ∧ t 0 ≤ 1000) ∧
  (∀ b, 0 ≤ b → b < nb t → 2 ≤ pl t b ∧ pl t b ≤ 4 ∧ 0 ≤ po t b ∧ po t b < pl t b ∧ 0 ≤ ps t b ∧ ps t b < pl t b) ∧
  (∀ r, 0 ≤ r → r < nr t → (0 ≤ rb t r ∧ rb t r < nb t) ∧ (0 ≤ rf t r ∧ rf t r < pl t (rb t r)) ∧ (0 ≤ rt t r ∧ rt t r < pl t (rb t r)) ∧ (rt t r = rf t r + 1 ∨ rt t r = rf t r - 1) ∧ (0 ≤ rn t r ∧ rn t r ≤ 4) ∧
    ∀ f, 0 ≤ f → f < rn t r → (0 ≤ fb t r f ∧ fb t r f < nb t) ∧ (fn t r f = 0 ∨ fn t r f = 1) ∧ (0 ≤ fp t r f ∧ fp t r f < 4))
/-- a row of places -/
def RW (t : tT) (row : Int → Int) : Prop := ∀ b, 0 ≤ b → b < nb t → 0 ≤ row b ∧ row b < pl t b
def WD (t : tT) (m : Int) : Prop := RW t (pa t) ∧ ∀ b, 0 ≤ b → b < nb t → 0 ≤ md t b ∧ md t b ≤ m
def pw (t : tT) : Nat → Int
  | 0 => 1
  | n + 1 => pw t n * pl t n
def sd (t : tT) (row : Int → Int) : Nat → Int
  | 0 => 0
  | n + 1 => sd t row n + row n * pw t n
def wg (t : tT) (b : Int) : Int := pw t b.toNat
def nS (t : tT) : Int := pw t (nb t).toNat
def st (t : tT) (row : Int → Int) : Int := sd t row (nb t).toNat
def dg (t : tT) (s b : Int) : Int := s / wg t b % pl t b
def PP (t : tT) (n : Nat) : Prop := ∀ k : Nat, k < n → 2 ≤ pl t k ∧ pl t k ≤ 4
theorem WS.pp {t : tT} (W : WS t) : PP t (nb t).toNat := fun k hk => by
  have := W.2.2.2.2.2.1 (k : Int) (by omega) (by omega)
  exact ⟨this.1, this.2.1⟩
theorem PP.mono {t : tT} {m n : Nat} (h : PP t n) (hm : m ≤ n) : PP t m := fun k hk => h k (by omega)
theorem pw_pos {t : tT} : ∀ {n : Nat}, PP t n → 1 ≤ pw t n
  | 0, _ => Int.le_refl _
  | n + 1, h => by
    have h1 := pw_pos (h.mono (Nat.le_succ n))
    have h2 := h n (Nat.lt_succ_self n)
    show 1 ≤ pw t n * pl t n
    have := Int.mul_le_mul h1 (show (1 : Int) ≤ pl t n by omega) (by omega) (by omega)
    omega
theorem pw_le {t : tT} : ∀ {n : Nat}, PP t n → pw t n ≤ 4 ^ n
  | 0, _ => Int.le_refl _
  | n + 1, h => by
    have h1 := pw_le (h.mono (Nat.le_succ n))
    have h2 := h n (Nat.lt_succ_self n)
    have h3 := pw_pos (h.mono (Nat.le_succ n))
    show pw t n * pl t n ≤ 4 ^ (n + 1)
    rw [Int.pow_succ]
    exact Int.mul_le_mul h1 h2.2 (by omega) (Int.le_of_lt (Int.pow_pos (by decide)))
theorem pw_lt {t : tT} {n : Nat} (h : PP t (n + 1)) : 2 * pw t n ≤ pw t (n + 1) := by
  have h1 := pw_pos (h.mono (Nat.le_succ n))
  have h2 := h n (Nat.lt_succ_self n)
  show 2 * pw t n ≤ pw t n * pl t n
  rw [Int.mul_comm 2]
  exact Int.mul_le_mul_of_nonneg_left h2.1 (by omega)
theorem pw_dvd {t : tT} : ∀ {m n : Nat}, m ≤ n → ∃ q, pw t n = pw t m * q
  | m, 0, h => ⟨1, by rw [show m = 0 by omega]; rfl⟩
  | m, n + 1, h => by
    by_cases e : m = n + 1
    · exact ⟨1, by rw [e, Int.mul_one]⟩
    · obtain ⟨q, hq⟩ := pw_dvd (t := t) (show m ≤ n by omega)
      exact ⟨q * pl t n, by show pw t n * pl t n = _; rw [hq, Int.mul_assoc]⟩
theorem pw_mono {t : tT} : ∀ {m n : Nat}, PP t n → m ≤ n → pw t m ≤ pw t n
  | m, 0, _, h => by rw [show m = 0 by omega]; exact Int.le_refl _
  | m, n + 1, P, h => by
    by_cases e : m = n + 1
    · rw [e]; exact Int.le_refl _
    · have h1 := pw_mono (P.mono (Nat.le_succ n)) (show m ≤ n by omega)
      have h2 := pw_lt P
      have h3 := pw_pos (P.mono (Nat.le_succ n))
      omega
theorem pw_lt_lt {t : tT} {m n : Nat} (P : PP t n) (h : m < n) : pw t m < pw t n := by
  have h1 := pw_mono P (show m + 1 ≤ n by omega)
  have h2 := pw_lt (P.mono (show m + 1 ≤ n by omega))
  have h3 := pw_pos (P.mono (show m ≤ n by omega))
  omega
/-- a row's number, and back -/
def RN (t : tT) (row : Int → Int) (n : Nat) : Prop := ∀ k : Nat, k < n → 0 ≤ row k ∧ row k < pl t k
theorem RW.rn {t : tT} {row : Int → Int} (h : RW t row) : RN t row (nb t).toNat := fun k hk => h k (by omega) (by omega)
theorem sd_rng {t : tT} {row : Int → Int} : ∀ {n : Nat}, PP t n → RN t row n → 0 ≤ sd t row n ∧ sd t row n < pw t n
  | 0, _, _ => ⟨Int.le_refl _, by show (0 : Int) < 1; decide⟩
  | n + 1, P, R => by
    have h1 := sd_rng (P.mono (Nat.le_succ n)) (fun k hk => R k (by omega))
    have h2 := R n (Nat.lt_succ_self n)
    have h3 := pw_pos (P.mono (Nat.le_succ n))
    show 0 ≤ sd t row n + row n * pw t n ∧ sd t row n + row n * pw t n < pw t n * pl t n
    have h4 : 0 ≤ row n * pw t n := Int.mul_nonneg h2.1 (by omega)
    have h5 : (row n + 1) * pw t n ≤ pl t n * pw t n := Int.mul_le_mul_of_nonneg_right (by omega) (by omega)
    rw [Int.add_mul, Int.one_mul, Int.mul_comm (pl t n)] at h5
    omega
theorem sd_split {t : tT} {row : Int → Int} : ∀ {m n : Nat}, m ≤ n → ∃ q, sd t row n = sd t row m + pw t m * q
  | m, 0, h => ⟨0, by rw [show m = 0 by omega]; simp⟩
  | m, n + 1, h => by
    by_cases e : m = n + 1
    · exact ⟨0, by rw [e]; simp⟩
    · obtain ⟨q, hq⟩ := sd_split (t := t) (row := row) (show m ≤ n by omega)
      obtain ⟨u, hu⟩ := pw_dvd (t := t) (show m ≤ n by omega)
      refine ⟨q + row n * u, ?_⟩
      show sd t row n + row n * pw t n = _
      rw [hq, hu, Int.mul_add, Int.add_assoc, Int.mul_left_comm]
theorem sd_dig {t : tT} {row : Int → Int} {n : Nat} (P : PP t n) (R : RN t row n) {b : Nat} (hb : b < n) : sd t row n / pw t b % pl t b = row b := by
  obtain ⟨q, hq⟩ := sd_split (t := t) (row := row) (show b + 1 ≤ n by omega)
  have h1 := sd_rng (P.mono (show b ≤ n by omega)) (fun k hk => R k (by omega))
  have h2 := R b hb
  have h3 := pw_pos (P.mono (show b ≤ n by omega))
  rw [hq]
  show (sd t row b + row b * pw t b + pw t b * pl t b * q) / pw t b % pl t b = row b
  rw [show sd t row b + row b * pw t b + pw t b * pl t b * q = sd t row b + pw t b * (row b + pl t b * q) by
    rw [Int.mul_add, Int.mul_assoc, Int.mul_comm (row b)]; omega]
  rw [Int.add_mul_ediv_left _ _ (by omega), Int.ediv_eq_zero_of_lt h1.1 h1.2, Int.zero_add, Int.add_mul_emod_self_left]
  exact Int.emod_eq_of_lt h2.1 h2.2
theorem dg_rng {t : tT} {s b : Int} (h : 2 ≤ pl t b) : 0 ≤ dg t s b ∧ dg t s b < pl t b := ⟨Int.emod_nonneg _ (by omega), Int.emod_lt_of_pos _ (by omega)⟩
theorem emod_mul' {s a b : Int} (ha : 0 ≤ a) : s % (a * b) = s % a + s / a % b * a := by
  have h1 := Int.ediv_ediv_of_nonneg (x := s) (z := b) ha
  have h2 := Int.emod_def s (a * b)
  have h3 := Int.emod_def s a
  have h4 := Int.emod_def (s / a) b
  rw [h2, h3, h4, ← h1, Int.sub_mul, Int.mul_comm (s / a) a, Int.mul_assoc a b, Int.mul_comm (b * (s / a / b)) a]
  omega
theorem sd_dg {t : tT} {s : Int} : ∀ {n : Nat}, PP t n → sd t (dg t s) n = s % pw t n
  | 0, _ => by show (0 : Int) = s % 1; omega
  | n + 1, P => by
    have h3 := pw_pos (P.mono (Nat.le_succ n))
    show sd t (dg t s) n + dg t s n * pw t n = s % (pw t n * pl t n)
    rw [sd_dg (P.mono (Nat.le_succ n)), emod_mul' (by omega)]
    rfl
theorem st_dg {t : tT} (W : WS t) {s : Int} (h0 : 0 ≤ s) (h1 : s < nS t) : st t (dg t s) = s := by
  unfold st; rw [sd_dg W.pp]; exact Int.emod_eq_of_lt h0 h1
theorem dg_st {t : tT} (W : WS t) {row : Int → Int} (R : RW t row) {b : Int} (h0 : 0 ≤ b) (h1 : b < nb t) : dg t (st t row) b = row b := by
  have := sd_dig (b := b.toNat) W.pp R.rn (by omega)
  rw [show ((b.toNat : Nat) : Int) = b by omega] at this
  exact this
theorem st_rng {t : tT} (W : WS t) {row : Int → Int} (R : RW t row) : 0 ≤ st t row ∧ st t row < nS t := sd_rng W.pp R.rn
theorem dg_rw {t : tT} (W : WS t) (s : Int) : RW t (dg t s) := fun b h0 h1 => dg_rng (W.2.2.2.2.2.1 b h0 h1).1
theorem sd_upd {t : tT} {row : Int → Int} {b x : Int} : ∀ {n : Nat}, 0 ≤ b → b < n → sd t (fun j => if j = b then x else row j) n = sd t row n + (x - row b) * wg t b
  | 0, h0, h1 => absurd h1 (by omega)
  | n + 1, h0, h1 => by
    show sd t _ n + _ * pw t n = sd t row n + row n * pw t n + _
    by_cases e : b = n
    · subst e
      dsimp only
      rw [if_pos rfl]
      have : sd t (fun j => if j = (n : Int) then x else row j) n = sd t row n := by
        have H : ∀ m : Nat, m ≤ n → sd t (fun j => if j = (n : Int) then x else row j) m = sd t row m := by
          intro m
          induction m with
          | zero => intro _; rfl
          | succ m ih =>
            intro hm
            show sd t _ m + _ * pw t m = _ + _
            dsimp only
            rw [ih (by omega), if_neg (by omega)]
        exact H n (Nat.le_refl _)
      rw [this, Int.sub_mul]
      unfold wg
      rw [Int.toNat_natCast]
      omega
    · rw [sd_upd h0 (by omega)]
      dsimp only
      rw [if_neg (by omega)]
      omega
theorem st_upd {t : tT} {row : Int → Int} {b x : Int} (h0 : 0 ≤ b) (h1 : b < nb t) : st t (fun j => if j = b then x else row j) = st t row + (x - row b) * wg t b := sd_upd h0 (by omega)
theorem nS_rng {t : tT} (W : WS t) : 1 ≤ nS t ∧ nS t ≤ 262144 := by
  refine ⟨pw_pos W.pp, ?_⟩
  have h1 := pw_le W.pp
  have h2 : (4 : Int) ^ (nb t).toNat ≤ 4 ^ 9 := by
    have : (4 : Nat) ^ (nb t).toNat ≤ 4 ^ 9 := Nat.pow_le_pow_right (by decide) (by have := W.1; omega)
    exact_mod_cast this
  unfold nS
  have : (4 : Int) ^ 9 = 262144 := by decide
  omega
theorem wg_rng {t : tT} (W : WS t) {b : Int} (h0 : 0 ≤ b) (h1 : b < nb t) : 1 ≤ wg t b ∧ 2 * wg t b ≤ nS t := by
  refine ⟨pw_pos (W.pp.mono (by omega)), ?_⟩
  have h2 := pw_lt (W.pp.mono (show b.toNat + 1 ≤ (nb t).toNat by omega))
  have h3 := pw_mono W.pp (show b.toNat + 1 ≤ (nb t).toNat by omega)
  unfold wg nS; omega
theorem wg_lt {t : tT} (W : WS t) {b d : Int} (h0 : 0 ≤ b) (h1 : b < d) (h2 : d < nb t) : wg t b < wg t d := pw_lt_lt (W.pp.mono (by omega)) (by omega)
/-- one bar goes on: the stand is another by its weight, all other places are the same -/
theorem dg_step {t : tT} (W : WS t) {s b x : Int} (hs0 : 0 ≤ s) (hs1 : s < nS t) (h0 : 0 ≤ b) (h1 : b < nb t) (hx0 : 0 ≤ x) (hx1 : x < pl t b) :
    0 ≤ s + (x - dg t s b) * wg t b ∧ s + (x - dg t s b) * wg t b < nS t ∧ ∀ c, 0 ≤ c → c < nb t → dg t (s + (x - dg t s b) * wg t b) c = if c = b then x else dg t s c := by
  have R : RW t (fun j => if j = b then x else dg t s j) := fun c h2 h3 => by
    by_cases e : c = b
    · subst e; dsimp only; rw [if_pos rfl]; exact ⟨hx0, hx1⟩
    · dsimp only; rw [if_neg e]; exact dg_rw W s c h2 h3
  have e : st t (fun j => if j = b then x else dg t s j) = s + (x - dg t s b) * wg t b := by rw [st_upd h0 h1, st_dg W hs0 hs1]
  rw [← e]
  exact ⟨(st_rng W R).1, (st_rng W R).2, fun c h2 h3 => dg_st W R h2 h3⟩
theorem dg_eq_row {t : tT} (W : WS t) {row : Int → Int} (R : RW t row) {s : Int} (h : st t row = s) {b : Int} (h0 : 0 ≤ b) (h1 : b < nb t) : row b = dg t s b := by
  rw [← h]; exact (dg_st W R h0 h1).symm
theorem sd_congr {t : tT} {r1 r2 : Int → Int} : ∀ {n : Nat}, (∀ k : Nat, k < n → r1 k = r2 k) → sd t r1 n = sd t r2 n
  | 0, _ => rfl
  | n + 1, h => by
    show sd t r1 n + r1 n * pw t n = sd t r2 n + r2 n * pw t n
    rw [sd_congr (fun k hk => h k (by omega)), h n (Nat.lt_succ_self n)]
theorem st_congr {t : tT} {r1 r2 : Int → Int} (h : ∀ b, 0 ≤ b → b < nb t → r1 b = r2 b) : st t r1 = st t r2 := sd_congr (fun k hk => h k (by omega) (by omega))
