/-! THE CLASS READS A TOKEN -/
def ckK (k : Int) : Int := if k = 0 then 0 else if k = 1 then 2 else if k = 2 then 3 else if k = 3 then 4 else 1
section
variable {h : mH} {c : Int} {p L : Int → Int} {M : aM} {f : Int → Int} {len : Int}
def CTt (M : aM) (f : Int → Int) (len : Int) : Prop := M 3 0 = 2 ∧ M 3 1 = len ∧ ∀ i, 0 ≤ i → i < len → M 2 i = w8 (f i)
abbrev FC3 : aM → aM → Prop := Fs [] 3 [2, 3, 4, 5, 6, 7]
theorem CTt.fr {M' : aM} (T : CTt M f len) (F : FC3 M M') : CTt M' f len := ⟨by rw [F.2 0 (by decide)]; exact T.1, by rw [F.2 1 (by decide)]; exact T.2.1, fun i g0 g1 => by rw [F.1 2 (by decide) (by decide)]; exact T.2.2 i g0 g1⟩
/-- a token is at hand -/
def CTx (M : aM) (f : Int → Int) (len : Int) (x : tP Int) : Prop := match x with
  | .inl e => M 3 6 = e.1 ∧ e.1 ≠ 0 ∧ M 3 7 = e.2
  | .inr q => (0 ≤ q ∧ q ≤ len) ∧ (xtK f len q = 4 → M 3 6 = 1 ∧ M 3 7 = xtB f len q) ∧ (xtK f len q ≠ 4 → M 3 6 = 0 ∧ M 3 7 = -1 ∧ M 3 3 = xtB f len q ∧ M 3 4 = ckK (xtK f len q) ∧ M 3 2 = xtE f len q ∧ (xtK f len q = 2 → M 3 5 = xtV f len q))
/-- the next token begins from here -/
def CPx (M : aM) (f : Int → Int) (len : Int) (x : tP Int) : Prop := match x with
  | .inl e => M 3 6 = e.1 ∧ e.1 ≠ 0 ∧ M 3 7 = e.2
  | .inr q => (0 ≤ q ∧ q ≤ len) ∧ M 3 6 = 0 ∧ M 3 7 = -1 ∧ M 3 2 = q
theorem At.s3 (A : At h c p L M) (i x : Int) (hi : pt 3 i = 0) : At (hput h 3 i x) c p L (mup M 3 i x) := A.fput x (by decide) (by decide) (by decide) hi (by decide)
theorem w8_wd {x : Int} (h0 : 0 ≤ x) (h1 : x < 256) : (w8 x = x ∧ x < 128) ∨ (w8 x = x - 256 ∧ 128 ≤ x) := by unfold w8; omega
theorem s_cws (A : At h c p L M) (X : TX f len) (T : CTt M f len) {q : Int} (q0 : 0 ≤ q) (q1 : q ≤ len) (h9 : M 3 2 = q) {K : mH → Option mR} : ∃ h' M', f_Reader_readToken_L8 K 3 1000000 h = K h' ∧ At h' c p L M' ∧ Fs [] 3 [2] M M' ∧ M' 3 2 = xtB f len q := by
  have hl := X.1
  refine loop_r (F := fun n (b : mH) => f_Reader_readToken_L8 K 3 n b) (P := fun r => ∃ h' M', r = K h' ∧ At h' c p L M' ∧ Fs [] 3 [2] M M' ∧ M' 3 2 = xtB f len q) (fun i b => ∃ M2, At b c p L M2 ∧ Fs [] 3 [2] M M2 ∧ M2 3 2 = q + i ∧ ∀ j, q ≤ j → j < q + i → j < len ∧ ws_ (f j) = true) (len - q).toNat (fun i hi b hb n => ?_) (fun b hb n => ?_) (i := 0) (b := h) ⟨M, A, Fs.rf _ _ _ _, by rw [h9]; omega, fun j g0 g1 => by omega⟩ (by omega) (by omega)
  · obtain ⟨M2, A2, F2, e2, v2⟩ := hb
    have C2 := A2.rd
    have N2 := A2.nb
    have T2 := T.fr (F2.mono (by decide) (by decide))
    have fr := X.2 (q + i) (by omega) (by omega)
    have wd := w8_wd fr.1 fr.2
    have go : ws_ (f (q + i)) = true → f_Reader_readToken_J47 (f_Reader_readToken_L8 K 3 n) 3 b = f_Reader_readToken_L8 K 3 n (hput b 3 2 (q + (i + 1 : Nat))) ∧ ∃ M3, At (hput b 3 2 (q + (i + 1 : Nat))) c p L M3 ∧ Fs [] 3 [2] M M3 ∧ M3 3 2 = q + (i + 1 : Nat) ∧ ∀ j, q ≤ j → j < q + (i + 1 : Nat) → j < len ∧ ws_ (f j) = true := fun hw => by
      refine ⟨?_, _, A2.s3 2 _ (by decide +kernel), F2.ps (by decide), mup_eq _ _ _ _, fun j g0 g1 => ?_⟩
      · unfold f_Reader_readToken_J47
        simp only [C2]
        rw [chk_t trivial, chk_t trivial, e2, wth, w32_id (by omega) (by omega), show q + (i : Int) + 1 = q + ((i + 1 : Nat) : Int) by omega]
      · by_cases e : j = q + i
        · rw [e]; exact ⟨by omega, hw⟩
        · exact v2 j g0 (by omega)
    show (∃ h' M', f_Reader_readToken_L8 K 3 (n + 1) b = K h' ∧ _) ∨ ∃ b', _ ∧ f_Reader_readToken_L8 K 3 (n + 1) b = _
    rw [f_Reader_readToken_L8]
    simp only [C2]
    rw [T2.1]
    simp only [N2]
    rw [chk_t trivial, chk_t trivial, T2.2.1, e2, if_neg (by omega), chk_t trivial, chk_t trivial, chk_t trivial, chk_t (by omega), T2.2.2 _ (by omega) (by omega)]
    by_cases g1 : f (q + i) = 10
    · right
      obtain ⟨a, b1⟩ := go (by unfold ws_; rw [decide_eq_true g1, Bool.or_true])
      rw [if_pos (by omega)]; exact ⟨_, b1, a⟩
    · rw [if_neg (by omega), chk_t trivial, chk_t trivial, chk_t trivial, chk_t (by omega)]
      by_cases g2 : f (q + i) = 32
      · right
        obtain ⟨a, b1⟩ := go (by unfold ws_; rw [decide_eq_true g2, Bool.true_or])
        rw [if_pos (by omega)]; exact ⟨_, b1, a⟩
      · left
        rw [if_neg (by omega)]
        refine ⟨b, M2, rfl, A2, F2, ?_⟩
        rw [e2]
        exact RE.uniq (P := ws_) (f := f) (len := len) (p := q) ⟨⟨by omega, v2⟩, Or.inr (by unfold ws_; rw [decide_eq_false g1, decide_eq_false g2]; rfl)⟩ (xtB_RE X q0)
  · obtain ⟨M2, A2, F2, e2, v2⟩ := hb
    have C2 := A2.rd
    have T2 := T.fr (F2.mono (by decide) (by decide))
    show ∃ h' M', f_Reader_readToken_L8 K 3 (n + 1) b = K h' ∧ _
    refine ⟨b, M2, ?_, A2, F2, ?_⟩
    · rw [f_Reader_readToken_L8]
      simp only [C2]
      rw [chk_t trivial, chk_t trivial, T2.2.1, e2, if_pos (by omega)]
    · rw [e2]
      exact RE.uniq (P := ws_) (f := f) (len := len) (p := q) ⟨⟨by omega, v2⟩, Or.inl (by omega)⟩ (xtB_RE X q0)
/-- a run of letters, or of digits -/
theorem s_crun (A : At h c p L M) (X : TX f len) (T : CTt M f len) {z : Int} (z0 : 0 ≤ z) (z1 : z ≤ len) (h9 : M 3 2 = z) (h5 : M 3 5 = 0) {lo hi r : Int} {P : Int → Bool} (hP : ∀ x, 0 ≤ x → x < 256 → (P x = true ↔ lo ≤ x ∧ x ≤ hi)) (hlo : 0 ≤ lo) (hhi : hi < 128) (hR : RE P f len z r) {K : mH → Option mR} : ∃ h' M', f_Reader_readToken_L141 K 3 lo hi 1000000 h = K h' ∧ At h' c p L M' ∧ Fs [] 3 [2, 5] M M' ∧ M' 3 2 = r ∧ (lo = 48 → hi = 57 → r - z ≤ 3 → M' 3 5 = dv_ f z (r - z).toNat) := by
  have hl := X.1
  refine loop_r (F := fun n (b : mH) => f_Reader_readToken_L141 K 3 lo hi n b) (P := fun r' => ∃ h' M', r' = K h' ∧ At h' c p L M' ∧ Fs [] 3 [2, 5] M M' ∧ M' 3 2 = r ∧ (lo = 48 → hi = 57 → r - z ≤ 3 → M' 3 5 = dv_ f z (r - z).toNat)) (fun i b => ∃ M2, At b c p L M2 ∧ Fs [] 3 [2, 5] M M2 ∧ M2 3 2 = z + i ∧ (lo = 48 → hi = 57 → i ≤ 3 → M2 3 5 = dv_ f z i) ∧ ∀ j, z ≤ j → j < z + i → j < len ∧ P (f j) = true) (len - z).toNat (fun i hi_ b hb n => ?_) (fun b hb n => ?_) (i := 0) (b := h) ⟨M, A, Fs.rf _ _ _ _, by rw [h9]; omega, fun _ _ _ => h5, fun j g0 g1 => by omega⟩ (by omega) (by omega)
  · obtain ⟨M2, A2, F2, e2, e5, v2⟩ := hb
    have C2 := A2.rd
    have N2 := A2.nb
    have T2 := T.fr (F2.mono (by decide) (by decide))
    have fr := X.2 (z + i) (by omega) (by omega)
    have wd := w8_wd fr.1 fr.2
    have hp := hP (f (z + i)) fr.1 fr.2
    have stop : P (f (z + i)) = false → (∃ h' M', K b = K h' ∧ At h' c p L M' ∧ Fs [] 3 [2, 5] M M' ∧ M' 3 2 = r ∧ (lo = 48 → hi = 57 → r - z ≤ 3 → M' 3 5 = dv_ f z (r - z).toNat)) := fun g => by
      have er : z + (i : Int) = r := RE.uniq (P := P) (f := f) (len := len) (p := z) ⟨⟨by omega, v2⟩, Or.inr g⟩ hR
      exact ⟨b, M2, rfl, A2, F2, by rw [e2]; exact er, fun a1 a2 a3 => by rw [← er, e5 a1 a2 (by omega), show (z + (i : Int) - z).toNat = i by omega]⟩
    show (∃ h' M', f_Reader_readToken_L141 K 3 lo hi (n + 1) b = K h' ∧ _) ∨ ∃ b', _ ∧ f_Reader_readToken_L141 K 3 lo hi (n + 1) b = _
    rw [f_Reader_readToken_L141]
    simp only [C2]
    rw [T2.1]
    simp only [N2]
    rw [chk_t trivial, chk_t trivial, T2.2.1, e2, if_neg (by omega), chk_t trivial, chk_t trivial, chk_t trivial, chk_t (by omega), T2.2.2 _ (by omega) (by omega)]
    by_cases g1 : w8 (f (z + i)) < lo
    · left
      rw [if_pos g1]
      exact stop (Bool.eq_false_iff.mpr (fun k => by have := hp.mp k; omega))
    · rw [if_neg g1, chk_t trivial, chk_t trivial, chk_t trivial, chk_t (by omega)]
      by_cases g2 : hi < w8 (f (z + i))
      · left
        rw [if_pos g2]
        exact stop (Bool.eq_false_iff.mpr (fun k => by have := hp.mp k; omega))
      · right
        have g : P (f (z + i)) = true := hp.mpr (by omega)
        have ew : w8 (f (z + i)) = f (z + i) := by omega
        have A3 := A2.s3 5 (w32 (w32 (w32 (M2 3 5 * 10) + f (z + i)) - 48)) (by decide +kernel)
        have C3 := A3.rd
        rw [if_neg g2, chk_t trivial, chk_t trivial, chk_t trivial, chk_t trivial, chk_t (by omega), chk_t trivial, ew, wth]
        simp only [C3]
        rw [chk_t trivial, chk_t trivial, mup_ne (Or.inr (by decide)), e2, wth, w32_id (x := z + (i : Int) + 1) (by omega) (by omega), show z + (i : Int) + 1 = z + ((i + 1 : Nat) : Int) by omega]
        refine ⟨_, ⟨_, A3.s3 2 _ (by decide +kernel), (F2.ps (by decide)).ps (by decide), mup_eq _ _ _ _, fun a1 a2 a3 => ?_, fun j g0 g1 => ?_⟩, rfl⟩
        · have e5 := e5 a1 a2 (by omega)
          have d1 := dv_rng (f := f) (b := z) (n := i) (by omega) (fun j g0 g1 => by
            have := v2 j g0 g1
            have fj := X.2 j (by omega) this.1
            have := (hP (f j) fj.1 fj.2).mp this.2
            unfold di_
            rw [decide_eq_true (show 48 ≤ f j by omega), decide_eq_true (show f j ≤ 57 by omega)]; rfl)
          have := hp.mp g
          rw [mup_ne (Or.inr (by decide)), mup_eq, e5, w32_id (x := dv_ f z i * 10) (by omega) (by omega), w32_id (x := dv_ f z i * 10 + f (z + i)) (by omega) (by omega), w32_id (by omega) (by omega)]
          show _ = 10 * dv_ f z i + f (z + i) - 48
          omega
        · by_cases e : j = z + i
          · rw [e]; exact ⟨by omega, g⟩
          · exact v2 j g0 (by omega)
  · obtain ⟨M2, A2, F2, e2, e5, v2⟩ := hb
    have C2 := A2.rd
    have T2 := T.fr (F2.mono (by decide) (by decide))
    have er : z + (((len - z).toNat : Nat) : Int) = r := RE.uniq (P := P) (f := f) (len := len) (p := z) ⟨⟨by omega, v2⟩, Or.inl (by omega)⟩ hR
    show ∃ h' M', f_Reader_readToken_L141 K 3 lo hi (n + 1) b = K h' ∧ _
    refine ⟨b, M2, ?_, A2, F2, by rw [e2]; exact er, fun a1 a2 a3 => by rw [← er, e5 a1 a2 (by omega), show (z + (((len - z).toNat : Nat) : Int) - z).toNat = (len - z).toNat by omega]⟩
    rw [f_Reader_readToken_L141]
    simp only [C2]
    rw [chk_t trivial, chk_t trivial, T2.2.1, e2, if_pos (by omega)]
end
