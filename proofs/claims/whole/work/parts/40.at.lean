/-! THE STATIC MEMORY: the heap seen through fixed numbers of its cells (1 to 99 as the constructors make them, 100 to 138 the images); arrays that grow keep theirs -/
def kdL : List Nat := [0, 11, 23, 9, 23, 1, 21, 21, 21, 21, 21, 21, 21, 21, 21, 21, 21, 21, 1, 21, 21, 21, 21, 21, 21, 21, 21, 21, 21, 21, 21, 25, 26, 10, 22, 10, 22, 10, 22, 10, 22, 5, 21, 21, 21, 21, 21, 21, 8, 21, 21, 8, 21, 21, 8, 21, 21, 2, 22, 22, 4, 21, 21, 21, 7, 21, 21, 6, 21, 21, 21, 3, 21, 21, 21, 12, 21, 21, 21, 21, 24, 21, 21, 21, 21, 21, 22, 22, 21, 21, 21, 21, 21, 21, 21, 21, 21, 21, 22, 22]
def kd (v : Int) : Nat := if 0 ≤ v ∧ v ≤ 99 then kdL.getD v.toNat 0 else if 100 ≤ v ∧ v < 139 then (if (v - 100) % 13 = 0 then 1 else 21) else 0
def gwL : List Int := [44, 45, 46, 47, 49, 50, 52, 53, 55, 56, 58, 59, 61, 62, 63]
def ptL : List (Int × Int × Int) := [(1, 0, 2), (1, 5, 3), (1, 6, 5), (1, 7, 18), (1, 8, 31), (1, 9, 32), (1, 10, 41), (1, 11, 48), (1, 12, 51), (1, 13, 54), (1, 14, 57), (1, 15, 60), (1, 16, 64), (1, 17, 67), (1, 18, 71), (32, 0, 33), (32, 1, 35), (32, 2, 37), (32, 3, 39), (33, 0, 34), (35, 0, 36), (37, 0, 38), (39, 0, 40), (41, 5, 42), (41, 6, 43), (41, 7, 44), (41, 8, 45), (41, 9, 46), (41, 10, 47), (48, 5, 49), (48, 6, 50), (51, 5, 52), (51, 6, 53), (54, 5, 55), (54, 6, 56), (57, 0, 58), (57, 1, 59), (60, 0, 61), (60, 1, 62), (60, 2, 63), (64, 0, 65), (64, 1, 66), (67, 0, 68), (67, 1, 69), (67, 2, 70), (71, 0, 72), (71, 1, 73), (71, 2, 74), (75, 0, 76), (75, 1, 77), (75, 2, 78), (75, 3, 79), (75, 4, 80), (75, 6, 81), (75, 17, 82), (75, 18, 83), (75, 22, 84), (75, 23, 85), (75, 25, 86), (75, 26, 87), (75, 27, 88), (75, 28, 89), (75, 29, 90), (75, 30, 91), (75, 31, 92), (75, 33, 93), (75, 35, 94), (75, 36, 95), (75, 37, 96), (75, 38, 97), (75, 39, 98)]
def pt (v i : Int) : Int := if 21 ≤ kd v ∧ v ≠ 32 then 0 else if kd v = 1 then (if 6 ≤ i ∧ i ≤ 17 then v + (i - 5) else 0) else match ptL.find? (fun q => q.1 == v && q.2.1 == i) with
  | some q => q.2.2
  | none => 0
def lnL : List Int := [0, 0, 900, 0, 0, 0, 9, 9, 9, 9, 9, 24, 24, 24, 24, 96, 96, 96, 0, 9, 9, 9, 9, 9, 24, 24, 24, 24, 96, 96, 96, 3, 4, 0, 40, 0, 40, 0, 40, 0, 40, 0, 18, 9, 0, 0, 0, 0, 0, 0, 0, 0, 0, 0, 0, 0, 0, 0, 0, 0, 0, 0, 0, 0, 0, 7, 7, 0, 40, 41, 18, 0, 72, 36, 9, 0, 434, 434, 434, 1302, 3, 900, 9, 16, 20000, 20000, 20000, 20000, 20000, 7, 360000, 40, 2, 72, 20000, 20000, 4, 4, 160, 1]
def ln (v : Int) : Int := if 0 ≤ v ∧ v ≤ 99 then lnL.getD v.toNat 0 else if (v - 100) % 13 ≤ 5 then 9 else if (v - 100) % 13 ≤ 9 then 24 else 96
def mx (v : Int) : Int := if v = 61 ∨ v = 63 then 40000 else 20000
abbrev aM : Type := Int → Int → Int
def lv (M : aM) (v : Int) : Prop := (1 ≤ v ∧ v ≤ 99) ∨ (100 ≤ v ∧ v < 139 ∧ M 31 ((v - 100) / 13) ≠ 0)
def mup (M : aM) (v i x : Int) : aM := fun w j => if w = v ∧ j = i then x else M w j
def mcp (M : aM) (a sp d dp n : Int) : aM := fun w j => if w = d ∧ dp ≤ j ∧ j < dp + n then M a (sp + (j - dp)) else M w j
def sumL (L : Int → Int) : Int := L 44 + L 45 + L 46 + L 47 + L 49 + L 50 + L 52 + L 53 + L 55 + L 56 + L 58 + L 59 + L 61 + L 62 + L 63
def cst (m l : Int) : Int := if l < m then 2 * l else 3 * m
def sumC (L : Int → Int) : Int := cst 20000 (L 44) + cst 20000 (L 45) + cst 20000 (L 46) + cst 20000 (L 47) + cst 20000 (L 49) + cst 20000 (L 50) + cst 20000 (L 52) + cst 20000 (L 53) + cst 20000 (L 55) + cst 20000 (L 56) + cst 20000 (L 58) + cst 20000 (L 59) + cst 40000 (L 61) + cst 20000 (L 62) + cst 40000 (L 63)
def AtN (h : mH) (c : Int) (L : Int → Int) : Prop := 99 ≤ hpN h ∧ hpN h ≤ 99 + c + sumL L ∧ hpS h ≤ 506176 + c + sumC L
def At (h : mH) (c : Int) (p L : Int → Int) (M : aM) : Prop :=
  AtN h c L ∧
  (∀ v, lv M v → 1 ≤ p v ∧ p v ≤ hpN h ∧ hpT h (p v) = kd v ∧ (21 ≤ kd v → hpL h (p v) = L v)) ∧
  (∀ v w, lv M v → lv M w → p v = p w → v = w) ∧
  (∀ v, 1 ≤ v → v ≤ 99 → v ∉ gwL → p v = v ∧ L v = ln v) ∧
  (∀ v, 100 ≤ v → v < 139 → L v = ln v) ∧
  (∀ v, v ∈ gwL → 0 ≤ L v ∧ L v ≤ mx v) ∧
  (∀ v i, lv M v → pt v i = 0 → hpV h (p v) i = M v i) ∧
  (∀ v i, lv M v → pt v i ≠ 0 → hpV h (p v) i = p (pt v i)) ∧
  (∀ i, 0 ≤ i → i < 3 → M 31 i ≠ 0 → M 31 i = p (100 + 13 * i))
theorem mup_eq (M : aM) (v i x : Int) : mup M v i x v i = x := by simp [mup]
theorem mup_ne {M : aM} {v i x w j : Int} (h : w ≠ v ∨ j ≠ i) : mup M v i x w j = M w j := by
  unfold mup; rw [if_neg]; rintro ⟨rfl, rfl⟩; rcases h with h | h <;> exact h rfl
theorem qp_N (h : mH) (z i v : Int) : hpN (hput h z i v) = hpN h := rfl
theorem qp_S (h : mH) (z i v : Int) : hpS (hput h z i v) = hpS h := rfl
theorem qp_T (h : mH) (z i v w : Int) : hpT (hput h z i v) w = hpT h w := rfl
theorem qp_L (h : mH) (z i v w : Int) : hpL (hput h z i v) w = hpL h w := rfl
theorem qp_V (h : mH) (z i v w j : Int) : hpV (hput h z i v) w j = if w = z ∧ j = i then v else hpV h w j := rfl
theorem qc_V (h : mH) (a sp d dp n w j : Int) : hpV (hcpy h a sp d dp n) w j = if w = d ∧ dp ≤ j ∧ j < dp + n then hpV h a (sp + (j - dp)) else hpV h w j := rfl
theorem qa_N (h : mH) (t : Nat) (l z : Int) : hpN (halc h t l z) = hpN h + 1 := rfl
theorem qa_S (h : mH) (t : Nat) (l z : Int) : hpS (halc h t l z) = hpS h + z := rfl
theorem qa_T (h : mH) (t : Nat) (l z w : Int) : hpT (halc h t l z) w = if w = hpN h + 1 then t else hpT h w := rfl
theorem qa_L (h : mH) (t : Nat) (l z w : Int) : hpL (halc h t l z) w = if w = hpN h + 1 then l else hpL h w := rfl
theorem qa_V (h : mH) (t : Nat) (l z w j : Int) : hpV (halc h t l z) w j = if w = hpN h + 1 then 0 else hpV h w j := rfl
theorem lv_fix (M : aM) {v : Int} (h1 : 1 ≤ v) (h2 : v ≤ 99) : lv M v := Or.inl ⟨h1, h2⟩
theorem lv_mup {M : aM} {v i x w : Int} (hv : v ≠ 31) : lv (mup M v i x) w ↔ lv M w := by
  unfold lv; rw [mup_ne (Or.inl (Ne.symm hv))]
section
variable {h : mH} {c : Int} {p L : Int → Int} {M : aM}
theorem At.T (A : At h c p L M) {v : Int} (hv : lv M v) : hpT h (p v) = kd v := (A.2.1 v hv).2.2.1
theorem At.Ln (A : At h c p L M) {v : Int} (hv : lv M v) (hk : 21 ≤ kd v) : hpL h (p v) = L v := (A.2.1 v hv).2.2.2 hk
theorem At.inj (A : At h c p L M) {v w : Int} (hv : lv M v) (hw : lv M w) : p v = p w → v = w := A.2.2.1 v w hv hw
theorem At.fx (A : At h c p L M) {v : Int} (h1 : 1 ≤ v) (h2 : v ≤ 99) (h3 : v ∉ gwL) : p v = v ∧ L v = ln v := A.2.2.2.1 v h1 h2 h3
theorem At.V (A : At h c p L M) {v : Int} (i : Int) (hv : lv M v) (hp : pt v i = 0) : hpV h (p v) i = M v i := A.2.2.2.2.2.2.1 v i hv hp
theorem At.P (A : At h c p L M) {v : Int} (i : Int) (hv : lv M v) (hp : pt v i ≠ 0) : hpV h (p v) i = p (pt v i) := A.2.2.2.2.2.2.2.1 v i hv hp
theorem At.gw (A : At h c p L M) {v : Int} (hv : v ∈ gwL) : 0 ≤ L v ∧ L v ≤ mx v := A.2.2.2.2.2.1 v hv
theorem At.put (A : At h c p L M) {v : Int} (i x : Int) (hv : lv M v) (hp : pt v i = 0) (h31 : v ≠ 31) : At (hput h (p v) i x) c p L (mup M v i x) := by
  obtain ⟨a1, a2, a3, a4, a5, a6, a7, a8, a9⟩ := A
  refine ⟨a1, fun w hw => a2 w ((lv_mup h31).mp hw), fun w u hw hu => a3 w u ((lv_mup h31).mp hw) ((lv_mup h31).mp hu), a4, a5, a6, fun w j hw hj => ?_, fun w j hw hj => ?_, fun j h1 h2 h3 => ?_⟩
  · have hw' := (lv_mup h31).mp hw
    rw [qp_V]
    unfold mup
    by_cases e : w = v
    · subst e
      by_cases e2 : j = i
      · subst e2; rw [if_pos ⟨rfl, rfl⟩, if_pos ⟨rfl, rfl⟩]
      · rw [if_neg (fun q => e2 q.2), if_neg (fun q => e2 q.2)]; exact a7 w j hw' hj
    · rw [if_neg (fun q => e (a3 _ _ hw' hv q.1)), if_neg (fun q => e q.1)]; exact a7 w j hw' hj
  · have hw' := (lv_mup h31).mp hw
    rw [qp_V, if_neg]
    · exact a8 w j hw' hj
    · rintro ⟨q1, q2⟩
      have := a3 _ _ hw' hv q1
      subst this; subst q2; exact hj hp
  · rw [mup_ne (Or.inl (Ne.symm h31))] at h3 ⊢
    exact a9 j h1 h2 h3
theorem At.cpy (A : At h c p L M) {a d : Int} (sp dp n : Int) (ha : lv M a) (hd : lv M d) (ka : 21 ≤ kd a ∧ a ≠ 32) (kk : 21 ≤ kd d ∧ d ≠ 32) (h31 : d ≠ 31) : At (hcpy h (p a) sp (p d) dp n) c p L (mcp M a sp d dp n) := by
  obtain ⟨a1, a2, a3, a4, a5, a6, a7, a8, a9⟩ := A
  have hl : ∀ w, lv (mcp M a sp d dp n) w ↔ lv M w := fun w => by
    unfold lv mcp
    simp only [show ¬ ((31 : Int) = d) from fun e => h31 e.symm, false_and, if_false]
  refine ⟨a1, fun w hw => a2 w ((hl w).mp hw), fun w u hw hu => a3 w u ((hl w).mp hw) ((hl u).mp hu), a4, a5, a6, fun w j hw hj => ?_, fun w j hw hj => ?_, fun j h1 h2 h3 => ?_⟩
  · have hw' := (hl w).mp hw
    rw [qc_V]
    unfold mcp
    by_cases e : w = d
    · subst e
      by_cases e2 : dp ≤ j ∧ j < dp + n
      · rw [if_pos ⟨rfl, e2⟩, if_pos ⟨rfl, e2⟩]
        exact a7 a _ ha (by unfold pt; rw [if_pos ka])
      · rw [if_neg (fun q => e2 q.2), if_neg (fun q => e2 q.2)]; exact a7 w j hw' hj
    · rw [if_neg (fun q => e (a3 _ _ hw' hd q.1)), if_neg (fun q => e q.1)]; exact a7 w j hw' hj
  · have hw' := (hl w).mp hw
    rw [qc_V, if_neg]
    · exact a8 w j hw' hj
    · rintro ⟨q1, q2⟩
      have := a3 _ _ hw' hd q1
      subst this
      exact hj (by unfold pt; rw [if_pos kk])
  · unfold mcp at h3 ⊢
    simp only [show ¬ ((31 : Int) = d) from fun e => h31 e.symm, false_and, if_false] at h3 ⊢
    exact a9 j h1 h2 h3
/-- an exception, or another cell that nobody looks at -/
theorem At.exc (A : At h c p L M) : At (halc h 0 0 6) (c + 6) p L M := by
  obtain ⟨⟨b1, b2, b3⟩, a2, a3, a4, a5, a6, a7, a8, a9⟩ := A
  have hb : ∀ v, lv M v → ¬ p v = hpN h + 1 := fun v hv e => by have := (a2 v hv).2.1; omega
  refine ⟨⟨by rw [qa_N]; omega, by rw [qa_N]; omega, by rw [qa_S]; omega⟩, fun v hv => ?_, a3, a4, a5, a6, fun v i hv hp => ?_, fun v i hv hp => ?_, a9⟩
  · have := a2 v hv
    rw [qa_N, qa_T, qa_L, if_neg (hb v hv), if_neg (hb v hv)]
    exact ⟨this.1, by omega, this.2.2⟩
  · rw [qa_V, if_neg (hb v hv)]; exact a7 v i hv hp
  · rw [qa_V, if_neg (hb v hv)]; exact a8 v i hv hp
/-- what the array v grows to, put where its owner o keeps it -/
theorem At.grow (A : At h c p L M) {v o i : Int} (hv : v ∈ gwL) (ho : 1 ≤ o ∧ o ≤ 99) (hog : o ∉ gwL) (hpo : pt o i = v) (hu : ∀ w j, lv M w → pt w j = v → w = o ∧ j = i) {l : Int} (h1 : L v < l) (h2 : l ≤ mx v) (h3 : l = mx v ∨ 2 * L v ≤ l) :
    ∃ p' L' M', At (hput (halc h (kd v) l l) o i (hpN h + 1)) c p' L' M' ∧ L' v = l ∧ ∀ w, w ≠ v → p' w = p w ∧ L' w = L w ∧ M' w = M w := by
  obtain ⟨⟨b1, b2, b3⟩, a2, a3, a4, a5, a6, a7, a8, a9⟩ := A
  have hb : ∀ v, lv M v → ¬ p v = hpN h + 1 := fun v hv e => by have := (a2 v hv).2.1; omega
  have hvr : 1 ≤ v ∧ v ≤ 99 ∧ v ≠ 31 ∧ 21 ≤ kd v ∧ v ≠ 32 := by
    simp only [gwL, List.mem_cons, List.not_mem_nil, or_false] at hv
    rcases hv with rfl | rfl | rfl | rfl | rfl | rfl | rfl | rfl | rfl | rfl | rfl | rfl | rfl | rfl | rfl <;> decide +kernel
  have hvo : v ≠ o := fun e => hog (e ▸ hv)
  have hpo' : p o = o := (a4 o ho.1 ho.2 hog).1
  have hL0 := a6 v hv
  have h31 : ((31 : Int) = v) = False := eq_false (fun e => hvr.2.2.1 e.symm)
  have hc : cst (mx v) (L v) + l ≤ cst (mx v) l := by unfold cst; split <;> split <;> omega
  have hN : hpN h + 1 ≤ 99 + c + sumL (fun w => if w = v then l else L w) ∧ hpS h + l ≤ 506176 + c + sumC (fun w => if w = v then l else L w) := by
    simp only [gwL, List.mem_cons, List.not_mem_nil, or_false] at hv
    clear h2 h3 hvr hL0 h31 hvo hpo hu hog a2 a3 a4 a5 a6 a7 a8 a9 hb hpo'
    rcases hv with rfl | rfl | rfl | rfl | rfl | rfl | rfl | rfl | rfl | rfl | rfl | rfl | rfl | rfl | rfl <;>
    · simp (decide := true) only [mx, if_true, if_false] at hc
      simp (decide := true) only [sumL, sumC, if_true, if_false] at b2 b3 ⊢
      exact ⟨by omega, by omega⟩
  have hl : ∀ w, lv (fun w j => if w = v then 0 else M w j) w ↔ lv M w := fun w => by
    unfold lv; simp only [h31, if_false]
  refine ⟨fun w => if w = v then hpN h + 1 else p w, fun w => if w = v then l else L w, fun w j => if w = v then 0 else M w j, ⟨⟨by show 99 ≤ hpN h + 1; omega, hN.1, hN.2⟩, fun w hw => ?_, fun w u hw hu => ?_, fun w h4 h5 h6 => ?_, fun w h4 h5 => ?_, fun w hw => ?_, fun w j hw hj => ?_, fun w j hw hj => ?_, fun j h4 h5 h6 => ?_⟩, ?_, fun w hw => ?_⟩
  · have hw' := (hl w).mp hw
    rw [qp_N, qp_T, qp_L, qa_N, qa_T, qa_L]
    by_cases e : w = v
    · subst e; simp only [if_true]
      exact ⟨by omega, Int.le_refl _, trivial, fun _ => trivial⟩
    · simp only [e, if_false, hb w hw']
      have := a2 w hw'
      exact ⟨this.1, by omega, this.2.2⟩
  · have hw' := (hl w).mp hw
    have hu' := (hl u).mp hu
    by_cases e : w = v <;> by_cases e2 : u = v
    · intro _; rw [e, e2]
    · simp only [e, e2, if_true, if_false]; intro e3; exact absurd e3.symm (hb u hu')
    · simp only [e, e2, if_true, if_false]; intro e3; exact absurd e3 (hb w hw')
    · simp only [e, e2, if_false]; exact a3 w u hw' hu'
  · have e : ¬ w = v := fun e => h6 (e ▸ hv)
    simp only [e, if_false]; exact a4 w h4 h5 h6
  · have e : ¬ w = v := fun e => by omega
    simp only [e, if_false]; exact a5 w h4 h5
  · by_cases e : w = v
    · subst e; simp only [if_true]; exact ⟨by omega, h2⟩
    · simp only [e, if_false]; exact a6 w hw
  · have hw' := (hl w).mp hw
    rw [qp_V, qa_V]
    by_cases e : w = v
    · subst e
      have e2 : ¬ (hpN h + 1 = o) := fun e => by have := (a2 o (lv_fix M ho.1 ho.2)).2.1; omega
      simp only [if_true, e2, false_and, if_false]
    · have e2 : ¬ (p w = o ∧ j = i) := by
        rintro ⟨q1, q2⟩
        rw [← hpo'] at q1
        have := a3 w o hw' (lv_fix M ho.1 ho.2) q1
        subst this; subst q2
        rw [hpo] at hj; omega
      simp only [e, if_false, e2, hb w hw']
      exact a7 w j hw' hj
  · have hw' := (hl w).mp hw
    have e : ¬ w = v := fun e => hj (by unfold pt; subst e; rw [if_pos ⟨hvr.2.2.2.1, hvr.2.2.2.2⟩])
    rw [qp_V, qa_V]
    simp only [e, if_false, hb w hw']
    by_cases e2 : p w = o ∧ j = i
    · rw [if_pos e2]
      obtain ⟨q1, q2⟩ := e2
      rw [← hpo'] at q1
      have := a3 w o hw' (lv_fix M ho.1 ho.2) q1
      subst this; subst q2
      rw [hpo, if_pos rfl]
    · rw [if_neg e2, a8 w j hw' hj, if_neg]
      intro e3
      obtain ⟨q1, q2⟩ := hu w j hw' e3
      exact e2 ⟨by rw [q1, hpo'], q2⟩
  · simp only [h31, if_false] at h6 ⊢
    rw [if_neg (by omega)]
    exact a9 j h4 h5 h6
  · simp only [if_true]
  · refine ⟨by simp only [hw, if_false], by simp only [hw, if_false], ?_⟩
    funext j; simp only [hw, if_false]
end
