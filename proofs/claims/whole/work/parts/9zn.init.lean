/-! THE START: what the constructors make -/
def mH0 : mH := ((0, 0), fun _ => 0, fun _ => 0, fun _ _ => 0)
def yA : Option mR := f_Nb_init (halc mH0 11 0 19) 1
def zA : mH := match yA with
  | some r => r.2
  | none => mH0
def yC : Option mR := f_Md_init (halc zA 12 0 40) 75
def zC : mH := match yC with
  | some r => r.2
  | none => mH0
def zD : mH := halc zC 22 1 1
theorem yA_ok : (match yA with
  | some r => decide (r.1 = (3, 0)) && decide (hpN r.2 = 74)
  | none => false) = true := by decide +kernel
theorem yC_ok : (match yC with
  | some r => decide (r.1 = (3, 0)) && decide (hpN r.2 = 98)
  | none => false) = true := by decide +kernel
theorem yA_eq : yA = some ((3, 0), zA) ∧ hpN zA = 74 := by
  have h := yA_ok
  unfold zA
  cases e : yA with
  | none => rw [e] at h; exact absurd h (by decide)
  | some r =>
    rw [e] at h
    have h : (decide (r.1 = (3, 0)) && decide (hpN r.2 = 74)) = true := h
    rw [Bool.and_eq_true] at h
    have h1 := of_decide_eq_true h.1
    exact ⟨by show some r = some ((3, 0), r.2); rw [← h1], of_decide_eq_true h.2⟩
theorem yC_eq : yC = some ((3, 0), zC) ∧ hpN zC = 98 := by
  have h := yC_ok
  unfold zC
  cases e : yC with
  | none => rw [e] at h; exact absurd h (by decide)
  | some r =>
    rw [e] at h
    have h : (decide (r.1 = (3, 0)) && decide (hpN r.2 = 98)) = true := h
    rw [Bool.and_eq_true] at h
    have h1 := of_decide_eq_true h.1
    exact ⟨by show some r = some ((3, 0), r.2); rw [← h1], of_decide_eq_true h.2⟩
theorem zD_NS : hpN zD = 99 ∧ hpS zD = 506176 := by decide +kernel
theorem zD_TL : ∀ k : Fin 99, hpT zD ((k.val : Int) + 1) = kd ((k.val : Int) + 1) ∧ (21 ≤ kd ((k.val : Int) + 1) → hpL zD ((k.val : Int) + 1) = ln ((k.val : Int) + 1)) := by decide +kernel
theorem zD_pt : ∀ q ∈ ptL, hpV zD q.1 q.2.1 = q.2.2 := by decide +kernel
theorem zD_bx : ∀ k : Fin 12, hpV zD 5 ((k.val : Int) + 6) = 5 + ((k.val : Int) + 6 - 5) ∧ hpV zD 18 ((k.val : Int) + 6) = 18 + ((k.val : Int) + 6 - 5) := by decide +kernel
def vZD : List (Int × Int × Int) := [(1, 1, 0), (1, 2, 0), (1, 3, -1), (1, 4, 0), (5, 0, 0), (5, 1, 0), (5, 2, 0), (5, 3, 0), (5, 4, 0), (5, 5, 0), (31, 0, 0), (31, 1, 0), (31, 2, 0), (33, 2, -1), (35, 2, -1), (37, 2, -1), (39, 2, -1), (41, 0, -1), (41, 2, 0), (48, 0, 0), (48, 1, -1), (48, 3, -1), (51, 0, 1), (51, 1, -1), (51, 3, -1), (54, 0, 0), (54, 1, -1), (54, 3, -1), (64, 2, -1), (75, 7, 0), (75, 15, 0), (75, 16, -1), (75, 19, 0), (76, 0, 0), (76, 1, 0), (76, 2, 0), (76, 3, 0), (76, 4, 0), (80, 0, 0), (80, 1, 0), (80, 2, 0), (96, 0, -1), (96, 1, -1), (96, 2, -1), (96, 3, -1), (97, 0, 0), (97, 1, 0), (97, 2, 0), (97, 3, 0)]
theorem zD_v : ∀ q ∈ vZD, hpV zD q.1 q.2.1 = q.2.2 := by decide +kernel
theorem gw_ln : ∀ v ∈ gwL, 0 ≤ ln v ∧ ln v ≤ mx v := by decide +kernel
theorem gw_sum : sumL ln = 0 ∧ sumC ln = 0 := by decide +kernel
def MZ : aM := fun v i => hpV zD v i
theorem vzD {a b x : Int} (h : (a, b, x) ∈ vZD) : MZ a b = x := zD_v (a, b, x) h
