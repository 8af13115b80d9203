/-! A BOX BECOMES ANOTHER ONE: the two boxes of the class, the images -/
def bxI : List Int := [5, 18, 100, 113, 126]
def BX (M : aM) (v : Int) : Prop := v ∈ bxI ∧ lv M v
def bln (j : Int) : Int := if j ≤ 5 then 9 else if j ≤ 9 then 24 else 96
theorem lv_of {M M' : aM} {v : Int} (h : M' 31 = M 31) : lv M v → lv M' v := fun g => by unfold lv at g ⊢; rw [h]; exact g
theorem BX.of {M M' : aM} {v : Int} (h : M' 31 = M 31) (b : BX M v) : BX M' v := ⟨b.1, lv_of h b.2⟩
theorem BX.pl {M : aM} {v j : Int} (b : BX M v) (h0 : 0 ≤ j) (h1 : j ≤ 12) : lv M (v + j) := by
  obtain ⟨b1, b2⟩ := b
  simp only [bxI, List.mem_cons, List.not_mem_nil, or_false] at b1
  unfold lv at b2 ⊢
  rcases b2 with q | ⟨q1, q2, q3⟩
  · exact Or.inl (by omega)
  · right
    refine ⟨by omega, by omega, ?_⟩
    rw [show (v + j - 100) / 13 = (v - 100) / 13 by omega]; exact q3
theorem bx_static {v : Int} (h : v ∈ bxI) : kd v = 1 ∧ (∀ k : Fin 6, pt v (k.val : Int) = 0) ∧ (∀ k : Fin 12, pt v ((k.val : Int) + 6) = v + ((k.val : Int) + 1)) ∧ (∀ k : Fin 12, kd (v + ((k.val : Int) + 1)) = 21) := by
  simp only [bxI, List.mem_cons, List.not_mem_nil, or_false] at h
  rcases h with rfl | rfl | rfl | rfl | rfl <;> decide +kernel
theorem bx_ln {v : Int} (h : v ∈ bxI) : ∀ k : Fin 12, ln (v + ((k.val : Int) + 1)) = bln ((k.val : Int) + 1) := by
  simp only [bxI, List.mem_cons, List.not_mem_nil, or_false] at h
  rcases h with rfl | rfl | rfl | rfl | rfl <;> decide +kernel
theorem bx_gw {v : Int} (h : v ∈ bxI) : ∀ k : Fin 13, v + (k.val : Int) ∉ gwL := by
  simp only [bxI, List.mem_cons, List.not_mem_nil, or_false] at h
  rcases h with rfl | rfl | rfl | rfl | rfl <;> decide +kernel
section
variable {h : mH} {c : Int} {p L : Int → Int} {M : aM}
theorem At.bL (A : At h c p L M) {v : Int} (b : BX M v) (k : Fin 12) : hpL h (p (v + ((k.val : Int) + 1))) = bln ((k.val : Int) + 1) := by
  have hl := b.pl (j := (k.val : Int) + 1) (by omega) (by have := k.isLt; omega)
  rw [A.Ln hl (by rw [(bx_static b.1).2.2.2 k]; exact Nat.le_refl _)]
  have hb := b.1
  have hk := k.isLt
  rw [← bx_ln b.1 k]
  simp only [bxI, List.mem_cons, List.not_mem_nil, or_false] at hb
  by_cases q : v < 100
  · have hg := bx_gw b.1 ⟨k.val + 1, by omega⟩
    exact (A.fx (by omega) (by omega) (by simpa using hg)).2
  · exact A.2.2.2.2.1 _ (by omega) (by omega)
theorem At.bx (A : At h c p L M) {v : Int} (b : BX M v) : hpT h (p v) = 1 ∧ hpV h (p v) 0 = M v 0 ∧ hpV h (p v) 1 = M v 1 ∧ hpV h (p v) 2 = M v 2 ∧ hpV h (p v) 3 = M v 3 ∧ hpV h (p v) 4 = M v 4 ∧ hpV h (p v) 5 = M v 5 ∧ hpV h (p v) 6 = p (v + 1) ∧ hpV h (p v) 7 = p (v + 2) ∧ hpV h (p v) 8 = p (v + 3) ∧ hpV h (p v) 9 = p (v + 4) ∧ hpV h (p v) 10 = p (v + 5) ∧ hpV h (p v) 11 = p (v + 6) ∧ hpV h (p v) 12 = p (v + 7) ∧ hpV h (p v) 13 = p (v + 8) ∧ hpV h (p v) 14 = p (v + 9) ∧ hpV h (p v) 15 = p (v + 10) ∧ hpV h (p v) 16 = p (v + 11) ∧ hpV h (p v) 17 = p (v + 12) ∧ hpT h (p (v + 1)) = 21 ∧ hpT h (p (v + 2)) = 21 ∧ hpT h (p (v + 3)) = 21 ∧ hpT h (p (v + 4)) = 21 ∧ hpT h (p (v + 5)) = 21 ∧ hpT h (p (v + 6)) = 21 ∧ hpT h (p (v + 7)) = 21 ∧ hpT h (p (v + 8)) = 21 ∧ hpT h (p (v + 9)) = 21 ∧ hpT h (p (v + 10)) = 21 ∧ hpT h (p (v + 11)) = 21 ∧ hpT h (p (v + 12)) = 21 ∧ hpL h (p (v + 1)) = 9 ∧ hpL h (p (v + 2)) = 9 ∧ hpL h (p (v + 3)) = 9 ∧ hpL h (p (v + 4)) = 9 ∧ hpL h (p (v + 5)) = 9 ∧ hpL h (p (v + 6)) = 24 ∧ hpL h (p (v + 7)) = 24 ∧ hpL h (p (v + 8)) = 24 ∧ hpL h (p (v + 9)) = 24 ∧ hpL h (p (v + 10)) = 96 ∧ hpL h (p (v + 11)) = 96 ∧ hpL h (p (v + 12)) = 96 := by
  obtain ⟨s1, s2, s3, s4⟩ := bx_static b.1
  have hb : 0 < v := by
    have := b.1
    simp only [bxI, List.mem_cons, List.not_mem_nil, or_false] at this; omega
  exact ⟨(A.T b.2).trans s1,
    A.V 0 b.2 (s2 ⟨0, by decide⟩),
    A.V 1 b.2 (s2 ⟨1, by decide⟩),
    A.V 2 b.2 (s2 ⟨2, by decide⟩),
    A.V 3 b.2 (s2 ⟨3, by decide⟩),
    A.V 4 b.2 (s2 ⟨4, by decide⟩),
    A.V 5 b.2 (s2 ⟨5, by decide⟩),
    (A.P 6 b.2 (by rw [show pt v 6 = v + 1 from s3 ⟨0, by decide⟩]; omega)).trans (by rw [show pt v 6 = v + 1 from s3 ⟨0, by decide⟩]),
    (A.P 7 b.2 (by rw [show pt v 7 = v + 2 from s3 ⟨1, by decide⟩]; omega)).trans (by rw [show pt v 7 = v + 2 from s3 ⟨1, by decide⟩]),
    (A.P 8 b.2 (by rw [show pt v 8 = v + 3 from s3 ⟨2, by decide⟩]; omega)).trans (by rw [show pt v 8 = v + 3 from s3 ⟨2, by decide⟩]),
    (A.P 9 b.2 (by rw [show pt v 9 = v + 4 from s3 ⟨3, by decide⟩]; omega)).trans (by rw [show pt v 9 = v + 4 from s3 ⟨3, by decide⟩]),
    (A.P 10 b.2 (by rw [show pt v 10 = v + 5 from s3 ⟨4, by decide⟩]; omega)).trans (by rw [show pt v 10 = v + 5 from s3 ⟨4, by decide⟩]),
    (A.P 11 b.2 (by rw [show pt v 11 = v + 6 from s3 ⟨5, by decide⟩]; omega)).trans (by rw [show pt v 11 = v + 6 from s3 ⟨5, by decide⟩]),
    (A.P 12 b.2 (by rw [show pt v 12 = v + 7 from s3 ⟨6, by decide⟩]; omega)).trans (by rw [show pt v 12 = v + 7 from s3 ⟨6, by decide⟩]),
    (A.P 13 b.2 (by rw [show pt v 13 = v + 8 from s3 ⟨7, by decide⟩]; omega)).trans (by rw [show pt v 13 = v + 8 from s3 ⟨7, by decide⟩]),
    (A.P 14 b.2 (by rw [show pt v 14 = v + 9 from s3 ⟨8, by decide⟩]; omega)).trans (by rw [show pt v 14 = v + 9 from s3 ⟨8, by decide⟩]),
    (A.P 15 b.2 (by rw [show pt v 15 = v + 10 from s3 ⟨9, by decide⟩]; omega)).trans (by rw [show pt v 15 = v + 10 from s3 ⟨9, by decide⟩]),
    (A.P 16 b.2 (by rw [show pt v 16 = v + 11 from s3 ⟨10, by decide⟩]; omega)).trans (by rw [show pt v 16 = v + 11 from s3 ⟨10, by decide⟩]),
    (A.P 17 b.2 (by rw [show pt v 17 = v + 12 from s3 ⟨11, by decide⟩]; omega)).trans (by rw [show pt v 17 = v + 12 from s3 ⟨11, by decide⟩]),
    (A.T (b.pl (by decide) (by decide))).trans (s4 ⟨0, by decide⟩),
    (A.T (b.pl (by decide) (by decide))).trans (s4 ⟨1, by decide⟩),
    (A.T (b.pl (by decide) (by decide))).trans (s4 ⟨2, by decide⟩),
    (A.T (b.pl (by decide) (by decide))).trans (s4 ⟨3, by decide⟩),
    (A.T (b.pl (by decide) (by decide))).trans (s4 ⟨4, by decide⟩),
    (A.T (b.pl (by decide) (by decide))).trans (s4 ⟨5, by decide⟩),
    (A.T (b.pl (by decide) (by decide))).trans (s4 ⟨6, by decide⟩),
    (A.T (b.pl (by decide) (by decide))).trans (s4 ⟨7, by decide⟩),
    (A.T (b.pl (by decide) (by decide))).trans (s4 ⟨8, by decide⟩),
    (A.T (b.pl (by decide) (by decide))).trans (s4 ⟨9, by decide⟩),
    (A.T (b.pl (by decide) (by decide))).trans (s4 ⟨10, by decide⟩),
    (A.T (b.pl (by decide) (by decide))).trans (s4 ⟨11, by decide⟩),
    A.bL b ⟨0, by decide⟩,
    A.bL b ⟨1, by decide⟩,
    A.bL b ⟨2, by decide⟩,
    A.bL b ⟨3, by decide⟩,
    A.bL b ⟨4, by decide⟩,
    A.bL b ⟨5, by decide⟩,
    A.bL b ⟨6, by decide⟩,
    A.bL b ⟨7, by decide⟩,
    A.bL b ⟨8, by decide⟩,
    A.bL b ⟨9, by decide⟩,
    A.bL b ⟨10, by decide⟩,
    A.bL b ⟨11, by decide⟩⟩
def bcp (M : aM) (a d k : Int) : aM := fun w i => if w = d ∧ 0 ≤ i ∧ i < k then M a i else M w i
def bcc (M : aM) (a d m : Int) : aM := fun w i => if d + 1 ≤ w ∧ w < d + 1 + m ∧ 0 ≤ i ∧ i < bln (w - d) then M (a + (w - d)) i else bcp M a d 6 w i
theorem bcp_0 (M : aM) (a d : Int) : bcp M a d 0 = M := by funext w i; unfold bcp; rw [if_neg (by omega)]
theorem bcc_0 (M : aM) (a d : Int) : bcc M a d 0 = bcp M a d 6 := by funext w i; unfold bcc; rw [if_neg (by omega)]
theorem bcp_s {M : aM} {a d k : Int} (h : a ≠ d) (h0 : 0 ≤ k) : mup (bcp M a d k) d k (bcp M a d k a k) = bcp M a d (k + 1) := by
  funext w i
  unfold mup bcp
  by_cases e : w = d ∧ i = k
  · rw [if_pos e, if_neg (fun q => h q.1), if_pos ⟨e.1, by omega, by omega⟩, e.2]
  · rw [if_neg e]
    by_cases e2 : w = d ∧ 0 ≤ i ∧ i < k
    · rw [if_pos e2, if_pos ⟨e2.1, e2.2.1, by omega⟩]
    · rw [if_neg e2, if_neg (fun q => by
        by_cases e3 : i = k
        · exact e ⟨q.1, e3⟩
        · exact e2 ⟨q.1, q.2.1, by omega⟩)]
theorem bcc_s {M : aM} {a d m : Int} (h : ∀ x y : Int, 0 ≤ x → x ≤ 12 → 0 ≤ y → y ≤ 12 → a + x ≠ d + y) (h0 : 0 ≤ m) (h1 : m < 12) : mcp (bcc M a d m) (a + (m + 1)) 0 (d + (m + 1)) 0 (bln (m + 1)) = bcc M a d (m + 1) := by
  funext w i
  unfold mcp
  by_cases e : w = d + (m + 1) ∧ 0 ≤ i ∧ i < 0 + bln (m + 1)
  · rw [if_pos e]
    obtain ⟨e1, e2, e3⟩ := e
    subst e1
    have e4 : ∀ k, bcc M a d m (a + (m + 1)) k = M (a + (m + 1)) k := fun k => by
      unfold bcc bcp
      rw [if_neg, if_neg]
      · intro q; have := h (m + 1) 0 (by omega) (by omega) (by omega) (by omega); omega
      · intro q; have := h (m + 1) (a + (m + 1) - d) (by omega) (by omega) (by omega) (by omega); omega
    rw [e4]
    unfold bcc
    rw [if_pos ⟨by omega, by omega, e2, by rw [show d + (m + 1) - d = m + 1 by omega]; omega⟩, show a + (d + (m + 1) - d) = a + (m + 1) by omega, show 0 + (i - 0) = i by omega]
  · rw [if_neg e]
    unfold bcc
    by_cases e2 : d + 1 ≤ w ∧ w < d + 1 + m ∧ 0 ≤ i ∧ i < bln (w - d)
    · rw [if_pos e2, if_pos ⟨e2.1, by omega, e2.2.2.1, e2.2.2.2⟩]
    · rw [if_neg e2, if_neg (fun q => by
        by_cases e3 : w = d + (m + 1)
        · exact e ⟨e3, q.2.2.1, by have := q.2.2.2; rw [e3, show d + (m + 1) - d = m + 1 by omega] at this; omega⟩
        · exact e2 ⟨q.1, by omega, q.2.2.1, q.2.2.2⟩)]
theorem bx_far {M : aM} {a d : Int} (ha : BX M a) (hd : BX M d) (h : a ≠ d) : ∀ x y : Int, 0 ≤ x → x ≤ 12 → 0 ≤ y → y ≤ 12 → a + x ≠ d + y := by
  have h1 := ha.1
  have h2 := hd.1
  simp only [bxI, List.mem_cons, List.not_mem_nil, or_false] at h1 h2
  intro x y q0 q1 q2 q3; omega
theorem bx_31 {M : aM} {d : Int} (hd : BX M d) : ∀ y : Int, 0 ≤ y → y ≤ 12 → d + y ≠ 31 ∧ d + y ≠ 32 := by
  have h2 := hd.1
  simp only [bxI, List.mem_cons, List.not_mem_nil, or_false] at h2
  intro y q2 q3; omega
theorem bcp_31 {M : aM} {a d k : Int} (hd : BX M d) : bcp M a d k 31 = M 31 := by
  funext i; unfold bcp; rw [if_neg]; intro q; have := (bx_31 hd 0 (by decide) (by decide)).1; omega
theorem bcc_31 {M : aM} {a d m : Int} (hd : BX M d) (hm : m ≤ 12) : bcc M a d m 31 = M 31 := by
  funext i; unfold bcc; rw [if_neg]
  · exact congrFun (bcp_31 hd) i
  · intro q; have := (bx_31 hd (31 - d) (by omega) (by omega)).1; omega
theorem bput {a d k : Int} (A : At h c p L (bcp M a d k)) (ha : BX M a) (hd : BX M d) (hne : a ≠ d) (kk : Fin 6) (hk : k = (kk.val : Int)) : At (hput h (p d) k (bcp M a d k a k)) c p L (bcp M a d (k + 1)) := by
  have := A.put k (bcp M a d k a k) (lv_of (bcp_31 hd) hd.2) (by rw [hk]; exact (bx_static hd.1).2.1 kk) (by have := (bx_31 hd 0 (by decide) (by decide)).1; omega)
  rwa [bcp_s hne (by omega)] at this
theorem bcpy {a d m : Int} (A : At h c p L (bcc M a d m)) (ha : BX M a) (hd : BX M d) (hne : a ≠ d) (kk : Fin 12) (hk : m = (kk.val : Int)) {n : Int} (hn : n = bln (m + 1)) {x y : Int} (hx : x = a + (m + 1)) (hy : y = d + (m + 1)) : At (hcpy h (p x) 0 (p y) 0 n) c p L (bcc M a d (m + 1)) := by
  have hm := kk.isLt
  have q1 := bx_31 ha (m + 1) (by omega) (by omega)
  have q2 := bx_31 hd (m + 1) (by omega) (by omega)
  have k1 : kd (a + (m + 1)) = 21 := by rw [hk]; exact (bx_static ha.1).2.2.2 kk
  have k2 : kd (d + (m + 1)) = 21 := by rw [hk]; exact (bx_static hd.1).2.2.2 kk
  have := A.cpy (a := a + (m + 1)) (d := d + (m + 1)) 0 0 n (lv_of (bcc_31 hd (by omega)) (ha.pl (by omega) (by omega))) (lv_of (bcc_31 hd (by omega)) (hd.pl (by omega) (by omega))) ⟨by rw [k1]; exact Nat.le_refl _, q1.2⟩ ⟨by rw [k2]; exact Nat.le_refl _, q2.2⟩ q2.1
  rw [hn, bcc_s (bx_far ha hd hne) (by omega) (by omega)] at this
  rw [hx, hy, hn]; exact this
theorem s_become (A : At h c p L M) {a d : Int} (ha : BX M a) (hd : BX M d) (hne : a ≠ d) : ∃ h', f_Box_become h (p d) (p a) = some ((3, 0), h') ∧ At h' c p L (bcc M a d 12) := by
  have A0 : At h c p L (bcp M a d 0) := by rw [bcp_0]; exact A
  unfold f_Box_become
  have X0 := A0.bx (ha.of (bcp_31 hd))
  have Y0 := A0.bx (hd.of (bcp_31 hd))
  simp only [X0, Y0]
  rw [chk_t trivial, chk_t trivial, wth]
  have A1 : At _ c p L (bcp M a d 1) := bput A0 ha hd hne ⟨0, by decide⟩ rfl
  clear X0 Y0
  have X1 := A1.bx (ha.of (bcp_31 hd))
  have Y1 := A1.bx (hd.of (bcp_31 hd))
  simp only [X1, Y1]
  rw [chk_t trivial, chk_t trivial, wth]
  have A2 : At _ c p L (bcp M a d 2) := bput A1 ha hd hne ⟨1, by decide⟩ rfl
  clear X1 Y1
  have X2 := A2.bx (ha.of (bcp_31 hd))
  have Y2 := A2.bx (hd.of (bcp_31 hd))
  simp only [X2, Y2]
  rw [chk_t trivial, chk_t trivial, wth]
  have A3 : At _ c p L (bcp M a d 3) := bput A2 ha hd hne ⟨2, by decide⟩ rfl
  clear X2 Y2
  have X3 := A3.bx (ha.of (bcp_31 hd))
  have Y3 := A3.bx (hd.of (bcp_31 hd))
  simp only [X3, Y3]
  rw [chk_t trivial, chk_t trivial, wth]
  have A4 : At _ c p L (bcp M a d 4) := bput A3 ha hd hne ⟨3, by decide⟩ rfl
  clear X3 Y3
  have X4 := A4.bx (ha.of (bcp_31 hd))
  have Y4 := A4.bx (hd.of (bcp_31 hd))
  simp only [X4, Y4]
  rw [chk_t trivial, chk_t trivial, wth]
  have A5 : At _ c p L (bcp M a d 5) := bput A4 ha hd hne ⟨4, by decide⟩ rfl
  clear X4 Y4
  have X5 := A5.bx (ha.of (bcp_31 hd))
  have Y5 := A5.bx (hd.of (bcp_31 hd))
  simp only [X5, Y5]
  rw [chk_t trivial, chk_t trivial, wth]
  have A6 : At _ c p L (bcp M a d 6) := bput A5 ha hd hne ⟨5, by decide⟩ rfl
  clear X5 Y5
  have B0 := A6
  rw [← bcc_0] at B0
  have X0 := B0.bx (ha.of (bcc_31 hd (by decide)))
  have Y0 := B0.bx (hd.of (bcc_31 hd (by decide)))
  simp only [X0, Y0]
  rw [chk_t trivial, chk_t trivial, chk_t (by decide), wth]
  have B1 : At _ c p L (bcc M a d 1) := bcpy B0 ha hd hne ⟨0, by decide⟩ rfl (n := 9) rfl (x := a + 1) (y := d + 1) rfl rfl
  clear X0 Y0
  have X1 := B1.bx (ha.of (bcc_31 hd (by decide)))
  have Y1 := B1.bx (hd.of (bcc_31 hd (by decide)))
  simp only [X1, Y1]
  rw [chk_t trivial, chk_t trivial, chk_t (by decide), wth]
  have B2 : At _ c p L (bcc M a d 2) := bcpy B1 ha hd hne ⟨1, by decide⟩ rfl (n := 9) rfl (x := a + 2) (y := d + 2) rfl rfl
  clear X1 Y1
  have X2 := B2.bx (ha.of (bcc_31 hd (by decide)))
  have Y2 := B2.bx (hd.of (bcc_31 hd (by decide)))
  simp only [X2, Y2]
  rw [chk_t trivial, chk_t trivial, chk_t (by decide), wth]
  have B3 : At _ c p L (bcc M a d 3) := bcpy B2 ha hd hne ⟨2, by decide⟩ rfl (n := 9) rfl (x := a + 3) (y := d + 3) rfl rfl
  clear X2 Y2
  have X3 := B3.bx (ha.of (bcc_31 hd (by decide)))
  have Y3 := B3.bx (hd.of (bcc_31 hd (by decide)))
  simp only [X3, Y3]
  rw [chk_t trivial, chk_t trivial, chk_t (by decide), wth]
  have B4 : At _ c p L (bcc M a d 4) := bcpy B3 ha hd hne ⟨3, by decide⟩ rfl (n := 9) rfl (x := a + 4) (y := d + 4) rfl rfl
  clear X3 Y3
  have X4 := B4.bx (ha.of (bcc_31 hd (by decide)))
  have Y4 := B4.bx (hd.of (bcc_31 hd (by decide)))
  simp only [X4, Y4]
  rw [chk_t trivial, chk_t trivial, chk_t (by decide), wth]
  have B5 : At _ c p L (bcc M a d 5) := bcpy B4 ha hd hne ⟨4, by decide⟩ rfl (n := 9) rfl (x := a + 5) (y := d + 5) rfl rfl
  clear X4 Y4
  have X5 := B5.bx (ha.of (bcc_31 hd (by decide)))
  have Y5 := B5.bx (hd.of (bcc_31 hd (by decide)))
  simp only [X5, Y5]
  rw [chk_t trivial, chk_t trivial, chk_t (by decide), wth]
  have B6 : At _ c p L (bcc M a d 6) := bcpy B5 ha hd hne ⟨5, by decide⟩ rfl (n := 24) rfl (x := a + 6) (y := d + 6) rfl rfl
  clear X5 Y5
  have X6 := B6.bx (ha.of (bcc_31 hd (by decide)))
  have Y6 := B6.bx (hd.of (bcc_31 hd (by decide)))
  simp only [X6, Y6]
  rw [chk_t trivial, chk_t trivial, chk_t (by decide), wth]
  have B7 : At _ c p L (bcc M a d 7) := bcpy B6 ha hd hne ⟨6, by decide⟩ rfl (n := 24) rfl (x := a + 7) (y := d + 7) rfl rfl
  clear X6 Y6
  have X7 := B7.bx (ha.of (bcc_31 hd (by decide)))
  have Y7 := B7.bx (hd.of (bcc_31 hd (by decide)))
  simp only [X7, Y7]
  rw [chk_t trivial, chk_t trivial, chk_t (by decide), wth]
  have B8 : At _ c p L (bcc M a d 8) := bcpy B7 ha hd hne ⟨7, by decide⟩ rfl (n := 24) rfl (x := a + 8) (y := d + 8) rfl rfl
  clear X7 Y7
  have X8 := B8.bx (ha.of (bcc_31 hd (by decide)))
  have Y8 := B8.bx (hd.of (bcc_31 hd (by decide)))
  simp only [X8, Y8]
  rw [chk_t trivial, chk_t trivial, chk_t (by decide), wth]
  have B9 : At _ c p L (bcc M a d 9) := bcpy B8 ha hd hne ⟨8, by decide⟩ rfl (n := 24) rfl (x := a + 9) (y := d + 9) rfl rfl
  clear X8 Y8
  have X9 := B9.bx (ha.of (bcc_31 hd (by decide)))
  have Y9 := B9.bx (hd.of (bcc_31 hd (by decide)))
  simp only [X9, Y9]
  rw [chk_t trivial, chk_t trivial, chk_t (by decide), wth]
  have B10 : At _ c p L (bcc M a d 10) := bcpy B9 ha hd hne ⟨9, by decide⟩ rfl (n := 96) rfl (x := a + 10) (y := d + 10) rfl rfl
  clear X9 Y9
  have X10 := B10.bx (ha.of (bcc_31 hd (by decide)))
  have Y10 := B10.bx (hd.of (bcc_31 hd (by decide)))
  simp only [X10, Y10]
  rw [chk_t trivial, chk_t trivial, chk_t (by decide), wth]
  have B11 : At _ c p L (bcc M a d 11) := bcpy B10 ha hd hne ⟨10, by decide⟩ rfl (n := 96) rfl (x := a + 11) (y := d + 11) rfl rfl
  clear X10 Y10
  have X11 := B11.bx (ha.of (bcc_31 hd (by decide)))
  have Y11 := B11.bx (hd.of (bcc_31 hd (by decide)))
  simp only [X11, Y11]
  rw [chk_t trivial, chk_t trivial, chk_t (by decide), wth]
  have B12 : At _ c p L (bcc M a d 12) := bcpy B11 ha hd hne ⟨11, by decide⟩ rfl (n := 96) rfl (x := a + 12) (y := d + 12) rfl rfl
  clear X11 Y11
  exact ⟨_, rfl, B12⟩
/-- a box as told, wherever it lies -/
def BRx (M : aM) (v : Int) (t : tT) : Prop := (M v 1 = t 0 ∧ M v 2 = nb t ∧ M v 3 = nr t ∧ M v 4 = ne t ∧ M v 5 = we t) ∧
  (∀ b, 0 ≤ b → b < nb t → M (v + 1) b = pl t b ∧ M (v + 2) b = ps t b ∧ M (v + 3) b = po t b ∧ M (v + 4) b = pa t b ∧ M (v + 5) b = md t b) ∧
  (∀ r, 0 ≤ r → r < nr t → M (v + 6) r = rb t r ∧ M (v + 7) r = rf t r ∧ M (v + 8) r = rt t r ∧ M (v + 9) r = rn t r ∧ ∀ f, 0 ≤ f → f < rn t r → M (v + 10) (4 * r + f) = fb t r f ∧ M (v + 11) (4 * r + f) = fp t r f ∧ M (v + 12) (4 * r + f) = fn t r f)
theorem BR5.x {t : tT} (R : BR5 M t) : BRx M 5 t := R
theorem BRx.five {t : tT} (R : BRx M 5 t) : BR5 M t := R
theorem BR18.x {t : tT} (R : BR18 M t) : BRx M 18 t := R
theorem BRx.eighteen {t : tT} (R : BRx M 18 t) : BR18 M t := R
theorem BRx.eq {M M' : aM} {v : Int} {t : tT} (R : BRx M v t) (h : ∀ j, 0 ≤ j → j ≤ 12 → M' (v + j) = M (v + j)) : BRx M' v t := by
  unfold BRx at R ⊢
  have h0 := h 0 (by decide) (by decide)
  rw [Int.add_zero] at h0
  rw [h0, h 1 (by decide) (by decide), h 2 (by decide) (by decide), h 3 (by decide) (by decide), h 4 (by decide) (by decide), h 5 (by decide) (by decide), h 6 (by decide) (by decide), h 7 (by decide) (by decide), h 8 (by decide) (by decide), h 9 (by decide) (by decide), h 10 (by decide) (by decide), h 11 (by decide) (by decide), h 12 (by decide) (by decide)]
  exact R
theorem bcc_d {M : aM} {a d : Int} {i : Int} (h0 : 0 ≤ i) (h1 : i < 6) : bcc M a d 12 d i = M a i := by
  unfold bcc bcp; rw [if_neg (by omega), if_pos ⟨rfl, h0, h1⟩]
theorem bcc_j {M : aM} {a d : Int} {j i : Int} (h0 : 1 ≤ j) (h1 : j ≤ 12) (h2 : 0 ≤ i) (h3 : i < bln j) : bcc M a d 12 (d + j) i = M (a + j) i := by
  unfold bcc; rw [if_pos ⟨by omega, by omega, h2, by rw [show d + j - d = j by omega]; exact h3⟩, show a + (d + j - d) = a + j by omega]
theorem bcc_o {M : aM} {a d v : Int} (h : v < d ∨ d + 12 < v) : bcc M a d 12 v = M v := by
  funext i; unfold bcc bcp; rw [if_neg (by omega), if_neg (by omega)]
theorem BRx.become {a d : Int} {t : tT} (W : WS t) (R : BRx M a t) : BRx (bcc M a d 12) d t := by
  obtain ⟨r1, r2, r3⟩ := R
  have w1 := W.1
  have w2 := W.2.1
  refine ⟨?_, fun b g0 g1 => ?_, fun r g0 g1 => ?_⟩
  · rw [bcc_d (by decide) (by decide), bcc_d (by decide) (by decide), bcc_d (by decide) (by decide), bcc_d (by decide) (by decide), bcc_d (by decide) (by decide)]; exact r1
  · have hb : ∀ j, j ≤ 5 → b < bln j := fun j hj => by unfold bln; rw [if_pos hj]; omega
    rw [bcc_j (by decide) (by decide) g0 (hb _ (by decide)), bcc_j (by decide) (by decide) g0 (hb _ (by decide)), bcc_j (by decide) (by decide) g0 (hb _ (by decide)), bcc_j (by decide) (by decide) g0 (hb _ (by decide)), bcc_j (by decide) (by decide) g0 (hb _ (by decide))]
    exact r2 b g0 g1
  · have hb : ∀ j, 5 < j → j ≤ 9 → r < bln j := fun j hj hj2 => by unfold bln; rw [if_neg (by omega), if_pos hj2]; omega
    have wr := W.2.2.2.2.2.2 r g0 g1
    obtain ⟨q1, q2, q3, q4, q5⟩ := r3 r g0 g1
    refine ⟨?_, ?_, ?_, ?_, fun f f0 f1 => ?_⟩
    · rw [bcc_j (by decide) (by decide) g0 (hb _ (by decide) (by decide))]; exact q1
    · rw [bcc_j (by decide) (by decide) g0 (hb _ (by decide) (by decide))]; exact q2
    · rw [bcc_j (by decide) (by decide) g0 (hb _ (by decide) (by decide))]; exact q3
    · rw [bcc_j (by decide) (by decide) g0 (hb _ (by decide) (by decide))]; exact q4
    · have hf : ∀ j, 9 < j → 4 * r + f < bln j := fun j hj => by unfold bln; rw [if_neg (by omega), if_neg (by omega)]; have := wr.2.2.2.2.1; omega
      rw [bcc_j (by decide) (by decide) (by omega) (hf _ (by decide)), bcc_j (by decide) (by decide) (by omega) (hf _ (by decide)), bcc_j (by decide) (by decide) (by omega) (hf _ (by decide))]
      exact q5 f f0 f1
theorem BX5 (M : aM) : BX M 5 := ⟨by decide, lv_fix M (by decide) (by decide)⟩
theorem BX18 (M : aM) : BX M 18 := ⟨by decide, lv_fix M (by decide) (by decide)⟩
theorem At.p5 (A : At h c p L M) : p 5 = 5 := (A.fx (by decide) (by decide) (by decide)).1
theorem At.p18 (A : At h c p L M) : p 18 = 18 := (A.fx (by decide) (by decide) (by decide)).1
end
