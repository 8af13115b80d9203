/-! A LOOP FROM 0 OVER A MEMORY -/
theorem loop_am {c : Int} {p L : Int → Int} {F : Nat → mH → Int → Option mR} {P : Option mR → Prop} (I : Nat → aM → Prop) (N : Nat) (hN : N < 999999)
    (hs : ∀ i : Nat, i < N → ∀ h M, At h c p L M → I i M → ∀ n, P (F (n + 1) h i) ∨ ∃ h' M', At h' c p L M' ∧ I (i + 1) M' ∧ F (n + 1) h i = F n h' ((i + 1 : Nat) : Int))
    (he : ∀ h M, At h c p L M → I N M → ∀ n, P (F (n + 1) h (N : Int))) {h : mH} {M : aM} (A : At h c p L M) (H : I 0 M) : P (F 1000000 h 0) := by
  refine loop_r (F := fun n (b : mH × Int) => F n b.1 b.2) (P := P) (fun i b => b.2 = (i : Int) ∧ ∃ M', At b.1 c p L M' ∧ I i M') N (fun i hi b hb n => ?_) (fun b hb n => ?_) (i := 0) (b := (h, 0)) ⟨rfl, M, A, H⟩ (by omega) (by omega)
  · obtain ⟨h2, r⟩ := b
    obtain ⟨hr_, M2, A2_, H2⟩ := hb
    have hr : r = (i : Int) := hr_
    subst hr
    rcases hs i hi h2 M2 A2_ H2 n with g | ⟨h3, M3, A3, H3, f3⟩
    · exact Or.inl g
    · exact Or.inr ⟨(h3, ((i + 1 : Nat) : Int)), ⟨rfl, M3, A3, H3⟩, f3⟩
  · obtain ⟨h2, r⟩ := b
    obtain ⟨hr_, M2, A2_, H2⟩ := hb
    have hr : r = (N : Int) := hr_
    subst hr
    exact he h2 M2 A2_ H2 n
