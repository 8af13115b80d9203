/-! THE CLAIM OUT OF ONE WALK OF THE LAW'S BODY. Your part is whole_start (and what it stands on); all else here is the same for every law, but numbers. -/
def R_law : String := "NineBarsLaw"
def lw_P (b : Addr) (xs : List Int32) (args : Array Value) (s : State) : Prop := args = #[.ref b] ∧ s.IntsAt b xs ∧ xs.length ≤ 3072 ∧ (Jvm.Cond.and given_1 narrow_1).before args s = true
def lw_Q (_ : Array Value) (s : State) (o : Outcome) (t : State) : Prop := o = .returned (some (.int 1)) ∧ Framed s o t [] 601024 7293034
def lw_Z (below : List Frame) (a : Array Value) (s : State) : State → Prop := fun t => ∃ o, t.status = .running ∧ Ended t below o ∧ lw_Q a s o t
/-- the law's own end, with 1 on the stack, nothing written that was there before, its room as the claim has it -/
theorem lw_ret {p : Program} {l : Launch} {e : Env} {s : State} {m : MethodId} {below : List Frame} {meth : Method} {c : Code} {b : Nat} (hx : p.tables.exec = Jvm.exec) (hb : c.code = code) (hr : meth.sig.returnType = ret) (hlocks : meth.locks = false) {pc : Nat} {H : Heap} {ls : Array Slot} (hdg : decode code pc = .ok (.ireturn, 1)) : W p l e room_1 s m #[Value.ref b] below meth c H [] 601024 7293034 (lw_Z below #[Value.ref b] s) (F0 m pc ls [.int 1]) := by
  intro T hT X
  obtain ⟨fs, hret, hrun, hended, hW, hframe⟩ := X.leave (v := some (.int 1)) (hlocks := hlocks) (fun h => by rw [hr] at h; cases h)
  have hmeth' : T.vm.method? m = some meth := X.method'
  refine ⟨T.setFrames fs, ?_, .returned (some (.int 1)), hrun, hended, rfl, ⟨_, rfl⟩, hW, hframe⟩
  jvm_step X.here [X.here.top, hx, hb, hdg, hmeth', hr, ret, narrow_b1]
  (try refine ⟨rfl, ?_⟩); (try refine ⟨rfl, ?_⟩)
  first | (intro acts; rw [hret _ acts rfl rfl rfl]) | rw [hret _ _ rfl rfl rfl]
  exact Steps.refl _
/-- what holds at the law's entry: the machine, the code, the tables' words (any of lw_tbl by 'hts w (by decide +kernel)'), the script of L ints xs at the cell b, what the Statement gives of the start (any of its parts by flat_of_before) -/
def lw_At (p : Program) (s : State) (m : MethodId) (meth : Method) (c : Code) (b L : Nat) (xs : Nat → Int32) : Prop :=
  p.tables.exec = Jvm.exec ∧ c.code = code ∧ meth.sig.returnType = ret ∧ c.maxLocals = 8 ∧ s.vm.findClass R_law = some m.cls ∧ (∀ w ∈ lw_tbl, w.before #[Value.ref b] s = true) ∧ va_X b L xs s s.heap ∧ b < s.heap.size ∧ meth.locks = false ∧ (Jvm.Cond.and given_1 narrow_1).before #[Value.ref b] s = true
/-! THE LAW FROM ITS ENTRY -/
theorem mRH0 (G : mG) : mRH G mH0 (gS G).heap := ⟨by show ((gS G).heap.size : Int) = gO G + 0; unfold gO; omega, Int.le_refl _, fun _ => .inr (0, []), fun z hz => absurd rfl hz⟩
theorem law_W {p : Program} {e : Env} {s : State} {m : MethodId} {below : List Frame} {meth : Method} {c : Code} {l : Launch} {b L : Nat} {xs : Nat → Int32} (hfl : l.stackTraces = false) (hL : L ≤ 3072) (hname : meth.name = "law") (htab : c.exceptionTable.toList = [])
    (hM : ∀ G : mG, GOK G → ∃ h' : mH, f_Law_law G mH0 = some ((0, 1), h') ∧ hpN h' ≤ 601024 ∧ hpS h' ≤ 7293034)
    (C0 : lw_At p s m meth c b L xs) : W p l e room_1 s m #[Value.ref b] below meth c s.heap [] 0 0 (lw_Z below #[Value.ref b] s) (entryFrame m ([Value.ref b] : List Value).toArray 8) := by
  obtain ⟨hx, hb, hr, hml, hown, hts, hX, hbl, hlocks, hgv⟩ := id C0
  obtain ⟨G, g, rfl, rfl, rfl, rfl, rfl⟩ := gok_of hfl hL hts hX hbl hgv
  obtain ⟨h', h1, h2, h3⟩ := hM G g
  have hJ := t_Law_law (G := G) mH0 _ h1
  have hl := lv_entry ([.ref (gB G)]) (n := 8) (Nat.le_of_ble_eq_true rfl)
  rw [lg_entry_eq]
  generalize (lg_sl ([.ref (gB G)]) ++ List.replicate (8 - (lg_sl ([.ref (gB G)])).length) Slot.unset).toArray = ls at hl ⊢
  have hl : lv_has ls 8 [(0, .ref (gB G))] := hl
  have hW := hJ.2 p e room_1 (gS G) m #[Value.ref (gB G)] below meth c (gS G).heap [] 0 0 601024 7293034 ls [] ⟨hx, hb, hml, hr, hlocks, htab, hown, hname, fun w hw => hts w hw.1, ⟨State.WarmedH.refl _, Nat.le_refl _, fun q _ => rfl⟩, by decide +kernel, g⟩ va_S.rf (mRH0 G) ⟨rfl, _, hl, fun i q hq ht => by
      match i, hq with
      | 0, hq => cases hq; exact ⟨_, List.mem_cons_self, rfl, rfl⟩
      | 1, hq => cases hq; exact absurd ht (by decide)
      | 2, hq => cases hq; exact absurd ht (by decide)
      | 3, hq => cases hq; exact absurd ht (by decide)
      | 4, hq => cases hq; exact absurd ht (by decide)
      | 5, hq => cases hq; exact absurd ht (by decide)
      | 6, hq => cases hq; exact absurd ht (by decide)
      | 7, hq => cases hq; exact absurd ht (by decide)
      | i + 8, hq => simp at hq⟩ trivial (by show (0 : Int) + (hpN h' - 0) ≤ _; omega) (by show (0 : Int) + (hpS h' - 0) ≤ _; omega) (Nat.le_refl _) (Nat.le_refl _)
  intro T hT X
  obtain ⟨t, a1, o, b1, b2, b3⟩ := hW T hT X
  refine ⟨t, a1, o, b1, b2, ?_⟩
  rcases b3 with ⟨⟨⟨v, rfl, hv, -⟩, -⟩, L9, hF, hfree⟩ | ⟨q, -, E, ce, L9, hXC, -⟩
  · refine ⟨?_, ?_⟩
    · cases v with
      | none => exact absurd (show (0 : Nat) = 3 from hv) (by decide)
      | some v =>
        obtain ⟨x, rfl, hx1⟩ := mRV_i (show mRV G (0, 1) v from hv)
        have : x = 1 := by rw [← Int32.toInt_inj, hx1]; rfl
        rw [this]
    · obtain ⟨k1, k2, k3⟩ := hF
      exact ⟨k1, k2, k3.weaken (fun y hy hlt => absurd hlt (Nat.not_lt.mpr (hfree y hy))) (Nat.le_refl _) (Nat.le_refl _)⟩
  · exact absurd (congrArg Prod.fst hXC.1) (show ¬ (0 : Nat) = 4 by decide)
