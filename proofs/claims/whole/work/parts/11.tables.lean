/-! THE LITTLE MACHINE: less known, one case of a table; the tables' words by their places -/
section
variable {G : mG} {M My : mM} {pc : Nat} {ls ls' st : List mV} {h : mH} {r : mR}
def mWk (ls ls' : List mV) : Prop := ls'.length = ls.length ∧ ∀ (i : Nat) (q : mV), ls'[i]? = some q → q.1 < 3 → ls[i]? = some q
theorem mwk_n : mWk [] [] := ⟨rfl, fun i q h _ => by simp at h⟩
theorem mwk_s {q : mV} {a b : List mV} (h : mWk a b) : mWk (q :: a) (q :: b) := ⟨by rw [List.length_cons, List.length_cons, h.1], fun i u h1 h2 => by
  cases i with
  | zero => exact h1
  | succ i => exact h.2 i u h1 h2⟩
theorem mwk_d {q : mV} {a b : List mV} (h : mWk a b) : mWk (q :: a) ((9, 0) :: b) := ⟨by rw [List.length_cons, List.length_cons, h.1], fun i u h1 h2 => by
  cases i with
  | zero =>
    cases Option.some.inj h1
    exact absurd h2 (by decide)
  | succ i => exact h.2 i u h1 h2⟩
theorem mJ_weak (hw : mWk ls ls') (k : mJ G M pc ls' st h r) : mJ G M pc ls st h r := by
  refine ⟨k.1, fun p e R s m args below meth c H locs cells slots mc ms lsA mst hC hS hH hL hst h1 h2 h3 h4 => k.2 p e R s m args below meth c H locs cells slots mc ms lsA mst hC hS hH ⟨by rw [hw.1]; exact hL.1, ?_⟩ hst h1 h2 h3 h4⟩
  obtain ⟨-, lst, a1, a2⟩ := hL
  exact ⟨lst, a1, fun i q hq ht => a2 i q (hw.2 i q hq ht) ht⟩
theorem j_tabK {a c dflt lo hi off : Int} {offs : Array Int} {len tgt : Nat} {A B : Option mR} (hd : decode (mB M) pc = .ok (.tableswitch dflt lo hi offs, len)) (h1 : ¬ c < lo) (h2 : ¬ hi < c) (ho : offs[(c - lo).toNat]? = some off) (ht : (pc : Int) + off = (tgt : Int)) (hr : (if a = c then A else B) = some r) (kt : A = some r → mJ G M tgt ls st h r) (kf : ¬ a = c → B = some r → mJ G M pc ls ((0, a) :: st) h r) : mJ G M pc ls ((0, a) :: st) h r := by
  by_cases hc : a = c
  · rw [if_pos hc] at hr
    subst hc
    exact j_tabIn hd h1 h2 ho ht (kt hr)
  · rw [if_neg hc] at hr
    exact kf hc hr
theorem mRV_def0 (G : mG) : mRV G (0, 0) (.int 0) ∧ mRV G (1, 0) (.long 0) ∧ mRV G (2, 0) .null := ⟨rfl, rfl, ⟨rfl, rfl⟩⟩
def mDflt (d : String) (ty : FieldType) : Bool := match ftag d, defaultValue ty with
  | 0, .int x => x == 0
  | 1, .long x => x == 0
  | 2, .null => true
  | _, _ => false
theorem mDflt_ok {G : mG} {d : String} {ty : FieldType} (h : mDflt d ty = true) : mRV G (ftag d, 0) (defaultValue ty) := by
  unfold mDflt at h
  split at h
  · rename_i h1 h2
    rw [h1, h2]
    rw [eq_of_beq h]
    rfl
  · rename_i h1 h2
    rw [h1, h2]
    rw [eq_of_beq h]
    rfl
  · rename_i h1 h2
    rw [h1, h2]
    exact ⟨rfl, rfl⟩
  · cases h
end
theorem tbq1 (i : Nat) {w : Cond} (h : tables_1_1[i]? = some w) (g : goodWord w = true) : mTB w := ⟨List.mem_append_right _ (List.mem_append_left _ (List.mem_of_getElem? h)), g⟩
theorem tbqn1 (i : Nat) {w : Cond} (h : tables_1_1[i]? = some w) (g : mNk w = true) : mTN w := ⟨List.mem_append_right _ (List.mem_append_left _ (List.mem_of_getElem? h)), g⟩
theorem tbq2 (i : Nat) {w : Cond} (h : tables_1_2[i]? = some w) (g : goodWord w = true) : mTB w := ⟨List.mem_append_right _ (List.mem_append_right _ (List.mem_append_left _ (List.mem_of_getElem? h))), g⟩
theorem tbqn2 (i : Nat) {w : Cond} (h : tables_1_2[i]? = some w) (g : mNk w = true) : mTN w := ⟨List.mem_append_right _ (List.mem_append_right _ (List.mem_append_left _ (List.mem_of_getElem? h))), g⟩
theorem tbq3 (i : Nat) {w : Cond} (h : tables_1_3[i]? = some w) (g : goodWord w = true) : mTB w := ⟨List.mem_append_right _ (List.mem_append_right _ (List.mem_append_right _ (List.mem_append_left _ (List.mem_of_getElem? h)))), g⟩
theorem tbqn3 (i : Nat) {w : Cond} (h : tables_1_3[i]? = some w) (g : mNk w = true) : mTN w := ⟨List.mem_append_right _ (List.mem_append_right _ (List.mem_append_right _ (List.mem_append_left _ (List.mem_of_getElem? h)))), g⟩
theorem tbq4 (i : Nat) {w : Cond} (h : tables_1_4[i]? = some w) (g : goodWord w = true) : mTB w := ⟨List.mem_append_right _ (List.mem_append_right _ (List.mem_append_right _ (List.mem_append_right _ (List.mem_append_left _ (List.mem_of_getElem? h))))), g⟩
theorem tbqn4 (i : Nat) {w : Cond} (h : tables_1_4[i]? = some w) (g : mNk w = true) : mTN w := ⟨List.mem_append_right _ (List.mem_append_right _ (List.mem_append_right _ (List.mem_append_right _ (List.mem_append_left _ (List.mem_of_getElem? h))))), g⟩
theorem tbq5 (i : Nat) {w : Cond} (h : tables_1_5[i]? = some w) (g : goodWord w = true) : mTB w := ⟨List.mem_append_right _ (List.mem_append_right _ (List.mem_append_right _ (List.mem_append_right _ (List.mem_append_right _ (List.mem_append_left _ (List.mem_of_getElem? h)))))), g⟩
theorem tbqn5 (i : Nat) {w : Cond} (h : tables_1_5[i]? = some w) (g : mNk w = true) : mTN w := ⟨List.mem_append_right _ (List.mem_append_right _ (List.mem_append_right _ (List.mem_append_right _ (List.mem_append_right _ (List.mem_append_left _ (List.mem_of_getElem? h)))))), g⟩
theorem tbq6 (i : Nat) {w : Cond} (h : tables_1_6[i]? = some w) (g : goodWord w = true) : mTB w := ⟨List.mem_append_right _ (List.mem_append_right _ (List.mem_append_right _ (List.mem_append_right _ (List.mem_append_right _ (List.mem_append_right _ (List.mem_append_left _ (List.mem_of_getElem? h))))))), g⟩
theorem tbqn6 (i : Nat) {w : Cond} (h : tables_1_6[i]? = some w) (g : mNk w = true) : mTN w := ⟨List.mem_append_right _ (List.mem_append_right _ (List.mem_append_right _ (List.mem_append_right _ (List.mem_append_right _ (List.mem_append_right _ (List.mem_append_left _ (List.mem_of_getElem? h))))))), g⟩
theorem tbq7 (i : Nat) {w : Cond} (h : tables_1_7[i]? = some w) (g : goodWord w = true) : mTB w := ⟨List.mem_append_right _ (List.mem_append_right _ (List.mem_append_right _ (List.mem_append_right _ (List.mem_append_right _ (List.mem_append_right _ (List.mem_append_right _ (List.mem_append_left _ (List.mem_of_getElem? h)))))))), g⟩
theorem tbqn7 (i : Nat) {w : Cond} (h : tables_1_7[i]? = some w) (g : mNk w = true) : mTN w := ⟨List.mem_append_right _ (List.mem_append_right _ (List.mem_append_right _ (List.mem_append_right _ (List.mem_append_right _ (List.mem_append_right _ (List.mem_append_right _ (List.mem_append_left _ (List.mem_of_getElem? h)))))))), g⟩
theorem tbq8 (i : Nat) {w : Cond} (h : tables_1_8[i]? = some w) (g : goodWord w = true) : mTB w := ⟨List.mem_append_right _ (List.mem_append_right _ (List.mem_append_right _ (List.mem_append_right _ (List.mem_append_right _ (List.mem_append_right _ (List.mem_append_right _ (List.mem_append_right _ (List.mem_append_left _ (List.mem_of_getElem? h))))))))), g⟩
theorem tbqn8 (i : Nat) {w : Cond} (h : tables_1_8[i]? = some w) (g : mNk w = true) : mTN w := ⟨List.mem_append_right _ (List.mem_append_right _ (List.mem_append_right _ (List.mem_append_right _ (List.mem_append_right _ (List.mem_append_right _ (List.mem_append_right _ (List.mem_append_right _ (List.mem_append_left _ (List.mem_of_getElem? h))))))))), g⟩
theorem tbq9 (i : Nat) {w : Cond} (h : tables_1_9[i]? = some w) (g : goodWord w = true) : mTB w := ⟨List.mem_append_right _ (List.mem_append_right _ (List.mem_append_right _ (List.mem_append_right _ (List.mem_append_right _ (List.mem_append_right _ (List.mem_append_right _ (List.mem_append_right _ (List.mem_append_right _ (List.mem_of_getElem? h))))))))), g⟩
theorem tbqn9 (i : Nat) {w : Cond} (h : tables_1_9[i]? = some w) (g : mNk w = true) : mTN w := ⟨List.mem_append_right _ (List.mem_append_right _ (List.mem_append_right _ (List.mem_append_right _ (List.mem_append_right _ (List.mem_append_right _ (List.mem_append_right _ (List.mem_append_right _ (List.mem_append_right _ (List.mem_of_getElem? h))))))))), g⟩
theorem tbqp (i : Nat) {w : Cond} (h : (k2_sels lw_privs)[i]? = some w) (g : goodWord w = true) : mTB w := ⟨List.mem_append_left _ (List.mem_of_getElem? h), g⟩
theorem uw0_0 : ((u_ws RX0 TX0 18).all fun w => lw_tbl.contains w && goodWord w) = true := by decide +kernel
theorem uw_0 : ∀ w ∈ u_ws RX0 TX0 18, mTB w := fun w hw => by have h9 := List.all_eq_true.mp uw0_0 w hw; rw [Bool.and_eq_true] at h9; exact ⟨List.contains_iff_mem.mp h9.1, h9.2⟩
theorem uw0_1 : ((u_ws RX1 TX1 2).all fun w => lw_tbl.contains w && goodWord w) = true := by decide +kernel
theorem uw_1 : ∀ w ∈ u_ws RX1 TX1 2, mTB w := fun w hw => by have h9 := List.all_eq_true.mp uw0_1 w hw; rw [Bool.and_eq_true] at h9; exact ⟨List.contains_iff_mem.mp h9.1, h9.2⟩
theorem uw0_2 : ((u_ws RX2 TX2 6).all fun w => lw_tbl.contains w && goodWord w) = true := by decide +kernel
theorem uw_2 : ∀ w ∈ u_ws RX2 TX2 6, mTB w := fun w hw => by have h9 := List.all_eq_true.mp uw0_2 w hw; rw [Bool.and_eq_true] at h9; exact ⟨List.contains_iff_mem.mp h9.1, h9.2⟩
theorem uw0_3 : ((u_ws RX3 TX3 4).all fun w => lw_tbl.contains w && goodWord w) = true := by decide +kernel
theorem uw_3 : ∀ w ∈ u_ws RX3 TX3 4, mTB w := fun w hw => by have h9 := List.all_eq_true.mp uw0_3 w hw; rw [Bool.and_eq_true] at h9; exact ⟨List.contains_iff_mem.mp h9.1, h9.2⟩
theorem uw0_4 : ((u_ws RX4 TX4 11).all fun w => lw_tbl.contains w && goodWord w) = true := by decide +kernel
theorem uw_4 : ∀ w ∈ u_ws RX4 TX4 11, mTB w := fun w hw => by have h9 := List.all_eq_true.mp uw0_4 w hw; rw [Bool.and_eq_true] at h9; exact ⟨List.contains_iff_mem.mp h9.1, h9.2⟩
theorem uw0_5 : ((u_ws RX5 TX5 7).all fun w => lw_tbl.contains w && goodWord w) = true := by decide +kernel
theorem uw_5 : ∀ w ∈ u_ws RX5 TX5 7, mTB w := fun w hw => by have h9 := List.all_eq_true.mp uw0_5 w hw; rw [Bool.and_eq_true] at h9; exact ⟨List.contains_iff_mem.mp h9.1, h9.2⟩
theorem uw0_6 : ((u_ws RX6 TX6 6).all fun w => lw_tbl.contains w && goodWord w) = true := by decide +kernel
theorem uw_6 : ∀ w ∈ u_ws RX6 TX6 6, mTB w := fun w hw => by have h9 := List.all_eq_true.mp uw0_6 w hw; rw [Bool.and_eq_true] at h9; exact ⟨List.contains_iff_mem.mp h9.1, h9.2⟩
theorem uw0_7 : ((u_ws RX7 TX7 7).all fun w => lw_tbl.contains w && goodWord w) = true := by decide +kernel
theorem uw_7 : ∀ w ∈ u_ws RX7 TX7 7, mTB w := fun w hw => by have h9 := List.all_eq_true.mp uw0_7 w hw; rw [Bool.and_eq_true] at h9; exact ⟨List.contains_iff_mem.mp h9.1, h9.2⟩
theorem uw0_8 : ((u_ws RX8 TX8 8).all fun w => lw_tbl.contains w && goodWord w) = true := by decide +kernel
theorem uw_8 : ∀ w ∈ u_ws RX8 TX8 8, mTB w := fun w hw => by have h9 := List.all_eq_true.mp uw0_8 w hw; rw [Bool.and_eq_true] at h9; exact ⟨List.contains_iff_mem.mp h9.1, h9.2⟩
theorem uw0_9 : ((u_ws RX9 TX9 3).all fun w => lw_tbl.contains w && goodWord w) = true := by decide +kernel
theorem uw_9 : ∀ w ∈ u_ws RX9 TX9 3, mTB w := fun w hw => by have h9 := List.all_eq_true.mp uw0_9 w hw; rw [Bool.and_eq_true] at h9; exact ⟨List.contains_iff_mem.mp h9.1, h9.2⟩
theorem uw0_10 : ((u_ws RX10 TX10 19).all fun w => lw_tbl.contains w && goodWord w) = true := by decide +kernel
theorem uw_10 : ∀ w ∈ u_ws RX10 TX10 19, mTB w := fun w hw => by have h9 := List.all_eq_true.mp uw0_10 w hw; rw [Bool.and_eq_true] at h9; exact ⟨List.contains_iff_mem.mp h9.1, h9.2⟩
theorem uw0_11 : ((u_ws RX11 TX11 40).all fun w => lw_tbl.contains w && goodWord w) = true := by decide +kernel
theorem uw_11 : ∀ w ∈ u_ws RX11 TX11 40, mTB w := fun w hw => by have h9 := List.all_eq_true.mp uw0_11 w hw; rw [Bool.and_eq_true] at h9; exact ⟨List.contains_iff_mem.mp h9.1, h9.2⟩
theorem mz0_0 : ((List.range 18).all fun j => mDflt (TX0 j).2.2.1 (tyX0 j)) = true := by decide +kernel
theorem mz_0 (G : mG) : ∀ j, j < 18 → mRV G (ftag (TX0 j).2.2.1, 0) (defaultValue (tyX0 j)) := fun j hj => mDflt_ok (List.all_eq_true.mp mz0_0 j (List.mem_range.mpr hj))
theorem mz0_1 : ((List.range 2).all fun j => mDflt (TX1 j).2.2.1 (tyX1 j)) = true := by decide +kernel
theorem mz_1 (G : mG) : ∀ j, j < 2 → mRV G (ftag (TX1 j).2.2.1, 0) (defaultValue (tyX1 j)) := fun j hj => mDflt_ok (List.all_eq_true.mp mz0_1 j (List.mem_range.mpr hj))
theorem mz0_2 : ((List.range 6).all fun j => mDflt (TX2 j).2.2.1 (tyX2 j)) = true := by decide +kernel
theorem mz_2 (G : mG) : ∀ j, j < 6 → mRV G (ftag (TX2 j).2.2.1, 0) (defaultValue (tyX2 j)) := fun j hj => mDflt_ok (List.all_eq_true.mp mz0_2 j (List.mem_range.mpr hj))
theorem mz0_3 : ((List.range 4).all fun j => mDflt (TX3 j).2.2.1 (tyX3 j)) = true := by decide +kernel
theorem mz_3 (G : mG) : ∀ j, j < 4 → mRV G (ftag (TX3 j).2.2.1, 0) (defaultValue (tyX3 j)) := fun j hj => mDflt_ok (List.all_eq_true.mp mz0_3 j (List.mem_range.mpr hj))
theorem mz0_4 : ((List.range 11).all fun j => mDflt (TX4 j).2.2.1 (tyX4 j)) = true := by decide +kernel
theorem mz_4 (G : mG) : ∀ j, j < 11 → mRV G (ftag (TX4 j).2.2.1, 0) (defaultValue (tyX4 j)) := fun j hj => mDflt_ok (List.all_eq_true.mp mz0_4 j (List.mem_range.mpr hj))
theorem mz0_5 : ((List.range 7).all fun j => mDflt (TX5 j).2.2.1 (tyX5 j)) = true := by decide +kernel
theorem mz_5 (G : mG) : ∀ j, j < 7 → mRV G (ftag (TX5 j).2.2.1, 0) (defaultValue (tyX5 j)) := fun j hj => mDflt_ok (List.all_eq_true.mp mz0_5 j (List.mem_range.mpr hj))
theorem mz0_6 : ((List.range 6).all fun j => mDflt (TX6 j).2.2.1 (tyX6 j)) = true := by decide +kernel
theorem mz_6 (G : mG) : ∀ j, j < 6 → mRV G (ftag (TX6 j).2.2.1, 0) (defaultValue (tyX6 j)) := fun j hj => mDflt_ok (List.all_eq_true.mp mz0_6 j (List.mem_range.mpr hj))
theorem mz0_7 : ((List.range 7).all fun j => mDflt (TX7 j).2.2.1 (tyX7 j)) = true := by decide +kernel
theorem mz_7 (G : mG) : ∀ j, j < 7 → mRV G (ftag (TX7 j).2.2.1, 0) (defaultValue (tyX7 j)) := fun j hj => mDflt_ok (List.all_eq_true.mp mz0_7 j (List.mem_range.mpr hj))
theorem mz0_8 : ((List.range 8).all fun j => mDflt (TX8 j).2.2.1 (tyX8 j)) = true := by decide +kernel
theorem mz_8 (G : mG) : ∀ j, j < 8 → mRV G (ftag (TX8 j).2.2.1, 0) (defaultValue (tyX8 j)) := fun j hj => mDflt_ok (List.all_eq_true.mp mz0_8 j (List.mem_range.mpr hj))
theorem mz0_9 : ((List.range 3).all fun j => mDflt (TX9 j).2.2.1 (tyX9 j)) = true := by decide +kernel
theorem mz_9 (G : mG) : ∀ j, j < 3 → mRV G (ftag (TX9 j).2.2.1, 0) (defaultValue (tyX9 j)) := fun j hj => mDflt_ok (List.all_eq_true.mp mz0_9 j (List.mem_range.mpr hj))
theorem mz0_10 : ((List.range 19).all fun j => mDflt (TX10 j).2.2.1 (tyX10 j)) = true := by decide +kernel
theorem mz_10 (G : mG) : ∀ j, j < 19 → mRV G (ftag (TX10 j).2.2.1, 0) (defaultValue (tyX10 j)) := fun j hj => mDflt_ok (List.all_eq_true.mp mz0_10 j (List.mem_range.mpr hj))
theorem mz0_11 : ((List.range 40).all fun j => mDflt (TX11 j).2.2.1 (tyX11 j)) = true := by decide +kernel
theorem mz_11 (G : mG) : ∀ j, j < 40 → mRV G (ftag (TX11 j).2.2.1, 0) (defaultValue (tyX11 j)) := fun j hj => mDflt_ok (List.all_eq_true.mp mz0_11 j (List.mem_range.mpr hj))
