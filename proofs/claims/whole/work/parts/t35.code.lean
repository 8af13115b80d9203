def M_Md_counted : mM := ("NineBarsModel", ⟨"NineBarsModel", "counted", "(I)I"⟩, prog_13_method_83_code, 3, some .int, [], 1)
theorem tb_co_Md_counted : mTB (Cond.code ⟨"NineBarsModel", "counted", "(I)I"⟩ prog_13_method_83_code 3 (some .int)) := tbq8 200 (by decide +kernel) rfl
theorem mc_Md_counted {M : mM} (hd : 1 < mDp M) : mCal M M_Md_counted 1 := ⟨tb_co_Md_counted, tb_in_NineBarsModel, ⟨by decide +kernel, by decide +kernel⟩, by decide +kernel, hd, by decide⟩
theorem d_Md_counted_0 : decode prog_13_method_83_code 0 = .ok (.iconst 0, 1) := by decide +kernel
theorem d_Md_counted_1 : decode prog_13_method_83_code 1 = .ok (.istore_n 1, 1) := by decide +kernel
theorem d_Md_counted_2 : decode prog_13_method_83_code 2 = .ok (.iload_n 0, 1) := by decide +kernel
theorem d_Md_counted_3 : decode prog_13_method_83_code 3 = .ok (.istore_n 2, 1) := by decide +kernel
theorem d_Md_counted_4 : decode prog_13_method_83_code 4 = .ok (.iload_n 2, 1) := by decide +kernel
theorem d_Md_counted_5 : decode prog_13_method_83_code 5 = .ok (.ifCond .eq 14, 3) := by decide +kernel
theorem d_Md_counted_19 : decode prog_13_method_83_code 19 = .ok (.iload_n 1, 1) := by decide +kernel
theorem d_Md_counted_20 : decode prog_13_method_83_code 20 = .ok (.ireturn, 1) := by decide +kernel
theorem d_Md_counted_8 : decode prog_13_method_83_code 8 = .ok (.iload_n 1, 1) := by decide +kernel
theorem d_Md_counted_9 : decode prog_13_method_83_code 9 = .ok (.iload_n 2, 1) := by decide +kernel
theorem d_Md_counted_10 : decode prog_13_method_83_code 10 = .ok (.ixor, 1) := by decide +kernel
theorem d_Md_counted_11 : decode prog_13_method_83_code 11 = .ok (.istore_n 1, 1) := by decide +kernel
theorem d_Md_counted_12 : decode prog_13_method_83_code 12 = .ok (.iload_n 2, 1) := by decide +kernel
theorem d_Md_counted_13 : decode prog_13_method_83_code 13 = .ok (.iconst 1, 1) := by decide +kernel
theorem d_Md_counted_14 : decode prog_13_method_83_code 14 = .ok (.iushr, 1) := by decide +kernel
theorem d_Md_counted_15 : decode prog_13_method_83_code 15 = .ok (.istore_n 2, 1) := by decide +kernel
theorem d_Md_counted_16 : decode prog_13_method_83_code 16 = .ok (.goto (-12), 3) := by decide +kernel
theorem t_Md_counted_L4 {G : mG} {r : mR}  : ∀ (n : Nat) (h : mH) (v1 v2 : Int), f_Md_counted_L4 n h v1 v2 = some r → mJ G M_Md_counted 4 [(9, 0), (0, v1), (0, v2)] [] h r := by
  intro n
  induction n with
  | zero =>
    intro h v1 v2 hr
    rw [f_Md_counted_L4] at hr
    cases hr
  | succ n hR4 =>
    intro h v1 v2 hr
    rw [f_Md_counted_L4] at hr
    refine j_iload_n (pc := 4) d_Md_counted_4 rfl ?_
    refine j_if_eq (pc := 5) (tgt := 19) d_Md_counted_5 hr (fun hr => ?_) (fun hr => ?_)
    · refine j_iload_n (pc := 19) d_Md_counted_19 rfl ?_
      exact j_iret (pc := 20) d_Md_counted_20 rfl hr
    · refine j_iload_n (pc := 8) d_Md_counted_8 rfl ?_
      refine j_iload_n (pc := 9) d_Md_counted_9 rfl ?_
      refine j_ixor (pc := 10) d_Md_counted_10 ?_
      refine j_istoreW_n (pc := 11) (L := fun x1 => [(9, 0), (0, x1), (0, v2)]) d_Md_counted_11 (fun _ => rfl) hr (fun x1 hr => ?_)
      refine j_iload_n (pc := 12) d_Md_counted_12 rfl ?_
      refine j_iconst (pc := 13) d_Md_counted_13 ?_
      refine j_iushr (pc := 14) d_Md_counted_14 ?_
      refine j_istoreW_n (pc := 15) (L := fun x2 => [(9, 0), (0, x1), (0, x2)]) d_Md_counted_15 (fun _ => rfl) hr (fun x2 hr => ?_)
      refine j_goto (pc := 16) (tgt := 4) d_Md_counted_16 ?_
      exact mJ_weak (ls' := [(9, 0), (0, x1), (0, x2)]) (mwk_s (mwk_s (mwk_s mwk_n))) (hR4 h _ _ hr)
theorem t_Md_counted {G : mG} (h : mH) (v0 : Int) (r : mR) (hr : f_Md_counted h v0 = some r) : mJM G M_Md_counted [(0, v0)] h r := by
  refine mJM_of (L := [(0, v0), (9, 0), (9, 0)]) rfl rfl rfl (Nat.le_of_ble_eq_true rfl) ?_
  unfold f_Md_counted at hr
  refine j_iconst (pc := 0) d_Md_counted_0 ?_
  refine j_istore_n (pc := 1) (ls' := [(0, v0), (0, 0), (9, 0)]) d_Md_counted_1 rfl ?_
  refine j_iload_n (pc := 2) d_Md_counted_2 rfl ?_
  refine j_istore_n (pc := 3) (ls' := [(0, v0), (0, 0), (0, v0)]) d_Md_counted_3 rfl ?_
  refine mJ_weak (ls' := [(9, 0), (0, 0), (0, v0)]) (mwk_d (mwk_s (mwk_s mwk_n))) (t_Md_counted_L4  _ _ _ _ hr)
def M_Md_isHalves : mM := ("NineBarsModel", ⟨"NineBarsModel", "isHalves", "(II)Z"⟩, prog_13_method_84_code, 2, some .boolean, [], 3)
theorem tb_co_Md_isHalves : mTB (Cond.code ⟨"NineBarsModel", "isHalves", "(II)Z"⟩ prog_13_method_84_code 2 (some .boolean)) := tbq8 196 (by decide +kernel) rfl
theorem mc_Md_isHalves {M : mM} (hd : 3 < mDp M) : mCal M M_Md_isHalves 2 := ⟨tb_co_Md_isHalves, tb_in_NineBarsModel, ⟨by decide +kernel, by decide +kernel⟩, by decide +kernel, hd, by decide⟩
theorem d_Md_isHalves_0 : decode prog_13_method_84_code 0 = .ok (.iload_n 0, 1) := by decide +kernel
theorem d_Md_isHalves_1 : decode prog_13_method_84_code 1 = .ok (.i2l, 1) := by decide +kernel
theorem d_Md_isHalves_2 : decode prog_13_method_84_code 2 = .ok (.lconst 1, 1) := by decide +kernel
theorem tb_cj_Md_353 : mTB (Cond.constantLong "NineBarsModel" 353 30) := tbq8 197 (by decide +kernel) rfl
theorem d_Md_isHalves_3 : decode prog_13_method_84_code 3 = .ok (.ldc2_w 353, 3) := by decide +kernel
theorem d_Md_isHalves_6 : decode prog_13_method_84_code 6 = .ok (.invokestatic 147, 3) := by decide +kernel
theorem d_Md_isHalves_9 : decode prog_13_method_84_code 9 = .ok (.ifCond .eq 21, 3) := by decide +kernel
theorem d_Md_isHalves_30 : decode prog_13_method_84_code 30 = .ok (.iconst 0, 1) := by decide +kernel
theorem d_Md_isHalves_31 : decode prog_13_method_84_code 31 = .ok (.ireturn, 1) := by decide +kernel
theorem d_Md_isHalves_12 : decode prog_13_method_84_code 12 = .ok (.iload_n 1, 1) := by decide +kernel
theorem d_Md_isHalves_13 : decode prog_13_method_84_code 13 = .ok (.i2l, 1) := by decide +kernel
theorem d_Md_isHalves_14 : decode prog_13_method_84_code 14 = .ok (.lconst 0, 1) := by decide +kernel
theorem d_Md_isHalves_15 : decode prog_13_method_84_code 15 = .ok (.lconst 1, 1) := by decide +kernel
theorem d_Md_isHalves_16 : decode prog_13_method_84_code 16 = .ok (.iload_n 0, 1) := by decide +kernel
theorem d_Md_isHalves_17 : decode prog_13_method_84_code 17 = .ok (.lshl, 1) := by decide +kernel
theorem d_Md_isHalves_18 : decode prog_13_method_84_code 18 = .ok (.lconst 1, 1) := by decide +kernel
theorem d_Md_isHalves_19 : decode prog_13_method_84_code 19 = .ok (.lsub, 1) := by decide +kernel
theorem d_Md_isHalves_20 : decode prog_13_method_84_code 20 = .ok (.invokestatic 147, 3) := by decide +kernel
theorem d_Md_isHalves_23 : decode prog_13_method_84_code 23 = .ok (.ifCond .eq 7, 3) := by decide +kernel
theorem d_Md_isHalves_26 : decode prog_13_method_84_code 26 = .ok (.iconst 1, 1) := by decide +kernel
theorem d_Md_isHalves_27 : decode prog_13_method_84_code 27 = .ok (.goto 4, 3) := by decide +kernel
theorem t_Md_isHalves_J30 {G : mG} {r : mR} {h : mH}  (hr : f_Md_isHalves_J30 h = some r) : mJ G M_Md_isHalves 30 [(9, 0), (9, 0)] [] h r := by
  unfold f_Md_isHalves_J30 at hr
  refine j_iconst (pc := 30) d_Md_isHalves_30 ?_
  exact j_zret (pc := 31) d_Md_isHalves_31 rfl hr
theorem t_Md_isHalves {G : mG} (h : mH) (v0 v1 : Int) (r : mR) (hr : f_Md_isHalves h v0 v1 = some r) : mJM G M_Md_isHalves [(0, v0), (0, v1)] h r := by
  refine mJM_of (L := [(0, v0), (0, v1)]) rfl rfl rfl (Nat.le_of_ble_eq_true rfl) ?_
  unfold f_Md_isHalves at hr
  refine j_iload_n (pc := 0) d_Md_isHalves_0 rfl ?_
  refine j_i2l (pc := 1) d_Md_isHalves_1 ?_
  refine j_lconst (pc := 2) (z := 1) d_Md_isHalves_2 ?_
  refine j_ldc2 (pc := 3) (z := 30) d_Md_isHalves_3 tb_cj_Md_353 rfl ?_
  refine j_callG (pc := 6) (stk := [(1, 30), (1, 1), (1, v0)]) (as := [(1, v0), (1, 1), (1, 30)]) (P := (fun v9 => ((0 : Nat), v9) :: [])) (tg := 0) (My := M_Md_amid) (mRunS (as := [(1, v0), (1, 1), (1, 30)]) (st := []) d_Md_isHalves_6 (mc_Md_amid (by decide)) rfl ⟨tb_ml_Md_147, tb_sm_Md_amid⟩ rfl (Nat.le_of_ble_eq_true rfl)) (fun v => rfl) rfl hr (fun r1 h1 => t_Md_amid _ _ _ _ _ h1) (fun x2 h1 hr => ?_)
  refine j_if_eq (pc := 9) (tgt := 30) d_Md_isHalves_9 hr (fun hr => ?_) (fun hr => ?_)
  · exact mJ_weak (ls' := [(9, 0), (9, 0)]) (mwk_d (mwk_d mwk_n)) (t_Md_isHalves_J30  hr)
  · refine j_iload_n (pc := 12) d_Md_isHalves_12 rfl ?_
    refine j_i2l (pc := 13) d_Md_isHalves_13 ?_
    refine j_lconst (pc := 14) (z := 0) d_Md_isHalves_14 ?_
    refine j_lconst (pc := 15) (z := 1) d_Md_isHalves_15 ?_
    refine j_iload_n (pc := 16) d_Md_isHalves_16 rfl ?_
    refine j_lshl (pc := 17) d_Md_isHalves_17 ?_
    refine j_lconst (pc := 18) (z := 1) d_Md_isHalves_18 ?_
    refine j_lsub (pc := 19) d_Md_isHalves_19 ?_
    refine j_callG (pc := 20) (stk := [(1, w64 ((qlshl 1 v0) - 1)), (1, 0), (1, v1)]) (as := [(1, v1), (1, 0), (1, w64 ((qlshl 1 v0) - 1))]) (P := (fun v9 => ((0 : Nat), v9) :: [])) (tg := 0) (My := M_Md_amid) (mRunS (as := [(1, v1), (1, 0), (1, w64 ((qlshl 1 v0) - 1))]) (st := []) d_Md_isHalves_20 (mc_Md_amid (by decide)) rfl ⟨tb_ml_Md_147, tb_sm_Md_amid⟩ rfl (Nat.le_of_ble_eq_true rfl)) (fun v => rfl) rfl hr (fun r1 h1 => t_Md_amid _ _ _ _ _ h1) (fun x4 h3 hr => ?_)
    refine j_if_eq (pc := 23) (tgt := 30) d_Md_isHalves_23 hr (fun hr => ?_) (fun hr => ?_)
    · exact mJ_weak (ls' := [(9, 0), (9, 0)]) (mwk_d (mwk_d mwk_n)) (t_Md_isHalves_J30  hr)
    · refine j_iconst (pc := 26) d_Md_isHalves_26 ?_
      refine j_goto (pc := 27) (tgt := 31) d_Md_isHalves_27 ?_
      exact j_zret (pc := 31) d_Md_isHalves_31 rfl hr
def M_Md_halves : mM := ("NineBarsModel", ⟨"NineBarsModel", "halves", "(II)I"⟩, prog_13_method_85_code, 3, some .int, [], 5)
theorem tb_co_Md_halves : mTB (Cond.code ⟨"NineBarsModel", "halves", "(II)I"⟩ prog_13_method_85_code 3 (some .int)) := tbq8 193 (by decide +kernel) rfl
theorem mc_Md_halves {M : mM} (hd : 5 < mDp M) : mCal M M_Md_halves 2 := ⟨tb_co_Md_halves, tb_in_NineBarsModel, ⟨by decide +kernel, by decide +kernel⟩, by decide +kernel, hd, by decide⟩
theorem d_Md_halves_0 : decode prog_13_method_85_code 0 = .ok (.aload_n 0, 1) := by decide +kernel
theorem d_Md_halves_1 : decode prog_13_method_85_code 1 = .ok (.iload_n 1, 1) := by decide +kernel
theorem d_Md_halves_2 : decode prog_13_method_85_code 2 = .ok (.iload_n 2, 1) := by decide +kernel
theorem d_Md_halves_3 : decode prog_13_method_85_code 3 = .ok (.invokestatic 355, 3) := by decide +kernel
theorem tb_ml_Md_355 : mTB (Cond.methodLink "NineBarsModel" 355 ⟨"NineBarsModel", "isHalves", "(II)Z"⟩) := tbq8 194 (by decide +kernel) rfl
theorem tb_sm_Md_isHalves : mTB (Cond.static ⟨"NineBarsModel", "isHalves", "(II)Z"⟩) := tbq8 195 (by decide +kernel) rfl
theorem d_Md_halves_6 : decode prog_13_method_85_code 6 = .ok (.ifCond .eq 7, 3) := by decide +kernel
theorem d_Md_halves_13 : decode prog_13_method_85_code 13 = .ok (.iconst 1, 1) := by decide +kernel
theorem d_Md_halves_14 : decode prog_13_method_85_code 14 = .ok (.putfield 86, 3) := by decide +kernel
theorem d_Md_halves_17 : decode prog_13_method_85_code 17 = .ok (.aload_n 0, 1) := by decide +kernel
theorem d_Md_halves_18 : decode prog_13_method_85_code 18 = .ok (.getfield 86, 3) := by decide +kernel
theorem d_Md_halves_21 : decode prog_13_method_85_code 21 = .ok (.ifCond .le 7, 3) := by decide +kernel
theorem d_Md_halves_28 : decode prog_13_method_85_code 28 = .ok (.iload_n 2, 1) := by decide +kernel
theorem d_Md_halves_29 : decode prog_13_method_85_code 29 = .ok (.invokestatic 359, 3) := by decide +kernel
theorem tb_ml_Md_359 : mTB (Cond.methodLink "NineBarsModel" 359 ⟨"NineBarsModel", "counted", "(I)I"⟩) := tbq8 198 (by decide +kernel) rfl
theorem tb_sm_Md_counted : mTB (Cond.static ⟨"NineBarsModel", "counted", "(I)I"⟩) := tbq8 199 (by decide +kernel) rfl
theorem d_Md_halves_32 : decode prog_13_method_85_code 32 = .ok (.ireturn, 1) := by decide +kernel
theorem d_Md_halves_24 : decode prog_13_method_85_code 24 = .ok (.iconst 0, 1) := by decide +kernel
theorem d_Md_halves_25 : decode prog_13_method_85_code 25 = .ok (.goto 7, 3) := by decide +kernel
theorem d_Md_halves_9 : decode prog_13_method_85_code 9 = .ok (.iconst 0, 1) := by decide +kernel
theorem d_Md_halves_10 : decode prog_13_method_85_code 10 = .ok (.goto 4, 3) := by decide +kernel
theorem t_Md_halves_J14 {G : mG} {r : mR} {v0 v2 s0 s1 : Int} {h : mH}  (hr : f_Md_halves_J14 v0 v2 s0 s1 h = some r) : mJ G M_Md_halves 14 [(2, v0), (9, 0), (0, v2)] [(0, s1), (2, s0)] h r := by
  unfold f_Md_halves_J14 at hr
  refine j_puti (pc := 14) d_Md_halves_14 (fd_Md_86 rfl) (⟨_, _, _, rfl, Or.inl rfl, rfl⟩ : mFldW M_Md_halves 86 11 5 .int) hr (fun h1 hr => ?_)
  refine j_aload_n (pc := 17) d_Md_halves_17 rfl ?_
  refine j_getf (pc := 18) d_Md_halves_18 (fd_Md_86 rfl) hr (fun hr => ?_)
  refine j_if_le (pc := 21) (tgt := 28) d_Md_halves_21 hr (fun hr => ?_) (fun hr => ?_)
  · refine j_iload_n (pc := 28) d_Md_halves_28 rfl ?_
    refine j_callG (pc := 29) (stk := [(0, v2)]) (as := [(0, v2)]) (P := (fun v9 => ((0 : Nat), v9) :: [])) (tg := 0) (My := M_Md_counted) (mRunS (as := [(0, v2)]) (st := []) d_Md_halves_29 (mc_Md_counted (by decide)) rfl ⟨tb_ml_Md_359, tb_sm_Md_counted⟩ rfl (Nat.le_of_ble_eq_true rfl)) (fun v => rfl) rfl hr (fun r1 h1 => t_Md_counted _ _ _ h1) (fun x3 h2 hr => ?_)
    exact j_iret (pc := 32) d_Md_halves_32 rfl hr
  · refine j_iconst (pc := 24) d_Md_halves_24 ?_
    refine j_goto (pc := 25) (tgt := 32) d_Md_halves_25 ?_
    exact j_iret (pc := 32) d_Md_halves_32 rfl hr
theorem t_Md_halves {G : mG} (h : mH) (v0 v1 v2 : Int) (r : mR) (hr : f_Md_halves h v0 v1 v2 = some r) : mJM G M_Md_halves [(2, v0), (0, v1), (0, v2)] h r := by
  refine mJM_of (L := [(2, v0), (0, v1), (0, v2)]) rfl rfl rfl (Nat.le_of_ble_eq_true rfl) ?_
  unfold f_Md_halves at hr
  refine j_aload_n (pc := 0) d_Md_halves_0 rfl ?_
  refine j_iload_n (pc := 1) d_Md_halves_1 rfl ?_
  refine j_iload_n (pc := 2) d_Md_halves_2 rfl ?_
  refine j_callG (pc := 3) (stk := [(0, v2), (0, v1), (2, v0)]) (as := [(0, v1), (0, v2)]) (P := (fun v9 => ((0 : Nat), v9) :: [(2, v0)])) (tg := 0) (My := M_Md_isHalves) (mRunS (as := [(0, v1), (0, v2)]) (st := [(2, v0)]) d_Md_halves_3 (mc_Md_isHalves (by decide)) rfl ⟨tb_ml_Md_355, tb_sm_Md_isHalves⟩ rfl (Nat.le_of_ble_eq_true rfl)) (fun v => rfl) rfl hr (fun r1 h1 => t_Md_isHalves _ _ _ _ h1) (fun x2 h1 hr => ?_)
  refine j_if_eq (pc := 6) (tgt := 13) d_Md_halves_6 hr (fun hr => ?_) (fun hr => ?_)
  · refine j_iconst (pc := 13) d_Md_halves_13 ?_
    exact mJ_weak (ls' := [(2, v0), (9, 0), (0, v2)]) (mwk_s (mwk_d (mwk_s mwk_n))) (t_Md_halves_J14  hr)
  · refine j_iconst (pc := 9) d_Md_halves_9 ?_
    refine j_goto (pc := 10) (tgt := 14) d_Md_halves_10 ?_
    exact mJ_weak (ls' := [(2, v0), (9, 0), (0, v2)]) (mwk_s (mwk_d (mwk_s mwk_n))) (t_Md_halves_J14  hr)
def M_Md_halvesFirst : mM := ("NineBarsModel", ⟨"NineBarsModel", "halvesFirst", "(II)I"⟩, prog_13_method_86_code, 5, some .int, [], 5)
theorem tb_co_Md_halvesFirst : mTB (Cond.code ⟨"NineBarsModel", "halvesFirst", "(II)I"⟩ prog_13_method_86_code 5 (some .int)) := tbq8 204 (by decide +kernel) rfl
theorem mc_Md_halvesFirst {M : mM} (hd : 5 < mDp M) : mCal M M_Md_halvesFirst 2 := ⟨tb_co_Md_halvesFirst, tb_in_NineBarsModel, ⟨by decide +kernel, by decide +kernel⟩, by decide +kernel, hd, by decide⟩
theorem d_Md_halvesFirst_0 : decode prog_13_method_86_code 0 = .ok (.aload_n 0, 1) := by decide +kernel
theorem d_Md_halvesFirst_1 : decode prog_13_method_86_code 1 = .ok (.iload_n 1, 1) := by decide +kernel
theorem d_Md_halvesFirst_2 : decode prog_13_method_86_code 2 = .ok (.iload_n 2, 1) := by decide +kernel
theorem d_Md_halvesFirst_3 : decode prog_13_method_86_code 3 = .ok (.invokestatic 355, 3) := by decide +kernel
theorem d_Md_halvesFirst_6 : decode prog_13_method_86_code 6 = .ok (.ifCond .eq 7, 3) := by decide +kernel
theorem d_Md_halvesFirst_13 : decode prog_13_method_86_code 13 = .ok (.iconst 1, 1) := by decide +kernel
theorem d_Md_halvesFirst_14 : decode prog_13_method_86_code 14 = .ok (.putfield 86, 3) := by decide +kernel
theorem d_Md_halvesFirst_17 : decode prog_13_method_86_code 17 = .ok (.aload_n 0, 1) := by decide +kernel
theorem d_Md_halvesFirst_18 : decode prog_13_method_86_code 18 = .ok (.getfield 86, 3) := by decide +kernel
theorem d_Md_halvesFirst_21 : decode prog_13_method_86_code 21 = .ok (.ifCond .gt 7, 3) := by decide +kernel
theorem d_Md_halvesFirst_28 : decode prog_13_method_86_code 28 = .ok (.aload_n 0, 1) := by decide +kernel
theorem d_Md_halvesFirst_29 : decode prog_13_method_86_code 29 = .ok (.getfield 86, 3) := by decide +kernel
theorem d_Md_halvesFirst_32 : decode prog_13_method_86_code 32 = .ok (.ifCond .le 7, 3) := by decide +kernel
theorem d_Md_halvesFirst_39 : decode prog_13_method_86_code 39 = .ok (.iconst (-1), 1) := by decide +kernel
theorem d_Md_halvesFirst_40 : decode prog_13_method_86_code 40 = .ok (.ireturn, 1) := by decide +kernel
theorem d_Md_halvesFirst_35 : decode prog_13_method_86_code 35 = .ok (.iconst 0, 1) := by decide +kernel
theorem d_Md_halvesFirst_36 : decode prog_13_method_86_code 36 = .ok (.goto 4, 3) := by decide +kernel
theorem d_Md_halvesFirst_24 : decode prog_13_method_86_code 24 = .ok (.iload_n 2, 1) := by decide +kernel
theorem d_Md_halvesFirst_25 : decode prog_13_method_86_code 25 = .ok (.ifCond .ne 16, 3) := by decide +kernel
theorem d_Md_halvesFirst_41 : decode prog_13_method_86_code 41 = .ok (.iconst 0, 1) := by decide +kernel
theorem d_Md_halvesFirst_42 : decode prog_13_method_86_code 42 = .ok (.istore_n 3, 1) := by decide +kernel
theorem d_Md_halvesFirst_43 : decode prog_13_method_86_code 43 = .ok (.iload_n 2, 1) := by decide +kernel
theorem d_Md_halvesFirst_44 : decode prog_13_method_86_code 44 = .ok (.invokestatic 359, 3) := by decide +kernel
theorem d_Md_halvesFirst_47 : decode prog_13_method_86_code 47 = .ok (.istore 4, 2) := by decide +kernel
theorem d_Md_halvesFirst_49 : decode prog_13_method_86_code 49 = .ok (.iload 4, 2) := by decide +kernel
theorem d_Md_halvesFirst_51 : decode prog_13_method_86_code 51 = .ok (.iconst 2, 1) := by decide +kernel
theorem d_Md_halvesFirst_52 : decode prog_13_method_86_code 52 = .ok (.irem, 1) := by decide +kernel
theorem d_Md_halvesFirst_53 : decode prog_13_method_86_code 53 = .ok (.ifCond .ne 15, 3) := by decide +kernel
theorem d_Md_halvesFirst_68 : decode prog_13_method_86_code 68 = .ok (.iload_n 3, 1) := by decide +kernel
theorem d_Md_halvesFirst_69 : decode prog_13_method_86_code 69 = .ok (.ireturn, 1) := by decide +kernel
theorem d_Md_halvesFirst_56 : decode prog_13_method_86_code 56 = .ok (.iinc 3 1, 3) := by decide +kernel
theorem d_Md_halvesFirst_59 : decode prog_13_method_86_code 59 = .ok (.iload 4, 2) := by decide +kernel
theorem d_Md_halvesFirst_61 : decode prog_13_method_86_code 61 = .ok (.iconst 2, 1) := by decide +kernel
theorem d_Md_halvesFirst_62 : decode prog_13_method_86_code 62 = .ok (.idiv, 1) := by decide +kernel
theorem d_Md_halvesFirst_63 : decode prog_13_method_86_code 63 = .ok (.istore 4, 2) := by decide +kernel
theorem d_Md_halvesFirst_65 : decode prog_13_method_86_code 65 = .ok (.goto (-16), 3) := by decide +kernel
theorem d_Md_halvesFirst_9 : decode prog_13_method_86_code 9 = .ok (.iconst 0, 1) := by decide +kernel
theorem d_Md_halvesFirst_10 : decode prog_13_method_86_code 10 = .ok (.goto 4, 3) := by decide +kernel
theorem t_Md_halvesFirst_J28 {G : mG} {r : mR} {v0 : Int} {h : mH}  (hr : f_Md_halvesFirst_J28 v0 h = some r) : mJ G M_Md_halvesFirst 28 [(2, v0), (9, 0), (9, 0), (9, 0), (9, 0)] [] h r := by
  unfold f_Md_halvesFirst_J28 at hr
  refine j_aload_n (pc := 28) d_Md_halvesFirst_28 rfl ?_
  refine j_getf (pc := 29) d_Md_halvesFirst_29 (fd_Md_86 rfl) hr (fun hr => ?_)
  refine j_if_le (pc := 32) (tgt := 39) d_Md_halvesFirst_32 hr (fun hr => ?_) (fun hr => ?_)
  · refine j_iconst (pc := 39) d_Md_halvesFirst_39 ?_
    exact j_iret (pc := 40) d_Md_halvesFirst_40 rfl hr
  · refine j_iconst (pc := 35) d_Md_halvesFirst_35 ?_
    refine j_goto (pc := 36) (tgt := 40) d_Md_halvesFirst_36 ?_
    exact j_iret (pc := 40) d_Md_halvesFirst_40 rfl hr
theorem t_Md_halvesFirst_L49 {G : mG} {r : mR}  : ∀ (n : Nat) (h : mH) (v3 v4 : Int), f_Md_halvesFirst_L49 n h v3 v4 = some r → mJ G M_Md_halvesFirst 49 [(9, 0), (9, 0), (9, 0), (0, v3), (0, v4)] [] h r := by
  intro n
  induction n with
  | zero =>
    intro h v3 v4 hr
    rw [f_Md_halvesFirst_L49] at hr
    cases hr
  | succ n hR49 =>
    intro h v3 v4 hr
    rw [f_Md_halvesFirst_L49] at hr
    refine j_iload (pc := 49) d_Md_halvesFirst_49 rfl ?_
    refine j_iconst (pc := 51) d_Md_halvesFirst_51 ?_
    refine j_irem (pc := 52) d_Md_halvesFirst_52 hr (fun hr => ?_)
    refine j_if_ne (pc := 53) (tgt := 68) d_Md_halvesFirst_53 hr (fun hr => ?_) (fun hr => ?_)
    · refine j_iload_n (pc := 68) d_Md_halvesFirst_68 rfl ?_
      exact j_iret (pc := 69) d_Md_halvesFirst_69 rfl hr
    · refine j_iincW (pc := 56) (L := fun x1 => [(9, 0), (9, 0), (9, 0), (0, x1), (0, v4)]) d_Md_halvesFirst_56 rfl (fun _ => rfl) hr (fun x1 hr => ?_)
      refine j_iload (pc := 59) d_Md_halvesFirst_59 rfl ?_
      refine j_iconst (pc := 61) d_Md_halvesFirst_61 ?_
      refine j_idiv (pc := 62) d_Md_halvesFirst_62 hr (fun hr => ?_)
      refine j_istoreW (pc := 63) (L := fun x2 => [(9, 0), (9, 0), (9, 0), (0, x1), (0, x2)]) d_Md_halvesFirst_63 (fun _ => rfl) hr (fun x2 hr => ?_)
      refine j_goto (pc := 65) (tgt := 49) d_Md_halvesFirst_65 ?_
      exact mJ_weak (ls' := [(9, 0), (9, 0), (9, 0), (0, x1), (0, x2)]) (mwk_s (mwk_s (mwk_s (mwk_s (mwk_s mwk_n))))) (hR49 h _ _ hr)
theorem t_Md_halvesFirst_J14 {G : mG} {r : mR} {v0 v2 s0 s1 : Int} {h : mH}  (hr : f_Md_halvesFirst_J14 v0 v2 s0 s1 h = some r) : mJ G M_Md_halvesFirst 14 [(2, v0), (9, 0), (0, v2), (9, 0), (9, 0)] [(0, s1), (2, s0)] h r := by
  unfold f_Md_halvesFirst_J14 at hr
  refine j_puti (pc := 14) d_Md_halvesFirst_14 (fd_Md_86 rfl) (⟨_, _, _, rfl, Or.inl rfl, rfl⟩ : mFldW M_Md_halvesFirst 86 11 5 .int) hr (fun h1 hr => ?_)
  refine j_aload_n (pc := 17) d_Md_halvesFirst_17 rfl ?_
  refine j_getf (pc := 18) d_Md_halvesFirst_18 (fd_Md_86 rfl) hr (fun hr => ?_)
  refine j_if_gt (pc := 21) (tgt := 28) d_Md_halvesFirst_21 hr (fun hr => ?_) (fun hr => ?_)
  · exact mJ_weak (ls' := [(2, v0), (9, 0), (9, 0), (9, 0), (9, 0)]) (mwk_s (mwk_s (mwk_d (mwk_s (mwk_s mwk_n))))) (t_Md_halvesFirst_J28  hr)
  · refine j_iload_n (pc := 24) d_Md_halvesFirst_24 rfl ?_
    refine j_if_ne (pc := 25) (tgt := 41) d_Md_halvesFirst_25 hr (fun hr => ?_) (fun hr => ?_)
    · refine j_iconst (pc := 41) d_Md_halvesFirst_41 ?_
      refine j_istore_n (pc := 42) (ls' := [(2, v0), (9, 0), (0, v2), (0, 0), (9, 0)]) d_Md_halvesFirst_42 rfl ?_
      refine j_iload_n (pc := 43) d_Md_halvesFirst_43 rfl ?_
      refine j_callG (pc := 44) (stk := [(0, v2)]) (as := [(0, v2)]) (P := (fun v9 => ((0 : Nat), v9) :: [])) (tg := 0) (My := M_Md_counted) (mRunS (as := [(0, v2)]) (st := []) d_Md_halvesFirst_44 (mc_Md_counted (by decide)) rfl ⟨tb_ml_Md_359, tb_sm_Md_counted⟩ rfl (Nat.le_of_ble_eq_true rfl)) (fun v => rfl) rfl hr (fun r1 h1 => t_Md_counted _ _ _ h1) (fun x3 h2 hr => ?_)
      refine j_istore (pc := 47) (ls' := [(2, v0), (9, 0), (0, v2), (0, 0), (0, x3)]) d_Md_halvesFirst_47 rfl ?_
      refine mJ_weak (ls' := [(9, 0), (9, 0), (9, 0), (0, 0), (0, x3)]) (mwk_d (mwk_s (mwk_d (mwk_s (mwk_s mwk_n))))) (t_Md_halvesFirst_L49  _ _ _ _ hr)
    · exact mJ_weak (ls' := [(2, v0), (9, 0), (9, 0), (9, 0), (9, 0)]) (mwk_s (mwk_s (mwk_d (mwk_s (mwk_s mwk_n))))) (t_Md_halvesFirst_J28  hr)
theorem t_Md_halvesFirst {G : mG} (h : mH) (v0 v1 v2 : Int) (r : mR) (hr : f_Md_halvesFirst h v0 v1 v2 = some r) : mJM G M_Md_halvesFirst [(2, v0), (0, v1), (0, v2)] h r := by
  refine mJM_of (L := [(2, v0), (0, v1), (0, v2), (9, 0), (9, 0)]) rfl rfl rfl (Nat.le_of_ble_eq_true rfl) ?_
  unfold f_Md_halvesFirst at hr
  refine j_aload_n (pc := 0) d_Md_halvesFirst_0 rfl ?_
  refine j_iload_n (pc := 1) d_Md_halvesFirst_1 rfl ?_
  refine j_iload_n (pc := 2) d_Md_halvesFirst_2 rfl ?_
  refine j_callG (pc := 3) (stk := [(0, v2), (0, v1), (2, v0)]) (as := [(0, v1), (0, v2)]) (P := (fun v9 => ((0 : Nat), v9) :: [(2, v0)])) (tg := 0) (My := M_Md_isHalves) (mRunS (as := [(0, v1), (0, v2)]) (st := [(2, v0)]) d_Md_halvesFirst_3 (mc_Md_isHalves (by decide)) rfl ⟨tb_ml_Md_355, tb_sm_Md_isHalves⟩ rfl (Nat.le_of_ble_eq_true rfl)) (fun v => rfl) rfl hr (fun r1 h1 => t_Md_isHalves _ _ _ _ h1) (fun x2 h1 hr => ?_)
  refine j_if_eq (pc := 6) (tgt := 13) d_Md_halvesFirst_6 hr (fun hr => ?_) (fun hr => ?_)
  · refine j_iconst (pc := 13) d_Md_halvesFirst_13 ?_
    exact mJ_weak (ls' := [(2, v0), (9, 0), (0, v2), (9, 0), (9, 0)]) (mwk_s (mwk_d (mwk_s (mwk_s (mwk_s mwk_n))))) (t_Md_halvesFirst_J14  hr)
  · refine j_iconst (pc := 9) d_Md_halvesFirst_9 ?_
    refine j_goto (pc := 10) (tgt := 14) d_Md_halvesFirst_10 ?_
    exact mJ_weak (ls' := [(2, v0), (9, 0), (0, v2), (9, 0), (9, 0)]) (mwk_s (mwk_d (mwk_s (mwk_s (mwk_s mwk_n))))) (t_Md_halvesFirst_J14  hr)
def M_Md_stepsIf : mM := ("NineBarsModel", ⟨"NineBarsModel", "stepsIf", "(I)I"⟩, prog_13_method_87_code, 2, some .int, [], 11)
theorem tb_co_Md_stepsIf : mTB (Cond.code ⟨"NineBarsModel", "stepsIf", "(I)I"⟩ prog_13_method_87_code 2 (some .int)) := tbq8 212 (by decide +kernel) rfl
theorem mc_Md_stepsIf {M : mM} (hd : 11 < mDp M) : mCal M M_Md_stepsIf 1 := ⟨tb_co_Md_stepsIf, tb_in_NineBarsModel, ⟨by decide +kernel, by decide +kernel⟩, by decide +kernel, hd, by decide⟩
theorem d_Md_stepsIf_0 : decode prog_13_method_87_code 0 = .ok (.aload_n 0, 1) := by decide +kernel
theorem d_Md_stepsIf_1 : decode prog_13_method_87_code 1 = .ok (.aload_n 0, 1) := by decide +kernel
theorem d_Md_stepsIf_2 : decode prog_13_method_87_code 2 = .ok (.invokevirtual 265, 3) := by decide +kernel
theorem d_Md_stepsIf_5 : decode prog_13_method_87_code 5 = .ok (.iload_n 1, 1) := by decide +kernel
theorem d_Md_stepsIf_6 : decode prog_13_method_87_code 6 = .ok (.invokevirtual 329, 3) := by decide +kernel
theorem d_Md_stepsIf_9 : decode prog_13_method_87_code 9 = .ok (.aload_n 0, 1) := by decide +kernel
theorem d_Md_stepsIf_10 : decode prog_13_method_87_code 10 = .ok (.getfield 39, 3) := by decide +kernel
theorem d_Md_stepsIf_13 : decode prog_13_method_87_code 13 = .ok (.aload_n 0, 1) := by decide +kernel
theorem d_Md_stepsIf_14 : decode prog_13_method_87_code 14 = .ok (.invokevirtual 341, 3) := by decide +kernel
theorem d_Md_stepsIf_17 : decode prog_13_method_87_code 17 = .ok (.iaload, 1) := by decide +kernel
theorem d_Md_stepsIf_18 : decode prog_13_method_87_code 18 = .ok (.ireturn, 1) := by decide +kernel
theorem t_Md_stepsIf {G : mG} (h : mH) (v0 v1 : Int) (r : mR) (hr : f_Md_stepsIf h v0 v1 = some r) : mJM G M_Md_stepsIf [(2, v0), (0, v1)] h r := by
  refine mJM_of (L := [(2, v0), (0, v1)]) rfl rfl rfl (Nat.le_of_ble_eq_true rfl) ?_
  unfold f_Md_stepsIf at hr
  refine j_aload_n (pc := 0) d_Md_stepsIf_0 rfl ?_
  refine j_aload_n (pc := 1) d_Md_stepsIf_1 rfl ?_
  obtain ⟨ha, hr⟩ := chk_some hr
  refine j_callG (pc := 2) (stk := [(2, v0), (2, v0)]) (as := [(2, v0)]) (P := (fun v9 => ((0 : Nat), v9) :: [(2, v0)])) (tg := 0) (My := M_Md_standNow) (mRunV (as := []) (st := [(2, v0)]) d_Md_stepsIf_2 (mc_Md_standNow (by decide)) rfl (mv_Md_standNow tb_ml_Md_265) rfl (Nat.le_of_ble_eq_true rfl) ha) (fun v => rfl) rfl hr (fun r1 h1 => t_Md_standNow _ _ _ h1) (fun x2 h1 hr => ?_)
  refine j_iload_n (pc := 5) d_Md_stepsIf_5 rfl ?_
  obtain ⟨ha, hr⟩ := chk_some hr
  refine j_callG (pc := 6) (stk := [(0, v1), (0, x2), (2, v0)]) (as := [(2, v0), (0, x2), (0, v1)]) (P := (fun v9 => [])) (tg := 3) (My := M_Md_laysFrom) (mRunV (as := [(0, x2), (0, v1)]) (st := []) d_Md_stepsIf_6 (mc_Md_laysFrom (by decide)) rfl (mv_Md_laysFrom tb_ml_Md_329) rfl (Nat.le_of_ble_eq_true rfl) ha) (fun v => rfl) rfl hr (fun r1 h1 => t_Md_laysFrom _ _ _ _ _ h1) (fun x4 h3 hr => ?_)
  refine j_aload_n (pc := 9) d_Md_stepsIf_9 rfl ?_
  refine j_getf (pc := 10) d_Md_stepsIf_10 (fd_Md_39 rfl) hr (fun hr => ?_)
  refine j_aload_n (pc := 13) d_Md_stepsIf_13 rfl ?_
  obtain ⟨ha, hr⟩ := chk_some hr
  refine j_callG (pc := 14) (stk := [(2, v0), (2, hpV h3 v0 22)]) (as := [(2, v0)]) (P := (fun v9 => ((0 : Nat), v9) :: [(2, hpV h3 v0 22)])) (tg := 0) (My := M_Md_openStand) (mRunV (as := []) (st := [(2, hpV h3 v0 22)]) d_Md_stepsIf_14 (mc_Md_openStand (by decide)) rfl (mv_Md_openStand tb_ml_Md_341) rfl (Nat.le_of_ble_eq_true rfl) ha) (fun v => rfl) rfl hr (fun r1 h1 => t_Md_openStand _ _ _ h1) (fun x6 h5 hr => ?_)
  refine j_iaload (pc := 17) d_Md_stepsIf_17 hr (fun hr => ?_)
  exact j_iret (pc := 18) d_Md_stepsIf_18 rfl hr
def M_Md_ifWorn : mM := ("NineBarsModel", ⟨"NineBarsModel", "ifWorn", "(I)I"⟩, prog_13_method_88_code, 2, some .int, [], 13)
theorem tb_co_Md_ifWorn : mTB (Cond.code ⟨"NineBarsModel", "ifWorn", "(I)I"⟩ prog_13_method_88_code 2 (some .int)) := tbq8 208 (by decide +kernel) rfl
theorem mc_Md_ifWorn {M : mM} (hd : 13 < mDp M) : mCal M M_Md_ifWorn 1 := ⟨tb_co_Md_ifWorn, tb_in_NineBarsModel, ⟨by decide +kernel, by decide +kernel⟩, by decide +kernel, hd, by decide⟩
theorem d_Md_ifWorn_0 : decode prog_13_method_88_code 0 = .ok (.aload_n 0, 1) := by decide +kernel
theorem d_Md_ifWorn_1 : decode prog_13_method_88_code 1 = .ok (.aload_n 0, 1) := by decide +kernel
theorem d_Md_ifWorn_2 : decode prog_13_method_88_code 2 = .ok (.iload_n 1, 1) := by decide +kernel
theorem d_Md_ifWorn_3 : decode prog_13_method_88_code 3 = .ok (.i2l, 1) := by decide +kernel
theorem d_Md_ifWorn_4 : decode prog_13_method_88_code 4 = .ok (.invokevirtual 226, 3) := by decide +kernel
theorem d_Md_ifWorn_7 : decode prog_13_method_88_code 7 = .ok (.ifCond .ne 7, 3) := by decide +kernel
theorem d_Md_ifWorn_14 : decode prog_13_method_88_code 14 = .ok (.aload_n 0, 1) := by decide +kernel
theorem d_Md_ifWorn_15 : decode prog_13_method_88_code 15 = .ok (.invokevirtual 261, 3) := by decide +kernel
theorem d_Md_ifWorn_18 : decode prog_13_method_88_code 18 = .ok (.ifCond .eq 7, 3) := by decide +kernel
theorem d_Md_ifWorn_25 : decode prog_13_method_88_code 25 = .ok (.iconst 0, 1) := by decide +kernel
theorem d_Md_ifWorn_26 : decode prog_13_method_88_code 26 = .ok (.putfield 86, 3) := by decide +kernel
theorem d_Md_ifWorn_29 : decode prog_13_method_88_code 29 = .ok (.aload_n 0, 1) := by decide +kernel
theorem d_Md_ifWorn_30 : decode prog_13_method_88_code 30 = .ok (.getfield 86, 3) := by decide +kernel
theorem d_Md_ifWorn_33 : decode prog_13_method_88_code 33 = .ok (.ifCond .le 7, 3) := by decide +kernel
theorem d_Md_ifWorn_40 : decode prog_13_method_88_code 40 = .ok (.aload_n 0, 1) := by decide +kernel
theorem d_Md_ifWorn_41 : decode prog_13_method_88_code 41 = .ok (.aload_n 0, 1) := by decide +kernel
theorem d_Md_ifWorn_42 : decode prog_13_method_88_code 42 = .ok (.invokevirtual 244, 3) := by decide +kernel
theorem d_Md_ifWorn_45 : decode prog_13_method_88_code 45 = .ok (.iconst 1, 1) := by decide +kernel
theorem d_Md_ifWorn_46 : decode prog_13_method_88_code 46 = .ok (.iload_n 1, 1) := by decide +kernel
theorem d_Md_ifWorn_47 : decode prog_13_method_88_code 47 = .ok (.ishl, 1) := by decide +kernel
theorem d_Md_ifWorn_48 : decode prog_13_method_88_code 48 = .ok (.ior, 1) := by decide +kernel
theorem d_Md_ifWorn_49 : decode prog_13_method_88_code 49 = .ok (.invokevirtual 362, 3) := by decide +kernel
theorem tb_ml_Md_362 : mTB (Cond.methodLink "NineBarsModel" 362 ⟨"NineBarsModel", "stepsIf", "(I)I"⟩) := tbq8 209 (by decide +kernel) rfl
theorem tb_im_Md_stepsIf : mTB (Cond.instanceMethod ⟨"NineBarsModel", "stepsIf", "(I)I"⟩) := tbq8 211 (by decide +kernel) rfl
theorem tb_se_Md_stepsIf : mTB (Cond.selects "NineBarsModel" ⟨"NineBarsModel", "stepsIf", "(I)I"⟩ ⟨"NineBarsModel", "stepsIf", "(I)I"⟩) := tbqp 94 (by decide +kernel) rfl
theorem mv_Md_stepsIf {M : mM} {idx : Nat} (h : mTB (Cond.methodLink (mO M) idx ⟨"NineBarsModel", "stepsIf", "(I)I"⟩)) : mCaV M M_Md_stepsIf idx 11 := ⟨h, tb_im_Md_stepsIf, tb_se_Md_stepsIf, by decide, TX11, 40, rfl⟩
theorem d_Md_ifWorn_52 : decode prog_13_method_88_code 52 = .ok (.ireturn, 1) := by decide +kernel
theorem d_Md_ifWorn_36 : decode prog_13_method_88_code 36 = .ok (.iconst 0, 1) := by decide +kernel
theorem d_Md_ifWorn_37 : decode prog_13_method_88_code 37 = .ok (.goto 15, 3) := by decide +kernel
theorem d_Md_ifWorn_21 : decode prog_13_method_88_code 21 = .ok (.iconst 2, 1) := by decide +kernel
theorem d_Md_ifWorn_22 : decode prog_13_method_88_code 22 = .ok (.goto 4, 3) := by decide +kernel
theorem d_Md_ifWorn_10 : decode prog_13_method_88_code 10 = .ok (.iconst 1, 1) := by decide +kernel
theorem d_Md_ifWorn_11 : decode prog_13_method_88_code 11 = .ok (.goto 15, 3) := by decide +kernel
theorem t_Md_ifWorn_J26 {G : mG} {r : mR} {v0 v1 s0 s1 : Int} {h : mH}  (hr : f_Md_ifWorn_J26 v0 v1 s0 s1 h = some r) : mJ G M_Md_ifWorn 26 [(2, v0), (0, v1)] [(0, s1), (2, s0)] h r := by
  unfold f_Md_ifWorn_J26 at hr
  refine j_puti (pc := 26) d_Md_ifWorn_26 (fd_Md_86 rfl) (⟨_, _, _, rfl, Or.inl rfl, rfl⟩ : mFldW M_Md_ifWorn 86 11 5 .int) hr (fun h1 hr => ?_)
  refine j_aload_n (pc := 29) d_Md_ifWorn_29 rfl ?_
  refine j_getf (pc := 30) d_Md_ifWorn_30 (fd_Md_86 rfl) hr (fun hr => ?_)
  refine j_if_le (pc := 33) (tgt := 40) d_Md_ifWorn_33 hr (fun hr => ?_) (fun hr => ?_)
  · refine j_aload_n (pc := 40) d_Md_ifWorn_40 rfl ?_
    refine j_aload_n (pc := 41) d_Md_ifWorn_41 rfl ?_
    obtain ⟨ha, hr⟩ := chk_some hr
    refine j_callG (pc := 42) (stk := [(2, v0), (2, v0)]) (as := [(2, v0)]) (P := (fun v9 => ((0 : Nat), v9) :: [(2, v0)])) (tg := 0) (My := M_Md_worn) (mRunV (as := []) (st := [(2, v0)]) d_Md_ifWorn_42 (mc_Md_worn (by decide)) rfl (mv_Md_worn tb_ml_Md_244) rfl (Nat.le_of_ble_eq_true rfl) ha) (fun v => rfl) rfl hr (fun r1 h1 => t_Md_worn _ _ _ h1) (fun x3 h2 hr => ?_)
    refine j_iconst (pc := 45) d_Md_ifWorn_45 ?_
    refine j_iload_n (pc := 46) d_Md_ifWorn_46 rfl ?_
    refine j_ishl (pc := 47) d_Md_ifWorn_47 ?_
    refine j_ior (pc := 48) d_Md_ifWorn_48 ?_
    obtain ⟨ha, hr⟩ := chk_some hr
    refine j_callG (pc := 49) (stk := [(0, qor x3 (qshl 1 v1)), (2, v0)]) (as := [(2, v0), (0, qor x3 (qshl 1 v1))]) (P := (fun v9 => ((0 : Nat), v9) :: [])) (tg := 0) (My := M_Md_stepsIf) (mRunV (as := [(0, qor x3 (qshl 1 v1))]) (st := []) d_Md_ifWorn_49 (mc_Md_stepsIf (by decide)) rfl (mv_Md_stepsIf tb_ml_Md_362) rfl (Nat.le_of_ble_eq_true rfl) ha) (fun v => rfl) rfl hr (fun r1 h1 => t_Md_stepsIf _ _ _ _ h1) (fun x5 h4 hr => ?_)
    exact j_iret (pc := 52) d_Md_ifWorn_52 rfl hr
  · refine j_iconst (pc := 36) d_Md_ifWorn_36 ?_
    refine j_goto (pc := 37) (tgt := 52) d_Md_ifWorn_37 ?_
    exact j_iret (pc := 52) d_Md_ifWorn_52 rfl hr
theorem t_Md_ifWorn {G : mG} (h : mH) (v0 v1 : Int) (r : mR) (hr : f_Md_ifWorn h v0 v1 = some r) : mJM G M_Md_ifWorn [(2, v0), (0, v1)] h r := by
  refine mJM_of (L := [(2, v0), (0, v1)]) rfl rfl rfl (Nat.le_of_ble_eq_true rfl) ?_
  unfold f_Md_ifWorn at hr
  refine j_aload_n (pc := 0) d_Md_ifWorn_0 rfl ?_
  refine j_aload_n (pc := 1) d_Md_ifWorn_1 rfl ?_
  refine j_iload_n (pc := 2) d_Md_ifWorn_2 rfl ?_
  refine j_i2l (pc := 3) d_Md_ifWorn_3 ?_
  obtain ⟨ha, hr⟩ := chk_some hr
  refine j_callG (pc := 4) (stk := [(1, v1), (2, v0), (2, v0)]) (as := [(2, v0), (1, v1)]) (P := (fun v9 => ((0 : Nat), v9) :: [(2, v0)])) (tg := 0) (My := M_Md_isBar) (mRunV (as := [(1, v1)]) (st := [(2, v0)]) d_Md_ifWorn_4 (mc_Md_isBar (by decide)) rfl (mv_Md_isBar tb_ml_Md_226) rfl (Nat.le_of_ble_eq_true rfl) ha) (fun v => rfl) rfl hr (fun r1 h1 => t_Md_isBar _ _ _ _ h1) (fun x2 h1 hr => ?_)
  refine j_if_ne (pc := 7) (tgt := 14) d_Md_ifWorn_7 hr (fun hr => ?_) (fun hr => ?_)
  · refine j_aload_n (pc := 14) d_Md_ifWorn_14 rfl ?_
    obtain ⟨ha, hr⟩ := chk_some hr
    refine j_callG (pc := 15) (stk := [(2, v0), (2, v0)]) (as := [(2, v0)]) (P := (fun v9 => ((0 : Nat), v9) :: [(2, v0)])) (tg := 0) (My := M_Md_isSpent) (mRunV (as := []) (st := [(2, v0)]) d_Md_ifWorn_15 (mc_Md_isSpent (by decide)) rfl (mv_Md_isSpent tb_ml_Md_261) rfl (Nat.le_of_ble_eq_true rfl) ha) (fun v => rfl) rfl hr (fun r1 h1 => t_Md_isSpent _ _ _ h1) (fun x4 h3 hr => ?_)
    refine j_if_eq (pc := 18) (tgt := 25) d_Md_ifWorn_18 hr (fun hr => ?_) (fun hr => ?_)
    · refine j_iconst (pc := 25) d_Md_ifWorn_25 ?_
      exact mJ_weak (ls' := [(2, v0), (0, v1)]) (mwk_s (mwk_s mwk_n)) (t_Md_ifWorn_J26  hr)
    · refine j_iconst (pc := 21) d_Md_ifWorn_21 ?_
      refine j_goto (pc := 22) (tgt := 26) d_Md_ifWorn_22 ?_
      exact mJ_weak (ls' := [(2, v0), (0, v1)]) (mwk_s (mwk_s mwk_n)) (t_Md_ifWorn_J26  hr)
  · refine j_iconst (pc := 10) d_Md_ifWorn_10 ?_
    refine j_goto (pc := 11) (tgt := 26) d_Md_ifWorn_11 ?_
    exact mJ_weak (ls' := [(2, v0), (0, v1)]) (mwk_s (mwk_s mwk_n)) (t_Md_ifWorn_J26  hr)
def M_Md_weakest : mM := ("NineBarsModel", ⟨"NineBarsModel", "weakest", "()I"⟩, prog_13_method_89_code, 5, some .int, [], 13)
theorem tb_co_Md_weakest : mTB (Cond.code ⟨"NineBarsModel", "weakest", "()I"⟩ prog_13_method_89_code 5 (some .int)) := tbq8 216 (by decide +kernel) rfl
theorem mc_Md_weakest {M : mM} (hd : 13 < mDp M) : mCal M M_Md_weakest 0 := ⟨tb_co_Md_weakest, tb_in_NineBarsModel, ⟨by decide +kernel, by decide +kernel⟩, by decide +kernel, hd, by decide⟩
theorem d_Md_weakest_0 : decode prog_13_method_89_code 0 = .ok (.aload_n 0, 1) := by decide +kernel
theorem d_Md_weakest_1 : decode prog_13_method_89_code 1 = .ok (.aload_n 0, 1) := by decide +kernel
theorem d_Md_weakest_2 : decode prog_13_method_89_code 2 = .ok (.invokevirtual 261, 3) := by decide +kernel
theorem d_Md_weakest_5 : decode prog_13_method_89_code 5 = .ok (.ifCond .eq 7, 3) := by decide +kernel
theorem d_Md_weakest_12 : decode prog_13_method_89_code 12 = .ok (.iconst 0, 1) := by decide +kernel
theorem d_Md_weakest_13 : decode prog_13_method_89_code 13 = .ok (.putfield 86, 3) := by decide +kernel
theorem d_Md_weakest_16 : decode prog_13_method_89_code 16 = .ok (.aload_n 0, 1) := by decide +kernel
theorem d_Md_weakest_17 : decode prog_13_method_89_code 17 = .ok (.getfield 86, 3) := by decide +kernel
theorem d_Md_weakest_20 : decode prog_13_method_89_code 20 = .ok (.ifCond .le 5, 3) := by decide +kernel
theorem d_Md_weakest_25 : decode prog_13_method_89_code 25 = .ok (.iconst (-1), 1) := by decide +kernel
theorem d_Md_weakest_26 : decode prog_13_method_89_code 26 = .ok (.istore_n 1, 1) := by decide +kernel
theorem d_Md_weakest_27 : decode prog_13_method_89_code 27 = .ok (.iconst 0, 1) := by decide +kernel
theorem d_Md_weakest_28 : decode prog_13_method_89_code 28 = .ok (.istore_n 2, 1) := by decide +kernel
theorem d_Md_weakest_29 : decode prog_13_method_89_code 29 = .ok (.iconst 0, 1) := by decide +kernel
theorem d_Md_weakest_30 : decode prog_13_method_89_code 30 = .ok (.istore_n 3, 1) := by decide +kernel
theorem d_Md_weakest_31 : decode prog_13_method_89_code 31 = .ok (.iload_n 3, 1) := by decide +kernel
theorem d_Md_weakest_32 : decode prog_13_method_89_code 32 = .ok (.aload_n 0, 1) := by decide +kernel
theorem d_Md_weakest_33 : decode prog_13_method_89_code 33 = .ok (.invokevirtual 210, 3) := by decide +kernel
theorem d_Md_weakest_36 : decode prog_13_method_89_code 36 = .ok (.if_icmp .ge 48, 3) := by decide +kernel
theorem d_Md_weakest_84 : decode prog_13_method_89_code 84 = .ok (.iload_n 1, 1) := by decide +kernel
theorem d_Md_weakest_85 : decode prog_13_method_89_code 85 = .ok (.ireturn, 1) := by decide +kernel
theorem d_Md_weakest_39 : decode prog_13_method_89_code 39 = .ok (.aload_n 0, 1) := by decide +kernel
theorem d_Md_weakest_40 : decode prog_13_method_89_code 40 = .ok (.aload_n 0, 1) := by decide +kernel
theorem d_Md_weakest_41 : decode prog_13_method_89_code 41 = .ok (.invokevirtual 244, 3) := by decide +kernel
theorem d_Md_weakest_44 : decode prog_13_method_89_code 44 = .ok (.iconst 1, 1) := by decide +kernel
theorem d_Md_weakest_45 : decode prog_13_method_89_code 45 = .ok (.iload_n 3, 1) := by decide +kernel
theorem d_Md_weakest_46 : decode prog_13_method_89_code 46 = .ok (.ishl, 1) := by decide +kernel
theorem d_Md_weakest_47 : decode prog_13_method_89_code 47 = .ok (.ior, 1) := by decide +kernel
theorem d_Md_weakest_48 : decode prog_13_method_89_code 48 = .ok (.invokevirtual 362, 3) := by decide +kernel
theorem d_Md_weakest_51 : decode prog_13_method_89_code 51 = .ok (.istore 4, 2) := by decide +kernel
theorem d_Md_weakest_53 : decode prog_13_method_89_code 53 = .ok (.iload 4, 2) := by decide +kernel
theorem d_Md_weakest_55 : decode prog_13_method_89_code 55 = .ok (.iconst (-1), 1) := by decide +kernel
theorem d_Md_weakest_56 : decode prog_13_method_89_code 56 = .ok (.if_icmp .eq 22, 3) := by decide +kernel
theorem d_Md_weakest_78 : decode prog_13_method_89_code 78 = .ok (.iinc 3 1, 3) := by decide +kernel
theorem d_Md_weakest_81 : decode prog_13_method_89_code 81 = .ok (.goto (-50), 3) := by decide +kernel
theorem d_Md_weakest_59 : decode prog_13_method_89_code 59 = .ok (.iload_n 1, 1) := by decide +kernel
theorem d_Md_weakest_60 : decode prog_13_method_89_code 60 = .ok (.iconst (-1), 1) := by decide +kernel
theorem d_Md_weakest_61 : decode prog_13_method_89_code 61 = .ok (.if_icmp .eq 12, 3) := by decide +kernel
theorem d_Md_weakest_73 : decode prog_13_method_89_code 73 = .ok (.iload_n 3, 1) := by decide +kernel
theorem d_Md_weakest_74 : decode prog_13_method_89_code 74 = .ok (.istore_n 1, 1) := by decide +kernel
theorem d_Md_weakest_75 : decode prog_13_method_89_code 75 = .ok (.iload 4, 2) := by decide +kernel
theorem d_Md_weakest_77 : decode prog_13_method_89_code 77 = .ok (.istore_n 2, 1) := by decide +kernel
theorem d_Md_weakest_64 : decode prog_13_method_89_code 64 = .ok (.iload 4, 2) := by decide +kernel
theorem d_Md_weakest_66 : decode prog_13_method_89_code 66 = .ok (.iload_n 2, 1) := by decide +kernel
theorem d_Md_weakest_67 : decode prog_13_method_89_code 67 = .ok (.if_icmp .lt 6, 3) := by decide +kernel
theorem d_Md_weakest_70 : decode prog_13_method_89_code 70 = .ok (.goto 8, 3) := by decide +kernel
theorem d_Md_weakest_23 : decode prog_13_method_89_code 23 = .ok (.iconst 0, 1) := by decide +kernel
theorem d_Md_weakest_24 : decode prog_13_method_89_code 24 = .ok (.ireturn, 1) := by decide +kernel
theorem d_Md_weakest_8 : decode prog_13_method_89_code 8 = .ok (.iconst 1, 1) := by decide +kernel
theorem d_Md_weakest_9 : decode prog_13_method_89_code 9 = .ok (.goto 4, 3) := by decide +kernel
theorem t_Md_weakest_J78 {G : mG} {r : mR} {v0 v1 v2 v3 : Int} {h : mH} {R31 : mH → Int → Int → Int → Option mR} (hR31 : ∀ (h : mH) (w1 w2 w3 : Int) , R31 h w1 w2 w3 = some r → mJ G M_Md_weakest 31 [(2, v0), (0, w1), (0, w2), (0, w3), (9, 0)] [] h r) (hr : f_Md_weakest_J78 R31 v1 v2 v3 h = some r) : mJ G M_Md_weakest 78 [(2, v0), (0, v1), (0, v2), (0, v3), (9, 0)] [] h r := by
  unfold f_Md_weakest_J78 at hr
  refine j_iincW (pc := 78) (L := fun x1 => [(2, v0), (0, v1), (0, v2), (0, x1), (9, 0)]) d_Md_weakest_78 rfl (fun _ => rfl) hr (fun x1 hr => ?_)
  refine j_goto (pc := 81) (tgt := 31) d_Md_weakest_81 ?_
  exact mJ_weak (ls' := [(2, v0), (0, v1), (0, v2), (0, x1), (9, 0)]) (mwk_s (mwk_s (mwk_s (mwk_s (mwk_s mwk_n))))) (hR31 h _ _ _ hr)
theorem t_Md_weakest_J73 {G : mG} {r : mR} {v0 v3 v4 : Int} {h : mH} {R31 : mH → Int → Int → Int → Option mR} (hR31 : ∀ (h : mH) (w1 w2 w3 : Int) , R31 h w1 w2 w3 = some r → mJ G M_Md_weakest 31 [(2, v0), (0, w1), (0, w2), (0, w3), (9, 0)] [] h r) (hr : f_Md_weakest_J73 R31 v3 v4 h = some r) : mJ G M_Md_weakest 73 [(2, v0), (9, 0), (9, 0), (0, v3), (0, v4)] [] h r := by
  unfold f_Md_weakest_J73 at hr
  refine j_iload_n (pc := 73) d_Md_weakest_73 rfl ?_
  refine j_istore_n (pc := 74) (ls' := [(2, v0), (0, v3), (9, 0), (0, v3), (0, v4)]) d_Md_weakest_74 rfl ?_
  refine j_iload (pc := 75) d_Md_weakest_75 rfl ?_
  refine j_istore_n (pc := 77) (ls' := [(2, v0), (0, v3), (0, v4), (0, v3), (0, v4)]) d_Md_weakest_77 rfl ?_
  exact mJ_weak (ls' := [(2, v0), (0, v3), (0, v4), (0, v3), (9, 0)]) (mwk_s (mwk_s (mwk_s (mwk_s (mwk_d mwk_n))))) (t_Md_weakest_J78 hR31 hr)
theorem t_Md_weakest_L31 {G : mG} {r : mR} {v0 : Int}  : ∀ (n : Nat) (h : mH) (v1 v2 v3 : Int), f_Md_weakest_L31 v0 n h v1 v2 v3 = some r → mJ G M_Md_weakest 31 [(2, v0), (0, v1), (0, v2), (0, v3), (9, 0)] [] h r := by
  intro n
  induction n with
  | zero =>
    intro h v1 v2 v3 hr
    rw [f_Md_weakest_L31] at hr
    cases hr
  | succ n hR31 =>
    intro h v1 v2 v3 hr
    rw [f_Md_weakest_L31] at hr
    refine j_iload_n (pc := 31) d_Md_weakest_31 rfl ?_
    refine j_aload_n (pc := 32) d_Md_weakest_32 rfl ?_
    obtain ⟨ha, hr⟩ := chk_some hr
    refine j_callG (pc := 33) (stk := [(2, v0), (0, v3)]) (as := [(2, v0)]) (P := (fun v9 => ((0 : Nat), v9) :: [(0, v3)])) (tg := 0) (My := M_Md_bars) (mRunV (as := []) (st := [(0, v3)]) d_Md_weakest_33 (mc_Md_bars (by decide)) rfl (mv_Md_bars tb_ml_Md_210) rfl (Nat.le_of_ble_eq_true rfl) ha) (fun v => rfl) rfl hr (fun r1 h1 => t_Md_bars _ _ _ h1) (fun x2 h1 hr => ?_)
    refine j_icmp_ge (pc := 36) (tgt := 84) d_Md_weakest_36 hr (fun hr => ?_) (fun hr => ?_)
    · refine j_iload_n (pc := 84) d_Md_weakest_84 rfl ?_
      exact j_iret (pc := 85) d_Md_weakest_85 rfl hr
    · refine j_aload_n (pc := 39) d_Md_weakest_39 rfl ?_
      refine j_aload_n (pc := 40) d_Md_weakest_40 rfl ?_
      obtain ⟨ha, hr⟩ := chk_some hr
      refine j_callG (pc := 41) (stk := [(2, v0), (2, v0)]) (as := [(2, v0)]) (P := (fun v9 => ((0 : Nat), v9) :: [(2, v0)])) (tg := 0) (My := M_Md_worn) (mRunV (as := []) (st := [(2, v0)]) d_Md_weakest_41 (mc_Md_worn (by decide)) rfl (mv_Md_worn tb_ml_Md_244) rfl (Nat.le_of_ble_eq_true rfl) ha) (fun v => rfl) rfl hr (fun r1 h1 => t_Md_worn _ _ _ h1) (fun x4 h3 hr => ?_)
      refine j_iconst (pc := 44) d_Md_weakest_44 ?_
      refine j_iload_n (pc := 45) d_Md_weakest_45 rfl ?_
      refine j_ishl (pc := 46) d_Md_weakest_46 ?_
      refine j_ior (pc := 47) d_Md_weakest_47 ?_
      obtain ⟨ha, hr⟩ := chk_some hr
      refine j_callG (pc := 48) (stk := [(0, qor x4 (qshl 1 v3)), (2, v0)]) (as := [(2, v0), (0, qor x4 (qshl 1 v3))]) (P := (fun v9 => ((0 : Nat), v9) :: [])) (tg := 0) (My := M_Md_stepsIf) (mRunV (as := [(0, qor x4 (qshl 1 v3))]) (st := []) d_Md_weakest_48 (mc_Md_stepsIf (by decide)) rfl (mv_Md_stepsIf tb_ml_Md_362) rfl (Nat.le_of_ble_eq_true rfl) ha) (fun v => rfl) rfl hr (fun r1 h1 => t_Md_stepsIf _ _ _ _ h1) (fun x6 h5 hr => ?_)
      refine j_istore (pc := 51) (ls' := [(2, v0), (0, v1), (0, v2), (0, v3), (0, x6)]) d_Md_weakest_51 rfl ?_
      refine j_iload (pc := 53) d_Md_weakest_53 rfl ?_
      refine j_iconst (pc := 55) d_Md_weakest_55 ?_
      refine j_icmp_eq (pc := 56) (tgt := 78) d_Md_weakest_56 hr (fun hr => ?_) (fun hr => ?_)
      · exact mJ_weak (ls' := [(2, v0), (0, v1), (0, v2), (0, v3), (9, 0)]) (mwk_s (mwk_s (mwk_s (mwk_s (mwk_d mwk_n))))) (t_Md_weakest_J78 hR31 hr)
      · refine j_iload_n (pc := 59) d_Md_weakest_59 rfl ?_
        refine j_iconst (pc := 60) d_Md_weakest_60 ?_
        refine j_icmp_eq (pc := 61) (tgt := 73) d_Md_weakest_61 hr (fun hr => ?_) (fun hr => ?_)
        · exact mJ_weak (ls' := [(2, v0), (9, 0), (9, 0), (0, v3), (0, x6)]) (mwk_s (mwk_d (mwk_d (mwk_s (mwk_s mwk_n))))) (t_Md_weakest_J73 hR31 hr)
        · refine j_iload (pc := 64) d_Md_weakest_64 rfl ?_
          refine j_iload_n (pc := 66) d_Md_weakest_66 rfl ?_
          refine j_icmp_lt (pc := 67) (tgt := 73) d_Md_weakest_67 hr (fun hr => ?_) (fun hr => ?_)
          · exact mJ_weak (ls' := [(2, v0), (9, 0), (9, 0), (0, v3), (0, x6)]) (mwk_s (mwk_d (mwk_d (mwk_s (mwk_s mwk_n))))) (t_Md_weakest_J73 hR31 hr)
          · refine j_goto (pc := 70) (tgt := 78) d_Md_weakest_70 ?_
            exact mJ_weak (ls' := [(2, v0), (0, v1), (0, v2), (0, v3), (9, 0)]) (mwk_s (mwk_s (mwk_s (mwk_s (mwk_d mwk_n))))) (t_Md_weakest_J78 hR31 hr)
theorem t_Md_weakest_J13 {G : mG} {r : mR} {v0 s0 s1 : Int} {h : mH}  (hr : f_Md_weakest_J13 v0 s0 s1 h = some r) : mJ G M_Md_weakest 13 [(2, v0), (9, 0), (9, 0), (9, 0), (9, 0)] [(0, s1), (2, s0)] h r := by
  unfold f_Md_weakest_J13 at hr
  refine j_puti (pc := 13) d_Md_weakest_13 (fd_Md_86 rfl) (⟨_, _, _, rfl, Or.inl rfl, rfl⟩ : mFldW M_Md_weakest 86 11 5 .int) hr (fun h1 hr => ?_)
  refine j_aload_n (pc := 16) d_Md_weakest_16 rfl ?_
  refine j_getf (pc := 17) d_Md_weakest_17 (fd_Md_86 rfl) hr (fun hr => ?_)
  refine j_if_le (pc := 20) (tgt := 25) d_Md_weakest_20 hr (fun hr => ?_) (fun hr => ?_)
  · refine j_iconst (pc := 25) d_Md_weakest_25 ?_
    refine j_istore_n (pc := 26) (ls' := [(2, v0), (0, (-1)), (9, 0), (9, 0), (9, 0)]) d_Md_weakest_26 rfl ?_
    refine j_iconst (pc := 27) d_Md_weakest_27 ?_
    refine j_istore_n (pc := 28) (ls' := [(2, v0), (0, (-1)), (0, 0), (9, 0), (9, 0)]) d_Md_weakest_28 rfl ?_
    refine j_iconst (pc := 29) d_Md_weakest_29 ?_
    refine j_istore_n (pc := 30) (ls' := [(2, v0), (0, (-1)), (0, 0), (0, 0), (9, 0)]) d_Md_weakest_30 rfl ?_
    refine mJ_weak (ls' := [(2, v0), (0, (-1)), (0, 0), (0, 0), (9, 0)]) (mwk_s (mwk_s (mwk_s (mwk_s (mwk_s mwk_n))))) (t_Md_weakest_L31  _ _ _ _ _ hr)
  · refine j_iconst (pc := 23) d_Md_weakest_23 ?_
    exact j_iret (pc := 24) d_Md_weakest_24 rfl hr
theorem t_Md_weakest {G : mG} (h : mH) (v0 : Int) (r : mR) (hr : f_Md_weakest h v0 = some r) : mJM G M_Md_weakest [(2, v0)] h r := by
  refine mJM_of (L := [(2, v0), (9, 0), (9, 0), (9, 0), (9, 0)]) rfl rfl rfl (Nat.le_of_ble_eq_true rfl) ?_
  unfold f_Md_weakest at hr
  refine j_aload_n (pc := 0) d_Md_weakest_0 rfl ?_
  refine j_aload_n (pc := 1) d_Md_weakest_1 rfl ?_
  obtain ⟨ha, hr⟩ := chk_some hr
  refine j_callG (pc := 2) (stk := [(2, v0), (2, v0)]) (as := [(2, v0)]) (P := (fun v9 => ((0 : Nat), v9) :: [(2, v0)])) (tg := 0) (My := M_Md_isSpent) (mRunV (as := []) (st := [(2, v0)]) d_Md_weakest_2 (mc_Md_isSpent (by decide)) rfl (mv_Md_isSpent tb_ml_Md_261) rfl (Nat.le_of_ble_eq_true rfl) ha) (fun v => rfl) rfl hr (fun r1 h1 => t_Md_isSpent _ _ _ h1) (fun x2 h1 hr => ?_)
  refine j_if_eq (pc := 5) (tgt := 12) d_Md_weakest_5 hr (fun hr => ?_) (fun hr => ?_)
  · refine j_iconst (pc := 12) d_Md_weakest_12 ?_
    exact mJ_weak (ls' := [(2, v0), (9, 0), (9, 0), (9, 0), (9, 0)]) (mwk_s (mwk_s (mwk_s (mwk_s (mwk_s mwk_n))))) (t_Md_weakest_J13  hr)
  · refine j_iconst (pc := 8) d_Md_weakest_8 ?_
    refine j_goto (pc := 9) (tgt := 13) d_Md_weakest_9 ?_
    exact mJ_weak (ls' := [(2, v0), (9, 0), (9, 0), (9, 0), (9, 0)]) (mwk_s (mwk_s (mwk_s (mwk_s (mwk_s mwk_n))))) (t_Md_weakest_J13  hr)
def M_Md_triesIt : mM := ("NineBarsModel", ⟨"NineBarsModel", "triesIt", "(I)V"⟩, prog_13_method_90_code, 3, none, [], 13)
theorem tb_co_Md_triesIt : mTB (Cond.code ⟨"NineBarsModel", "triesIt", "(I)V"⟩ prog_13_method_90_code 3 (none)) := tbq8 229 (by decide +kernel) rfl
theorem mc_Md_triesIt {M : mM} (hd : 13 < mDp M) : mCal M M_Md_triesIt 1 := ⟨tb_co_Md_triesIt, tb_in_NineBarsModel, ⟨by decide +kernel, by decide +kernel⟩, by decide +kernel, hd, by decide⟩
theorem d_Md_triesIt_0 : decode prog_13_method_90_code 0 = .ok (.aload_n 0, 1) := by decide +kernel
theorem d_Md_triesIt_1 : decode prog_13_method_90_code 1 = .ok (.aload_n 0, 1) := by decide +kernel
theorem d_Md_triesIt_2 : decode prog_13_method_90_code 2 = .ok (.invokevirtual 244, 3) := by decide +kernel
theorem d_Md_triesIt_5 : decode prog_13_method_90_code 5 = .ok (.invokevirtual 362, 3) := by decide +kernel
theorem d_Md_triesIt_8 : decode prog_13_method_90_code 8 = .ok (.istore_n 2, 1) := by decide +kernel
theorem d_Md_triesIt_9 : decode prog_13_method_90_code 9 = .ok (.iload_n 2, 1) := by decide +kernel
theorem d_Md_triesIt_10 : decode prog_13_method_90_code 10 = .ok (.iconst (-1), 1) := by decide +kernel
theorem d_Md_triesIt_11 : decode prog_13_method_90_code 11 = .ok (.if_icmp .eq 18, 3) := by decide +kernel
theorem d_Md_triesIt_29 : decode prog_13_method_90_code 29 = .ok (.return_, 1) := by decide +kernel
theorem d_Md_triesIt_14 : decode prog_13_method_90_code 14 = .ok (.iload_n 2, 1) := by decide +kernel
theorem d_Md_triesIt_15 : decode prog_13_method_90_code 15 = .ok (.iload_n 1, 1) := by decide +kernel
theorem d_Md_triesIt_16 : decode prog_13_method_90_code 16 = .ok (.if_icmp .gt 13, 3) := by decide +kernel
theorem d_Md_triesIt_19 : decode prog_13_method_90_code 19 = .ok (.iload_n 2, 1) := by decide +kernel
theorem d_Md_triesIt_20 : decode prog_13_method_90_code 20 = .ok (.aload_n 0, 1) := by decide +kernel
theorem d_Md_triesIt_21 : decode prog_13_method_90_code 21 = .ok (.getfield 55, 3) := by decide +kernel
theorem d_Md_triesIt_24 : decode prog_13_method_90_code 24 = .ok (.iconst 0, 1) := by decide +kernel
theorem d_Md_triesIt_25 : decode prog_13_method_90_code 25 = .ok (.iaload, 1) := by decide +kernel
theorem d_Md_triesIt_26 : decode prog_13_method_90_code 26 = .ok (.if_icmp .gt 4, 3) := by decide +kernel
theorem d_Md_triesIt_30 : decode prog_13_method_90_code 30 = .ok (.aload_n 0, 1) := by decide +kernel
theorem d_Md_triesIt_31 : decode prog_13_method_90_code 31 = .ok (.getfield 55, 3) := by decide +kernel
theorem d_Md_triesIt_34 : decode prog_13_method_90_code 34 = .ok (.iconst 0, 1) := by decide +kernel
theorem d_Md_triesIt_35 : decode prog_13_method_90_code 35 = .ok (.iload_n 2, 1) := by decide +kernel
theorem d_Md_triesIt_36 : decode prog_13_method_90_code 36 = .ok (.iastore, 1) := by decide +kernel
theorem d_Md_triesIt_37 : decode prog_13_method_90_code 37 = .ok (.aload_n 0, 1) := by decide +kernel
theorem d_Md_triesIt_38 : decode prog_13_method_90_code 38 = .ok (.getfield 55, 3) := by decide +kernel
theorem d_Md_triesIt_41 : decode prog_13_method_90_code 41 = .ok (.iconst 1, 1) := by decide +kernel
theorem d_Md_triesIt_42 : decode prog_13_method_90_code 42 = .ok (.aload_n 0, 1) := by decide +kernel
theorem d_Md_triesIt_43 : decode prog_13_method_90_code 43 = .ok (.getfield 36, 3) := by decide +kernel
theorem d_Md_triesIt_46 : decode prog_13_method_90_code 46 = .ok (.iconst 0, 1) := by decide +kernel
theorem d_Md_triesIt_47 : decode prog_13_method_90_code 47 = .ok (.iaload, 1) := by decide +kernel
theorem d_Md_triesIt_48 : decode prog_13_method_90_code 48 = .ok (.iastore, 1) := by decide +kernel
theorem d_Md_triesIt_49 : decode prog_13_method_90_code 49 = .ok (.aload_n 0, 1) := by decide +kernel
theorem d_Md_triesIt_50 : decode prog_13_method_90_code 50 = .ok (.getfield 55, 3) := by decide +kernel
theorem d_Md_triesIt_53 : decode prog_13_method_90_code 53 = .ok (.iconst 2, 1) := by decide +kernel
theorem d_Md_triesIt_54 : decode prog_13_method_90_code 54 = .ok (.aload_n 0, 1) := by decide +kernel
theorem d_Md_triesIt_55 : decode prog_13_method_90_code 55 = .ok (.getfield 36, 3) := by decide +kernel
theorem d_Md_triesIt_58 : decode prog_13_method_90_code 58 = .ok (.iconst 1, 1) := by decide +kernel
theorem d_Md_triesIt_59 : decode prog_13_method_90_code 59 = .ok (.iaload, 1) := by decide +kernel
theorem d_Md_triesIt_60 : decode prog_13_method_90_code 60 = .ok (.iastore, 1) := by decide +kernel
theorem d_Md_triesIt_61 : decode prog_13_method_90_code 61 = .ok (.aload_n 0, 1) := by decide +kernel
theorem d_Md_triesIt_62 : decode prog_13_method_90_code 62 = .ok (.getfield 55, 3) := by decide +kernel
theorem d_Md_triesIt_65 : decode prog_13_method_90_code 65 = .ok (.iconst 3, 1) := by decide +kernel
theorem d_Md_triesIt_66 : decode prog_13_method_90_code 66 = .ok (.aload_n 0, 1) := by decide +kernel
theorem d_Md_triesIt_67 : decode prog_13_method_90_code 67 = .ok (.getfield 36, 3) := by decide +kernel
theorem d_Md_triesIt_70 : decode prog_13_method_90_code 70 = .ok (.iconst 2, 1) := by decide +kernel
theorem d_Md_triesIt_71 : decode prog_13_method_90_code 71 = .ok (.iaload, 1) := by decide +kernel
theorem d_Md_triesIt_72 : decode prog_13_method_90_code 72 = .ok (.iastore, 1) := by decide +kernel
theorem d_Md_triesIt_73 : decode prog_13_method_90_code 73 = .ok (.aload_n 0, 1) := by decide +kernel
theorem d_Md_triesIt_74 : decode prog_13_method_90_code 74 = .ok (.getfield 55, 3) := by decide +kernel
theorem d_Md_triesIt_77 : decode prog_13_method_90_code 77 = .ok (.iconst 4, 1) := by decide +kernel
theorem d_Md_triesIt_78 : decode prog_13_method_90_code 78 = .ok (.aload_n 0, 1) := by decide +kernel
theorem d_Md_triesIt_79 : decode prog_13_method_90_code 79 = .ok (.getfield 36, 3) := by decide +kernel
theorem d_Md_triesIt_82 : decode prog_13_method_90_code 82 = .ok (.iconst 4, 1) := by decide +kernel
theorem d_Md_triesIt_83 : decode prog_13_method_90_code 83 = .ok (.iaload, 1) := by decide +kernel
theorem d_Md_triesIt_84 : decode prog_13_method_90_code 84 = .ok (.iastore, 1) := by decide +kernel
theorem d_Md_triesIt_85 : decode prog_13_method_90_code 85 = .ok (.aload_n 0, 1) := by decide +kernel
theorem d_Md_triesIt_86 : decode prog_13_method_90_code 86 = .ok (.getfield 55, 3) := by decide +kernel
theorem d_Md_triesIt_89 : decode prog_13_method_90_code 89 = .ok (.iconst 5, 1) := by decide +kernel
theorem d_Md_triesIt_90 : decode prog_13_method_90_code 90 = .ok (.aload_n 0, 1) := by decide +kernel
theorem d_Md_triesIt_91 : decode prog_13_method_90_code 91 = .ok (.getfield 36, 3) := by decide +kernel
theorem d_Md_triesIt_94 : decode prog_13_method_90_code 94 = .ok (.iconst 5, 1) := by decide +kernel
theorem d_Md_triesIt_95 : decode prog_13_method_90_code 95 = .ok (.iaload, 1) := by decide +kernel
theorem d_Md_triesIt_96 : decode prog_13_method_90_code 96 = .ok (.iastore, 1) := by decide +kernel
theorem d_Md_triesIt_97 : decode prog_13_method_90_code 97 = .ok (.aload_n 0, 1) := by decide +kernel
theorem d_Md_triesIt_98 : decode prog_13_method_90_code 98 = .ok (.getfield 55, 3) := by decide +kernel
theorem d_Md_triesIt_101 : decode prog_13_method_90_code 101 = .ok (.bipush 6, 2) := by decide +kernel
theorem d_Md_triesIt_103 : decode prog_13_method_90_code 103 = .ok (.aload_n 0, 1) := by decide +kernel
theorem d_Md_triesIt_104 : decode prog_13_method_90_code 104 = .ok (.getfield 36, 3) := by decide +kernel
theorem d_Md_triesIt_107 : decode prog_13_method_90_code 107 = .ok (.bipush 6, 2) := by decide +kernel
theorem d_Md_triesIt_109 : decode prog_13_method_90_code 109 = .ok (.iaload, 1) := by decide +kernel
theorem d_Md_triesIt_110 : decode prog_13_method_90_code 110 = .ok (.iastore, 1) := by decide +kernel
theorem d_Md_triesIt_111 : decode prog_13_method_90_code 111 = .ok (.return_, 1) := by decide +kernel
theorem t_Md_triesIt {G : mG} (h : mH) (v0 v1 : Int) (r : mR) (hr : f_Md_triesIt h v0 v1 = some r) : mJM G M_Md_triesIt [(2, v0), (0, v1)] h r := by
  refine mJM_of (L := [(2, v0), (0, v1), (9, 0)]) rfl rfl rfl (Nat.le_of_ble_eq_true rfl) ?_
  unfold f_Md_triesIt at hr
  refine j_aload_n (pc := 0) d_Md_triesIt_0 rfl ?_
  refine j_aload_n (pc := 1) d_Md_triesIt_1 rfl ?_
  obtain ⟨ha, hr⟩ := chk_some hr
  refine j_callG (pc := 2) (stk := [(2, v0), (2, v0)]) (as := [(2, v0)]) (P := (fun v9 => ((0 : Nat), v9) :: [(2, v0)])) (tg := 0) (My := M_Md_worn) (mRunV (as := []) (st := [(2, v0)]) d_Md_triesIt_2 (mc_Md_worn (by decide)) rfl (mv_Md_worn tb_ml_Md_244) rfl (Nat.le_of_ble_eq_true rfl) ha) (fun v => rfl) rfl hr (fun r1 h1 => t_Md_worn _ _ _ h1) (fun x2 h1 hr => ?_)
  obtain ⟨ha, hr⟩ := chk_some hr
  refine j_callG (pc := 5) (stk := [(0, x2), (2, v0)]) (as := [(2, v0), (0, x2)]) (P := (fun v9 => ((0 : Nat), v9) :: [])) (tg := 0) (My := M_Md_stepsIf) (mRunV (as := [(0, x2)]) (st := []) d_Md_triesIt_5 (mc_Md_stepsIf (by decide)) rfl (mv_Md_stepsIf tb_ml_Md_362) rfl (Nat.le_of_ble_eq_true rfl) ha) (fun v => rfl) rfl hr (fun r1 h1 => t_Md_stepsIf _ _ _ _ h1) (fun x4 h3 hr => ?_)
  refine j_istore_n (pc := 8) (ls' := [(2, v0), (0, v1), (0, x4)]) d_Md_triesIt_8 rfl ?_
  refine j_iload_n (pc := 9) d_Md_triesIt_9 rfl ?_
  refine j_iconst (pc := 10) d_Md_triesIt_10 ?_
  refine j_icmp_eq (pc := 11) (tgt := 29) d_Md_triesIt_11 hr (fun hr => ?_) (fun hr => ?_)
  · exact j_vret (pc := 29) d_Md_triesIt_29 rfl hr
  · refine j_iload_n (pc := 14) d_Md_triesIt_14 rfl ?_
    refine j_iload_n (pc := 15) d_Md_triesIt_15 rfl ?_
    refine j_icmp_gt (pc := 16) (tgt := 29) d_Md_triesIt_16 hr (fun hr => ?_) (fun hr => ?_)
    · exact j_vret (pc := 29) d_Md_triesIt_29 rfl hr
    · refine j_iload_n (pc := 19) d_Md_triesIt_19 rfl ?_
      refine j_aload_n (pc := 20) d_Md_triesIt_20 rfl ?_
      refine j_getf (pc := 21) d_Md_triesIt_21 (fd_Md_55 rfl) hr (fun hr => ?_)
      refine j_iconst (pc := 24) d_Md_triesIt_24 ?_
      refine j_iaload (pc := 25) d_Md_triesIt_25 hr (fun hr => ?_)
      refine j_icmp_gt (pc := 26) (tgt := 30) d_Md_triesIt_26 hr (fun hr => ?_) (fun hr => ?_)
      · refine j_aload_n (pc := 30) d_Md_triesIt_30 rfl ?_
        refine j_getf (pc := 31) d_Md_triesIt_31 (fd_Md_55 rfl) hr (fun hr => ?_)
        refine j_iconst (pc := 34) d_Md_triesIt_34 ?_
        refine j_iload_n (pc := 35) d_Md_triesIt_35 rfl ?_
        refine j_iastore (pc := 36) d_Md_triesIt_36 hr (fun h5 hr => ?_)
        refine j_aload_n (pc := 37) d_Md_triesIt_37 rfl ?_
        refine j_getf (pc := 38) d_Md_triesIt_38 (fd_Md_55 rfl) hr (fun hr => ?_)
        refine j_iconst (pc := 41) d_Md_triesIt_41 ?_
        refine j_aload_n (pc := 42) d_Md_triesIt_42 rfl ?_
        refine j_getf (pc := 43) d_Md_triesIt_43 (fd_Md_36 rfl) hr (fun hr => ?_)
        refine j_iconst (pc := 46) d_Md_triesIt_46 ?_
        refine j_iaload (pc := 47) d_Md_triesIt_47 hr (fun hr => ?_)
        refine j_iastore (pc := 48) d_Md_triesIt_48 hr (fun h6 hr => ?_)
        refine j_aload_n (pc := 49) d_Md_triesIt_49 rfl ?_
        refine j_getf (pc := 50) d_Md_triesIt_50 (fd_Md_55 rfl) hr (fun hr => ?_)
        refine j_iconst (pc := 53) d_Md_triesIt_53 ?_
        refine j_aload_n (pc := 54) d_Md_triesIt_54 rfl ?_
        refine j_getf (pc := 55) d_Md_triesIt_55 (fd_Md_36 rfl) hr (fun hr => ?_)
        refine j_iconst (pc := 58) d_Md_triesIt_58 ?_
        refine j_iaload (pc := 59) d_Md_triesIt_59 hr (fun hr => ?_)
        refine j_iastore (pc := 60) d_Md_triesIt_60 hr (fun h7 hr => ?_)
        refine j_aload_n (pc := 61) d_Md_triesIt_61 rfl ?_
        refine j_getf (pc := 62) d_Md_triesIt_62 (fd_Md_55 rfl) hr (fun hr => ?_)
        refine j_iconst (pc := 65) d_Md_triesIt_65 ?_
        refine j_aload_n (pc := 66) d_Md_triesIt_66 rfl ?_
        refine j_getf (pc := 67) d_Md_triesIt_67 (fd_Md_36 rfl) hr (fun hr => ?_)
        refine j_iconst (pc := 70) d_Md_triesIt_70 ?_
        refine j_iaload (pc := 71) d_Md_triesIt_71 hr (fun hr => ?_)
        refine j_iastore (pc := 72) d_Md_triesIt_72 hr (fun h8 hr => ?_)
        refine j_aload_n (pc := 73) d_Md_triesIt_73 rfl ?_
        refine j_getf (pc := 74) d_Md_triesIt_74 (fd_Md_55 rfl) hr (fun hr => ?_)
        refine j_iconst (pc := 77) d_Md_triesIt_77 ?_
        refine j_aload_n (pc := 78) d_Md_triesIt_78 rfl ?_
        refine j_getf (pc := 79) d_Md_triesIt_79 (fd_Md_36 rfl) hr (fun hr => ?_)
        refine j_iconst (pc := 82) d_Md_triesIt_82 ?_
        refine j_iaload (pc := 83) d_Md_triesIt_83 hr (fun hr => ?_)
        refine j_iastore (pc := 84) d_Md_triesIt_84 hr (fun h9 hr => ?_)
        refine j_aload_n (pc := 85) d_Md_triesIt_85 rfl ?_
        refine j_getf (pc := 86) d_Md_triesIt_86 (fd_Md_55 rfl) hr (fun hr => ?_)
        refine j_iconst (pc := 89) d_Md_triesIt_89 ?_
        refine j_aload_n (pc := 90) d_Md_triesIt_90 rfl ?_
        refine j_getf (pc := 91) d_Md_triesIt_91 (fd_Md_36 rfl) hr (fun hr => ?_)
        refine j_iconst (pc := 94) d_Md_triesIt_94 ?_
        refine j_iaload (pc := 95) d_Md_triesIt_95 hr (fun hr => ?_)
        refine j_iastore (pc := 96) d_Md_triesIt_96 hr (fun h10 hr => ?_)
        refine j_aload_n (pc := 97) d_Md_triesIt_97 rfl ?_
        refine j_getf (pc := 98) d_Md_triesIt_98 (fd_Md_55 rfl) hr (fun hr => ?_)
        refine j_bipush (pc := 101) d_Md_triesIt_101 ?_
        refine j_aload_n (pc := 103) d_Md_triesIt_103 rfl ?_
        refine j_getf (pc := 104) d_Md_triesIt_104 (fd_Md_36 rfl) hr (fun hr => ?_)
        refine j_bipush (pc := 107) d_Md_triesIt_107 ?_
        refine j_iaload (pc := 109) d_Md_triesIt_109 hr (fun hr => ?_)
        refine j_iastore (pc := 110) d_Md_triesIt_110 hr (fun h11 hr => ?_)
        exact j_vret (pc := 111) d_Md_triesIt_111 rfl hr
      · exact j_vret (pc := 29) d_Md_triesIt_29 rfl hr
def M_Md_triesOf : mM := ("NineBarsModel", ⟨"NineBarsModel", "triesOf", "(IIII)V"⟩, prog_13_method_91_code, 8, none, [], 15)
theorem tb_co_Md_triesOf : mTB (Cond.code ⟨"NineBarsModel", "triesOf", "(IIII)V"⟩ prog_13_method_91_code 8 (none)) := tbq8 225 (by decide +kernel) rfl
theorem mc_Md_triesOf {M : mM} (hd : 15 < mDp M) : mCal M M_Md_triesOf 4 := ⟨tb_co_Md_triesOf, tb_in_NineBarsModel, ⟨by decide +kernel, by decide +kernel⟩, by decide +kernel, hd, by decide⟩
theorem d_Md_triesOf_0 : decode prog_13_method_91_code 0 = .ok (.aload_n 0, 1) := by decide +kernel
theorem d_Md_triesOf_1 : decode prog_13_method_91_code 1 = .ok (.getfield 36, 3) := by decide +kernel
theorem d_Md_triesOf_4 : decode prog_13_method_91_code 4 = .ok (.iconst 0, 1) := by decide +kernel
theorem d_Md_triesOf_5 : decode prog_13_method_91_code 5 = .ok (.iload_n 1, 1) := by decide +kernel
theorem d_Md_triesOf_6 : decode prog_13_method_91_code 6 = .ok (.iastore, 1) := by decide +kernel
theorem d_Md_triesOf_7 : decode prog_13_method_91_code 7 = .ok (.aload_n 0, 1) := by decide +kernel
theorem d_Md_triesOf_8 : decode prog_13_method_91_code 8 = .ok (.getfield 36, 3) := by decide +kernel
theorem d_Md_triesOf_11 : decode prog_13_method_91_code 11 = .ok (.iconst 1, 1) := by decide +kernel
theorem d_Md_triesOf_12 : decode prog_13_method_91_code 12 = .ok (.iload_n 2, 1) := by decide +kernel
theorem d_Md_triesOf_13 : decode prog_13_method_91_code 13 = .ok (.iastore, 1) := by decide +kernel
theorem d_Md_triesOf_14 : decode prog_13_method_91_code 14 = .ok (.aload_n 0, 1) := by decide +kernel
theorem d_Md_triesOf_15 : decode prog_13_method_91_code 15 = .ok (.getfield 36, 3) := by decide +kernel
theorem d_Md_triesOf_18 : decode prog_13_method_91_code 18 = .ok (.iconst 2, 1) := by decide +kernel
theorem d_Md_triesOf_19 : decode prog_13_method_91_code 19 = .ok (.iload_n 3, 1) := by decide +kernel
theorem d_Md_triesOf_20 : decode prog_13_method_91_code 20 = .ok (.iastore, 1) := by decide +kernel
theorem d_Md_triesOf_21 : decode prog_13_method_91_code 21 = .ok (.aload_n 0, 1) := by decide +kernel
theorem d_Md_triesOf_22 : decode prog_13_method_91_code 22 = .ok (.getfield 36, 3) := by decide +kernel
theorem d_Md_triesOf_25 : decode prog_13_method_91_code 25 = .ok (.iconst 3, 1) := by decide +kernel
theorem d_Md_triesOf_26 : decode prog_13_method_91_code 26 = .ok (.iconst 1, 1) := by decide +kernel
theorem d_Md_triesOf_27 : decode prog_13_method_91_code 27 = .ok (.iastore, 1) := by decide +kernel
theorem d_Md_triesOf_28 : decode prog_13_method_91_code 28 = .ok (.iconst 0, 1) := by decide +kernel
theorem d_Md_triesOf_29 : decode prog_13_method_91_code 29 = .ok (.istore 5, 2) := by decide +kernel
theorem d_Md_triesOf_31 : decode prog_13_method_91_code 31 = .ok (.iload 5, 2) := by decide +kernel
theorem d_Md_triesOf_33 : decode prog_13_method_91_code 33 = .ok (.aload_n 0, 1) := by decide +kernel
theorem d_Md_triesOf_34 : decode prog_13_method_91_code 34 = .ok (.invokevirtual 210, 3) := by decide +kernel
theorem d_Md_triesOf_37 : decode prog_13_method_91_code 37 = .ok (.if_icmp .ge 82, 3) := by decide +kernel
theorem d_Md_triesOf_119 : decode prog_13_method_91_code 119 = .ok (.return_, 1) := by decide +kernel
theorem d_Md_triesOf_40 : decode prog_13_method_91_code 40 = .ok (.iconst 0, 1) := by decide +kernel
theorem d_Md_triesOf_41 : decode prog_13_method_91_code 41 = .ok (.istore 6, 2) := by decide +kernel
theorem d_Md_triesOf_43 : decode prog_13_method_91_code 43 = .ok (.iload 6, 2) := by decide +kernel
theorem d_Md_triesOf_45 : decode prog_13_method_91_code 45 = .ok (.iconst 2, 1) := by decide +kernel
theorem d_Md_triesOf_46 : decode prog_13_method_91_code 46 = .ok (.if_icmp .ge 67, 3) := by decide +kernel
theorem d_Md_triesOf_49 : decode prog_13_method_91_code 49 = .ok (.iload 5, 2) := by decide +kernel
theorem d_Md_triesOf_51 : decode prog_13_method_91_code 51 = .ok (.iload_n 1, 1) := by decide +kernel
theorem d_Md_triesOf_52 : decode prog_13_method_91_code 52 = .ok (.if_icmp .eq 61, 3) := by decide +kernel
theorem d_Md_triesOf_55 : decode prog_13_method_91_code 55 = .ok (.iconst 0, 1) := by decide +kernel
theorem d_Md_triesOf_56 : decode prog_13_method_91_code 56 = .ok (.istore 7, 2) := by decide +kernel
theorem d_Md_triesOf_58 : decode prog_13_method_91_code 58 = .ok (.iload 7, 2) := by decide +kernel
theorem d_Md_triesOf_60 : decode prog_13_method_91_code 60 = .ok (.aload_n 0, 1) := by decide +kernel
theorem d_Md_triesOf_61 : decode prog_13_method_91_code 61 = .ok (.iload 5, 2) := by decide +kernel
theorem d_Md_triesOf_63 : decode prog_13_method_91_code 63 = .ok (.iconst 0, 1) := by decide +kernel
theorem d_Md_triesOf_64 : decode prog_13_method_91_code 64 = .ok (.invokevirtual 213, 3) := by decide +kernel
theorem d_Md_triesOf_67 : decode prog_13_method_91_code 67 = .ok (.if_icmp .ge 40, 3) := by decide +kernel
theorem d_Md_triesOf_70 : decode prog_13_method_91_code 70 = .ok (.aload_n 0, 1) := by decide +kernel
theorem d_Md_triesOf_71 : decode prog_13_method_91_code 71 = .ok (.getfield 36, 3) := by decide +kernel
theorem d_Md_triesOf_74 : decode prog_13_method_91_code 74 = .ok (.iconst 4, 1) := by decide +kernel
theorem d_Md_triesOf_75 : decode prog_13_method_91_code 75 = .ok (.iload 5, 2) := by decide +kernel
theorem d_Md_triesOf_77 : decode prog_13_method_91_code 77 = .ok (.iastore, 1) := by decide +kernel
theorem d_Md_triesOf_78 : decode prog_13_method_91_code 78 = .ok (.aload_n 0, 1) := by decide +kernel
theorem d_Md_triesOf_79 : decode prog_13_method_91_code 79 = .ok (.getfield 36, 3) := by decide +kernel
theorem d_Md_triesOf_82 : decode prog_13_method_91_code 82 = .ok (.iconst 5, 1) := by decide +kernel
theorem d_Md_triesOf_83 : decode prog_13_method_91_code 83 = .ok (.iload 6, 2) := by decide +kernel
theorem d_Md_triesOf_85 : decode prog_13_method_91_code 85 = .ok (.iastore, 1) := by decide +kernel
theorem d_Md_triesOf_86 : decode prog_13_method_91_code 86 = .ok (.aload_n 0, 1) := by decide +kernel
theorem d_Md_triesOf_87 : decode prog_13_method_91_code 87 = .ok (.getfield 36, 3) := by decide +kernel
theorem d_Md_triesOf_90 : decode prog_13_method_91_code 90 = .ok (.bipush 6, 2) := by decide +kernel
theorem d_Md_triesOf_92 : decode prog_13_method_91_code 92 = .ok (.iload 7, 2) := by decide +kernel
theorem d_Md_triesOf_94 : decode prog_13_method_91_code 94 = .ok (.iastore, 1) := by decide +kernel
theorem d_Md_triesOf_95 : decode prog_13_method_91_code 95 = .ok (.aload_n 0, 1) := by decide +kernel
theorem d_Md_triesOf_96 : decode prog_13_method_91_code 96 = .ok (.iload 4, 2) := by decide +kernel
theorem d_Md_triesOf_98 : decode prog_13_method_91_code 98 = .ok (.invokevirtual 365, 3) := by decide +kernel
theorem tb_ml_Md_365 : mTB (Cond.methodLink "NineBarsModel" 365 ⟨"NineBarsModel", "triesIt", "(I)V"⟩) := tbq8 226 (by decide +kernel) rfl
theorem tb_im_Md_triesIt : mTB (Cond.instanceMethod ⟨"NineBarsModel", "triesIt", "(I)V"⟩) := tbq8 228 (by decide +kernel) rfl
theorem tb_se_Md_triesIt : mTB (Cond.selects "NineBarsModel" ⟨"NineBarsModel", "triesIt", "(I)V"⟩ ⟨"NineBarsModel", "triesIt", "(I)V"⟩) := tbqp 96 (by decide +kernel) rfl
theorem mv_Md_triesIt {M : mM} {idx : Nat} (h : mTB (Cond.methodLink (mO M) idx ⟨"NineBarsModel", "triesIt", "(I)V"⟩)) : mCaV M M_Md_triesIt idx 11 := ⟨h, tb_im_Md_triesIt, tb_se_Md_triesIt, by decide, TX11, 40, rfl⟩
theorem d_Md_triesOf_101 : decode prog_13_method_91_code 101 = .ok (.iinc 7 1, 3) := by decide +kernel
theorem d_Md_triesOf_104 : decode prog_13_method_91_code 104 = .ok (.goto (-46), 3) := by decide +kernel
theorem d_Md_triesOf_107 : decode prog_13_method_91_code 107 = .ok (.iinc 6 1, 3) := by decide +kernel
theorem d_Md_triesOf_110 : decode prog_13_method_91_code 110 = .ok (.goto (-67), 3) := by decide +kernel
theorem d_Md_triesOf_113 : decode prog_13_method_91_code 113 = .ok (.iinc 5 1, 3) := by decide +kernel
theorem d_Md_triesOf_116 : decode prog_13_method_91_code 116 = .ok (.goto (-85), 3) := by decide +kernel
theorem t_Md_triesOf_L58 {G : mG} {r : mR} {v0 v1 v4 v5 v6 : Int} {K107 : mH → Option mR} (hK107 : ∀ (h : mH) , K107 h  = some r → mJ G M_Md_triesOf 107 [(2, v0), (0, v1), (9, 0), (9, 0), (0, v4), (0, v5), (0, v6), (9, 0)] [] h r) : ∀ (n : Nat) (h : mH) (v7 : Int), f_Md_triesOf_L58 K107 v0 v4 v5 v6 n h v7 = some r → mJ G M_Md_triesOf 58 [(2, v0), (0, v1), (9, 0), (9, 0), (0, v4), (0, v5), (0, v6), (0, v7)] [] h r := by
  intro n
  induction n with
  | zero =>
    intro h v7 hr
    rw [f_Md_triesOf_L58] at hr
    cases hr
  | succ n hR58 =>
    intro h v7 hr
    rw [f_Md_triesOf_L58] at hr
    refine j_iload (pc := 58) d_Md_triesOf_58 rfl ?_
    refine j_aload_n (pc := 60) d_Md_triesOf_60 rfl ?_
    refine j_iload (pc := 61) d_Md_triesOf_61 rfl ?_
    refine j_iconst (pc := 63) d_Md_triesOf_63 ?_
    obtain ⟨ha, hr⟩ := chk_some hr
    refine j_callG (pc := 64) (stk := [(0, 0), (0, v5), (2, v0), (0, v7)]) (as := [(2, v0), (0, v5), (0, 0)]) (P := (fun v9 => ((0 : Nat), v9) :: [(0, v7)])) (tg := 0) (My := M_Md_of) (mRunV (as := [(0, v5), (0, 0)]) (st := [(0, v7)]) d_Md_triesOf_64 (mc_Md_of (by decide)) rfl (mv_Md_of tb_ml_Md_213) rfl (Nat.le_of_ble_eq_true rfl) ha) (fun v => rfl) rfl hr (fun r1 h1 => t_Md_of _ _ _ _ _ h1) (fun x2 h1 hr => ?_)
    refine j_icmp_ge (pc := 67) (tgt := 107) d_Md_triesOf_67 hr (fun hr => ?_) (fun hr => ?_)
    · exact mJ_weak (ls' := [(2, v0), (0, v1), (9, 0), (9, 0), (0, v4), (0, v5), (0, v6), (9, 0)]) (mwk_s (mwk_s (mwk_s (mwk_s (mwk_s (mwk_s (mwk_s (mwk_d mwk_n)))))))) (hK107 h1  hr)
    · refine j_aload_n (pc := 70) d_Md_triesOf_70 rfl ?_
      refine j_getf (pc := 71) d_Md_triesOf_71 (fd_Md_36 rfl) hr (fun hr => ?_)
      refine j_iconst (pc := 74) d_Md_triesOf_74 ?_
      refine j_iload (pc := 75) d_Md_triesOf_75 rfl ?_
      refine j_iastore (pc := 77) d_Md_triesOf_77 hr (fun h3 hr => ?_)
      refine j_aload_n (pc := 78) d_Md_triesOf_78 rfl ?_
      refine j_getf (pc := 79) d_Md_triesOf_79 (fd_Md_36 rfl) hr (fun hr => ?_)
      refine j_iconst (pc := 82) d_Md_triesOf_82 ?_
      refine j_iload (pc := 83) d_Md_triesOf_83 rfl ?_
      refine j_iastore (pc := 85) d_Md_triesOf_85 hr (fun h4 hr => ?_)
      refine j_aload_n (pc := 86) d_Md_triesOf_86 rfl ?_
      refine j_getf (pc := 87) d_Md_triesOf_87 (fd_Md_36 rfl) hr (fun hr => ?_)
      refine j_bipush (pc := 90) d_Md_triesOf_90 ?_
      refine j_iload (pc := 92) d_Md_triesOf_92 rfl ?_
      refine j_iastore (pc := 94) d_Md_triesOf_94 hr (fun h5 hr => ?_)
      refine j_aload_n (pc := 95) d_Md_triesOf_95 rfl ?_
      refine j_iload (pc := 96) d_Md_triesOf_96 rfl ?_
      obtain ⟨ha, hr⟩ := chk_some hr
      refine j_callG (pc := 98) (stk := [(0, v4), (2, v0)]) (as := [(2, v0), (0, v4)]) (P := (fun v9 => [])) (tg := 3) (My := M_Md_triesIt) (mRunV (as := [(0, v4)]) (st := []) d_Md_triesOf_98 (mc_Md_triesIt (by decide)) rfl (mv_Md_triesIt tb_ml_Md_365) rfl (Nat.le_of_ble_eq_true rfl) ha) (fun v => rfl) rfl hr (fun r1 h1 => t_Md_triesIt _ _ _ _ h1) (fun x7 h6 hr => ?_)
      refine j_iincW (pc := 101) (L := fun x8 => [(2, v0), (0, v1), (9, 0), (9, 0), (0, v4), (0, v5), (0, v6), (0, x8)]) d_Md_triesOf_101 rfl (fun _ => rfl) hr (fun x8 hr => ?_)
      refine j_goto (pc := 104) (tgt := 58) d_Md_triesOf_104 ?_
      exact mJ_weak (ls' := [(2, v0), (0, v1), (9, 0), (9, 0), (0, v4), (0, v5), (0, v6), (0, x8)]) (mwk_s (mwk_s (mwk_s (mwk_s (mwk_s (mwk_s (mwk_s (mwk_s mwk_n)))))))) (hR58 h6 _ hr)
theorem t_Md_triesOf_L43 {G : mG} {r : mR} {v0 v1 v4 v5 : Int} {K113 : mH → Option mR} (hK113 : ∀ (h : mH) , K113 h  = some r → mJ G M_Md_triesOf 113 [(2, v0), (0, v1), (9, 0), (9, 0), (0, v4), (0, v5), (9, 0), (9, 0)] [] h r) : ∀ (n : Nat) (h : mH) (v6 : Int), f_Md_triesOf_L43 K113 v0 v1 v4 v5 n h v6 = some r → mJ G M_Md_triesOf 43 [(2, v0), (0, v1), (9, 0), (9, 0), (0, v4), (0, v5), (0, v6), (9, 0)] [] h r := by
  intro n
  induction n with
  | zero =>
    intro h v6 hr
    rw [f_Md_triesOf_L43] at hr
    cases hr
  | succ n hR43 =>
    intro h v6 hr
    rw [f_Md_triesOf_L43] at hr
    refine j_iload (pc := 43) d_Md_triesOf_43 rfl ?_
    refine j_iconst (pc := 45) d_Md_triesOf_45 ?_
    refine j_icmp_ge (pc := 46) (tgt := 113) d_Md_triesOf_46 hr (fun hr => ?_) (fun hr => ?_)
    · exact mJ_weak (ls' := [(2, v0), (0, v1), (9, 0), (9, 0), (0, v4), (0, v5), (9, 0), (9, 0)]) (mwk_s (mwk_s (mwk_s (mwk_s (mwk_s (mwk_s (mwk_d (mwk_s mwk_n)))))))) (hK113 h  hr)
    · refine j_iload (pc := 49) d_Md_triesOf_49 rfl ?_
      refine j_iload_n (pc := 51) d_Md_triesOf_51 rfl ?_
      refine j_icmp_eq (pc := 52) (tgt := 113) d_Md_triesOf_52 hr (fun hr => ?_) (fun hr => ?_)
      · exact mJ_weak (ls' := [(2, v0), (0, v1), (9, 0), (9, 0), (0, v4), (0, v5), (9, 0), (9, 0)]) (mwk_s (mwk_s (mwk_s (mwk_s (mwk_s (mwk_s (mwk_d (mwk_s mwk_n)))))))) (hK113 h  hr)
      · refine j_iconst (pc := 55) d_Md_triesOf_55 ?_
        refine j_istore (pc := 56) (ls' := [(2, v0), (0, v1), (9, 0), (9, 0), (0, v4), (0, v5), (0, v6), (0, 0)]) d_Md_triesOf_56 rfl ?_
        refine mJ_weak (ls' := [(2, v0), (0, v1), (9, 0), (9, 0), (0, v4), (0, v5), (0, v6), (0, 0)]) (mwk_s (mwk_s (mwk_s (mwk_s (mwk_s (mwk_s (mwk_s (mwk_s mwk_n)))))))) (t_Md_triesOf_L58 (fun h1  hr => ?_) _ _ _ hr)
        · refine j_iincW (pc := 107) (L := fun x2 => [(2, v0), (0, v1), (9, 0), (9, 0), (0, v4), (0, v5), (0, x2), (9, 0)]) d_Md_triesOf_107 rfl (fun _ => rfl) hr (fun x2 hr => ?_)
          refine j_goto (pc := 110) (tgt := 43) d_Md_triesOf_110 ?_
          exact mJ_weak (ls' := [(2, v0), (0, v1), (9, 0), (9, 0), (0, v4), (0, v5), (0, x2), (9, 0)]) (mwk_s (mwk_s (mwk_s (mwk_s (mwk_s (mwk_s (mwk_s (mwk_s mwk_n)))))))) (hR43 h1 _ hr)
theorem t_Md_triesOf_J113 {G : mG} {r : mR} {v0 v1 v4 v5 : Int} {h : mH} {R31 : mH → Int → Option mR} (hR31 : ∀ (h : mH) (w5 : Int) , R31 h w5 = some r → mJ G M_Md_triesOf 31 [(2, v0), (0, v1), (9, 0), (9, 0), (0, v4), (0, w5), (9, 0), (9, 0)] [] h r) (hr : f_Md_triesOf_J113 R31 v5 h = some r) : mJ G M_Md_triesOf 113 [(2, v0), (0, v1), (9, 0), (9, 0), (0, v4), (0, v5), (9, 0), (9, 0)] [] h r := by
  unfold f_Md_triesOf_J113 at hr
  refine j_iincW (pc := 113) (L := fun x1 => [(2, v0), (0, v1), (9, 0), (9, 0), (0, v4), (0, x1), (9, 0), (9, 0)]) d_Md_triesOf_113 rfl (fun _ => rfl) hr (fun x1 hr => ?_)
  refine j_goto (pc := 116) (tgt := 31) d_Md_triesOf_116 ?_
  exact mJ_weak (ls' := [(2, v0), (0, v1), (9, 0), (9, 0), (0, v4), (0, x1), (9, 0), (9, 0)]) (mwk_s (mwk_s (mwk_s (mwk_s (mwk_s (mwk_s (mwk_s (mwk_s mwk_n)))))))) (hR31 h _ hr)
theorem t_Md_triesOf_L31 {G : mG} {r : mR} {v0 v1 v4 : Int}  : ∀ (n : Nat) (h : mH) (v5 : Int), f_Md_triesOf_L31 v0 v1 v4 n h v5 = some r → mJ G M_Md_triesOf 31 [(2, v0), (0, v1), (9, 0), (9, 0), (0, v4), (0, v5), (9, 0), (9, 0)] [] h r := by
  intro n
  induction n with
  | zero =>
    intro h v5 hr
    rw [f_Md_triesOf_L31] at hr
    cases hr
  | succ n hR31 =>
    intro h v5 hr
    rw [f_Md_triesOf_L31] at hr
    refine j_iload (pc := 31) d_Md_triesOf_31 rfl ?_
    refine j_aload_n (pc := 33) d_Md_triesOf_33 rfl ?_
    obtain ⟨ha, hr⟩ := chk_some hr
    refine j_callG (pc := 34) (stk := [(2, v0), (0, v5)]) (as := [(2, v0)]) (P := (fun v9 => ((0 : Nat), v9) :: [(0, v5)])) (tg := 0) (My := M_Md_bars) (mRunV (as := []) (st := [(0, v5)]) d_Md_triesOf_34 (mc_Md_bars (by decide)) rfl (mv_Md_bars tb_ml_Md_210) rfl (Nat.le_of_ble_eq_true rfl) ha) (fun v => rfl) rfl hr (fun r1 h1 => t_Md_bars _ _ _ h1) (fun x2 h1 hr => ?_)
    refine j_icmp_ge (pc := 37) (tgt := 119) d_Md_triesOf_37 hr (fun hr => ?_) (fun hr => ?_)
    · exact j_vret (pc := 119) d_Md_triesOf_119 rfl hr
    · refine j_iconst (pc := 40) d_Md_triesOf_40 ?_
      refine j_istore (pc := 41) (ls' := [(2, v0), (0, v1), (9, 0), (9, 0), (0, v4), (0, v5), (0, 0), (9, 0)]) d_Md_triesOf_41 rfl ?_
      refine mJ_weak (ls' := [(2, v0), (0, v1), (9, 0), (9, 0), (0, v4), (0, v5), (0, 0), (9, 0)]) (mwk_s (mwk_s (mwk_s (mwk_s (mwk_s (mwk_s (mwk_s (mwk_s mwk_n)))))))) (t_Md_triesOf_L43 (fun h3  hr => ?_) _ _ _ hr)
      · exact mJ_weak (ls' := [(2, v0), (0, v1), (9, 0), (9, 0), (0, v4), (0, v5), (9, 0), (9, 0)]) (mwk_s (mwk_s (mwk_s (mwk_s (mwk_s (mwk_s (mwk_s (mwk_s mwk_n)))))))) (t_Md_triesOf_J113 hR31 hr)
theorem t_Md_triesOf {G : mG} (h : mH) (v0 v1 v2 v3 v4 : Int) (r : mR) (hr : f_Md_triesOf h v0 v1 v2 v3 v4 = some r) : mJM G M_Md_triesOf [(2, v0), (0, v1), (0, v2), (0, v3), (0, v4)] h r := by
  refine mJM_of (L := [(2, v0), (0, v1), (0, v2), (0, v3), (0, v4), (9, 0), (9, 0), (9, 0)]) rfl rfl rfl (Nat.le_of_ble_eq_true rfl) ?_
  unfold f_Md_triesOf at hr
  refine j_aload_n (pc := 0) d_Md_triesOf_0 rfl ?_
  refine j_getf (pc := 1) d_Md_triesOf_1 (fd_Md_36 rfl) hr (fun hr => ?_)
  refine j_iconst (pc := 4) d_Md_triesOf_4 ?_
  refine j_iload_n (pc := 5) d_Md_triesOf_5 rfl ?_
  refine j_iastore (pc := 6) d_Md_triesOf_6 hr (fun h1 hr => ?_)
  refine j_aload_n (pc := 7) d_Md_triesOf_7 rfl ?_
  refine j_getf (pc := 8) d_Md_triesOf_8 (fd_Md_36 rfl) hr (fun hr => ?_)
  refine j_iconst (pc := 11) d_Md_triesOf_11 ?_
  refine j_iload_n (pc := 12) d_Md_triesOf_12 rfl ?_
  refine j_iastore (pc := 13) d_Md_triesOf_13 hr (fun h2 hr => ?_)
  refine j_aload_n (pc := 14) d_Md_triesOf_14 rfl ?_
  refine j_getf (pc := 15) d_Md_triesOf_15 (fd_Md_36 rfl) hr (fun hr => ?_)
  refine j_iconst (pc := 18) d_Md_triesOf_18 ?_
  refine j_iload_n (pc := 19) d_Md_triesOf_19 rfl ?_
  refine j_iastore (pc := 20) d_Md_triesOf_20 hr (fun h3 hr => ?_)
  refine j_aload_n (pc := 21) d_Md_triesOf_21 rfl ?_
  refine j_getf (pc := 22) d_Md_triesOf_22 (fd_Md_36 rfl) hr (fun hr => ?_)
  refine j_iconst (pc := 25) d_Md_triesOf_25 ?_
  refine j_iconst (pc := 26) d_Md_triesOf_26 ?_
  refine j_iastore (pc := 27) d_Md_triesOf_27 hr (fun h4 hr => ?_)
  refine j_iconst (pc := 28) d_Md_triesOf_28 ?_
  refine j_istore (pc := 29) (ls' := [(2, v0), (0, v1), (0, v2), (0, v3), (0, v4), (0, 0), (9, 0), (9, 0)]) d_Md_triesOf_29 rfl ?_
  refine mJ_weak (ls' := [(2, v0), (0, v1), (9, 0), (9, 0), (0, v4), (0, 0), (9, 0), (9, 0)]) (mwk_s (mwk_s (mwk_d (mwk_d (mwk_s (mwk_s (mwk_s (mwk_s mwk_n)))))))) (t_Md_triesOf_L31  _ _ _ hr)
def M_Md_hardest : mM := ("NineBarsModel", ⟨"NineBarsModel", "hardest", "(II)I"⟩, prog_13_method_92_code, 5, some .int, [], 17)
theorem tb_co_Md_hardest : mTB (Cond.code ⟨"NineBarsModel", "hardest", "(II)I"⟩ prog_13_method_92_code 5 (some .int)) := tbq8 220 (by decide +kernel) rfl
theorem mc_Md_hardest {M : mM} (hd : 17 < mDp M) : mCal M M_Md_hardest 2 := ⟨tb_co_Md_hardest, tb_in_NineBarsModel, ⟨by decide +kernel, by decide +kernel⟩, by decide +kernel, hd, by decide⟩
theorem d_Md_hardest_0 : decode prog_13_method_92_code 0 = .ok (.aload_n 0, 1) := by decide +kernel
theorem d_Md_hardest_1 : decode prog_13_method_92_code 1 = .ok (.iload_n 1, 1) := by decide +kernel
theorem d_Md_hardest_2 : decode prog_13_method_92_code 2 = .ok (.i2l, 1) := by decide +kernel
theorem d_Md_hardest_3 : decode prog_13_method_92_code 3 = .ok (.lconst 1, 1) := by decide +kernel
theorem d_Md_hardest_4 : decode prog_13_method_92_code 4 = .ok (.ldc2_w 344, 3) := by decide +kernel
theorem d_Md_hardest_7 : decode prog_13_method_92_code 7 = .ok (.invokestatic 147, 3) := by decide +kernel
theorem d_Md_hardest_10 : decode prog_13_method_92_code 10 = .ok (.ifCond .eq 15, 3) := by decide +kernel
theorem d_Md_hardest_25 : decode prog_13_method_92_code 25 = .ok (.iconst 1, 1) := by decide +kernel
theorem d_Md_hardest_26 : decode prog_13_method_92_code 26 = .ok (.goto 18, 3) := by decide +kernel
theorem d_Md_hardest_44 : decode prog_13_method_92_code 44 = .ok (.putfield 86, 3) := by decide +kernel
theorem d_Md_hardest_47 : decode prog_13_method_92_code 47 = .ok (.aload_n 0, 1) := by decide +kernel
theorem d_Md_hardest_48 : decode prog_13_method_92_code 48 = .ok (.getfield 86, 3) := by decide +kernel
theorem d_Md_hardest_51 : decode prog_13_method_92_code 51 = .ok (.ifCond .le 5, 3) := by decide +kernel
theorem d_Md_hardest_56 : decode prog_13_method_92_code 56 = .ok (.aload_n 0, 1) := by decide +kernel
theorem d_Md_hardest_57 : decode prog_13_method_92_code 57 = .ok (.getfield 55, 3) := by decide +kernel
theorem d_Md_hardest_60 : decode prog_13_method_92_code 60 = .ok (.iconst 0, 1) := by decide +kernel
theorem d_Md_hardest_61 : decode prog_13_method_92_code 61 = .ok (.iconst (-1), 1) := by decide +kernel
theorem d_Md_hardest_62 : decode prog_13_method_92_code 62 = .ok (.iastore, 1) := by decide +kernel
theorem d_Md_hardest_63 : decode prog_13_method_92_code 63 = .ok (.aload_n 0, 1) := by decide +kernel
theorem d_Md_hardest_64 : decode prog_13_method_92_code 64 = .ok (.iconst 1, 1) := by decide +kernel
theorem d_Md_hardest_65 : decode prog_13_method_92_code 65 = .ok (.putfield 237, 3) := by decide +kernel
theorem d_Md_hardest_68 : decode prog_13_method_92_code 68 = .ok (.iconst 0, 1) := by decide +kernel
theorem d_Md_hardest_69 : decode prog_13_method_92_code 69 = .ok (.istore_n 3, 1) := by decide +kernel
theorem d_Md_hardest_70 : decode prog_13_method_92_code 70 = .ok (.iload_n 3, 1) := by decide +kernel
theorem d_Md_hardest_71 : decode prog_13_method_92_code 71 = .ok (.aload_n 0, 1) := by decide +kernel
theorem d_Md_hardest_72 : decode prog_13_method_92_code 72 = .ok (.invokevirtual 210, 3) := by decide +kernel
theorem d_Md_hardest_75 : decode prog_13_method_92_code 75 = .ok (.if_icmp .ge 71, 3) := by decide +kernel
theorem d_Md_hardest_78 : decode prog_13_method_92_code 78 = .ok (.iconst 0, 1) := by decide +kernel
theorem d_Md_hardest_79 : decode prog_13_method_92_code 79 = .ok (.istore 4, 2) := by decide +kernel
theorem d_Md_hardest_81 : decode prog_13_method_92_code 81 = .ok (.iload 4, 2) := by decide +kernel
theorem d_Md_hardest_83 : decode prog_13_method_92_code 83 = .ok (.aload_n 0, 1) := by decide +kernel
theorem d_Md_hardest_84 : decode prog_13_method_92_code 84 = .ok (.iload_n 3, 1) := by decide +kernel
theorem d_Md_hardest_85 : decode prog_13_method_92_code 85 = .ok (.iconst 0, 1) := by decide +kernel
theorem d_Md_hardest_86 : decode prog_13_method_92_code 86 = .ok (.invokevirtual 213, 3) := by decide +kernel
theorem d_Md_hardest_89 : decode prog_13_method_92_code 89 = .ok (.if_icmp .ge 51, 3) := by decide +kernel
theorem d_Md_hardest_92 : decode prog_13_method_92_code 92 = .ok (.iload 4, 2) := by decide +kernel
theorem d_Md_hardest_94 : decode prog_13_method_92_code 94 = .ok (.ifCond .le 15, 3) := by decide +kernel
theorem d_Md_hardest_109 : decode prog_13_method_92_code 109 = .ok (.iload 4, 2) := by decide +kernel
theorem d_Md_hardest_111 : decode prog_13_method_92_code 111 = .ok (.aload_n 0, 1) := by decide +kernel
theorem d_Md_hardest_112 : decode prog_13_method_92_code 112 = .ok (.iload_n 3, 1) := by decide +kernel
theorem d_Md_hardest_113 : decode prog_13_method_92_code 113 = .ok (.iconst 0, 1) := by decide +kernel
theorem d_Md_hardest_114 : decode prog_13_method_92_code 114 = .ok (.invokevirtual 213, 3) := by decide +kernel
theorem d_Md_hardest_117 : decode prog_13_method_92_code 117 = .ok (.iconst 1, 1) := by decide +kernel
theorem d_Md_hardest_118 : decode prog_13_method_92_code 118 = .ok (.isub, 1) := by decide +kernel
theorem d_Md_hardest_119 : decode prog_13_method_92_code 119 = .ok (.if_icmp .ge 15, 3) := by decide +kernel
theorem d_Md_hardest_134 : decode prog_13_method_92_code 134 = .ok (.iinc 4 1, 3) := by decide +kernel
theorem d_Md_hardest_137 : decode prog_13_method_92_code 137 = .ok (.goto (-56), 3) := by decide +kernel
theorem d_Md_hardest_122 : decode prog_13_method_92_code 122 = .ok (.aload_n 0, 1) := by decide +kernel
theorem d_Md_hardest_123 : decode prog_13_method_92_code 123 = .ok (.iload_n 3, 1) := by decide +kernel
theorem d_Md_hardest_124 : decode prog_13_method_92_code 124 = .ok (.iload 4, 2) := by decide +kernel
theorem d_Md_hardest_126 : decode prog_13_method_92_code 126 = .ok (.iload 4, 2) := by decide +kernel
theorem d_Md_hardest_128 : decode prog_13_method_92_code 128 = .ok (.iconst 1, 1) := by decide +kernel
theorem d_Md_hardest_129 : decode prog_13_method_92_code 129 = .ok (.iadd, 1) := by decide +kernel
theorem d_Md_hardest_130 : decode prog_13_method_92_code 130 = .ok (.iload_n 1, 1) := by decide +kernel
theorem d_Md_hardest_131 : decode prog_13_method_92_code 131 = .ok (.invokevirtual 370, 3) := by decide +kernel
theorem tb_ml_Md_370 : mTB (Cond.methodLink "NineBarsModel" 370 ⟨"NineBarsModel", "triesOf", "(IIII)V"⟩) := tbq8 222 (by decide +kernel) rfl
theorem tb_im_Md_triesOf : mTB (Cond.instanceMethod ⟨"NineBarsModel", "triesOf", "(IIII)V"⟩) := tbq8 224 (by decide +kernel) rfl
theorem tb_se_Md_triesOf : mTB (Cond.selects "NineBarsModel" ⟨"NineBarsModel", "triesOf", "(IIII)V"⟩ ⟨"NineBarsModel", "triesOf", "(IIII)V"⟩) := tbqp 95 (by decide +kernel) rfl
theorem mv_Md_triesOf {M : mM} {idx : Nat} (h : mTB (Cond.methodLink (mO M) idx ⟨"NineBarsModel", "triesOf", "(IIII)V"⟩)) : mCaV M M_Md_triesOf idx 11 := ⟨h, tb_im_Md_triesOf, tb_se_Md_triesOf, by decide, TX11, 40, rfl⟩
theorem d_Md_hardest_97 : decode prog_13_method_92_code 97 = .ok (.aload_n 0, 1) := by decide +kernel
theorem d_Md_hardest_98 : decode prog_13_method_92_code 98 = .ok (.iload_n 3, 1) := by decide +kernel
theorem d_Md_hardest_99 : decode prog_13_method_92_code 99 = .ok (.iload 4, 2) := by decide +kernel
theorem d_Md_hardest_101 : decode prog_13_method_92_code 101 = .ok (.iload 4, 2) := by decide +kernel
theorem d_Md_hardest_103 : decode prog_13_method_92_code 103 = .ok (.iconst 1, 1) := by decide +kernel
theorem d_Md_hardest_104 : decode prog_13_method_92_code 104 = .ok (.isub, 1) := by decide +kernel
theorem d_Md_hardest_105 : decode prog_13_method_92_code 105 = .ok (.iload_n 1, 1) := by decide +kernel
theorem d_Md_hardest_106 : decode prog_13_method_92_code 106 = .ok (.invokevirtual 370, 3) := by decide +kernel
theorem d_Md_hardest_140 : decode prog_13_method_92_code 140 = .ok (.iinc 3 1, 3) := by decide +kernel
theorem d_Md_hardest_143 : decode prog_13_method_92_code 143 = .ok (.goto (-73), 3) := by decide +kernel
theorem d_Md_hardest_146 : decode prog_13_method_92_code 146 = .ok (.aload_n 0, 1) := by decide +kernel
theorem d_Md_hardest_147 : decode prog_13_method_92_code 147 = .ok (.iconst 0, 1) := by decide +kernel
theorem d_Md_hardest_148 : decode prog_13_method_92_code 148 = .ok (.putfield 237, 3) := by decide +kernel
theorem d_Md_hardest_151 : decode prog_13_method_92_code 151 = .ok (.aload_n 0, 1) := by decide +kernel
theorem d_Md_hardest_152 : decode prog_13_method_92_code 152 = .ok (.getfield 55, 3) := by decide +kernel
theorem d_Md_hardest_155 : decode prog_13_method_92_code 155 = .ok (.iconst 0, 1) := by decide +kernel
theorem d_Md_hardest_156 : decode prog_13_method_92_code 156 = .ok (.iaload, 1) := by decide +kernel
theorem d_Md_hardest_157 : decode prog_13_method_92_code 157 = .ok (.iconst (-1), 1) := by decide +kernel
theorem d_Md_hardest_158 : decode prog_13_method_92_code 158 = .ok (.if_icmp .ne 7, 3) := by decide +kernel
theorem d_Md_hardest_165 : decode prog_13_method_92_code 165 = .ok (.aload_n 0, 1) := by decide +kernel
theorem d_Md_hardest_166 : decode prog_13_method_92_code 166 = .ok (.getfield 55, 3) := by decide +kernel
theorem d_Md_hardest_169 : decode prog_13_method_92_code 169 = .ok (.iload_n 2, 1) := by decide +kernel
theorem d_Md_hardest_170 : decode prog_13_method_92_code 170 = .ok (.iaload, 1) := by decide +kernel
theorem d_Md_hardest_171 : decode prog_13_method_92_code 171 = .ok (.ireturn, 1) := by decide +kernel
theorem d_Md_hardest_161 : decode prog_13_method_92_code 161 = .ok (.iconst (-1), 1) := by decide +kernel
theorem d_Md_hardest_162 : decode prog_13_method_92_code 162 = .ok (.goto 9, 3) := by decide +kernel
theorem d_Md_hardest_54 : decode prog_13_method_92_code 54 = .ok (.iconst 0, 1) := by decide +kernel
theorem d_Md_hardest_55 : decode prog_13_method_92_code 55 = .ok (.ireturn, 1) := by decide +kernel
theorem d_Md_hardest_13 : decode prog_13_method_92_code 13 = .ok (.iload_n 2, 1) := by decide +kernel
theorem d_Md_hardest_14 : decode prog_13_method_92_code 14 = .ok (.i2l, 1) := by decide +kernel
theorem d_Md_hardest_15 : decode prog_13_method_92_code 15 = .ok (.lconst 0, 1) := by decide +kernel
theorem tb_cj_Md_368 : mTB (Cond.constantLong "NineBarsModel" 368 6) := tbq8 221 (by decide +kernel) rfl
theorem d_Md_hardest_16 : decode prog_13_method_92_code 16 = .ok (.ldc2_w 368, 3) := by decide +kernel
theorem d_Md_hardest_19 : decode prog_13_method_92_code 19 = .ok (.invokestatic 147, 3) := by decide +kernel
theorem d_Md_hardest_22 : decode prog_13_method_92_code 22 = .ok (.ifCond .ne 7, 3) := by decide +kernel
theorem d_Md_hardest_29 : decode prog_13_method_92_code 29 = .ok (.aload_n 0, 1) := by decide +kernel
theorem d_Md_hardest_30 : decode prog_13_method_92_code 30 = .ok (.invokevirtual 219, 3) := by decide +kernel
theorem d_Md_hardest_33 : decode prog_13_method_92_code 33 = .ok (.sipush 600, 3) := by decide +kernel
theorem d_Md_hardest_36 : decode prog_13_method_92_code 36 = .ok (.if_icmp .le 7, 3) := by decide +kernel
theorem d_Md_hardest_43 : decode prog_13_method_92_code 43 = .ok (.iconst 0, 1) := by decide +kernel
theorem d_Md_hardest_39 : decode prog_13_method_92_code 39 = .ok (.iconst 2, 1) := by decide +kernel
theorem d_Md_hardest_40 : decode prog_13_method_92_code 40 = .ok (.goto 4, 3) := by decide +kernel
theorem t_Md_hardest_J134 {G : mG} {r : mR} {v0 v1 v2 v3 v4 : Int} {h : mH} {R81 : mH → Int → Option mR} (hR81 : ∀ (h : mH) (w4 : Int) , R81 h w4 = some r → mJ G M_Md_hardest 81 [(2, v0), (0, v1), (0, v2), (0, v3), (0, w4)] [] h r) (hr : f_Md_hardest_J134 R81 v4 h = some r) : mJ G M_Md_hardest 134 [(2, v0), (0, v1), (0, v2), (0, v3), (0, v4)] [] h r := by
  unfold f_Md_hardest_J134 at hr
  refine j_iincW (pc := 134) (L := fun x1 => [(2, v0), (0, v1), (0, v2), (0, v3), (0, x1)]) d_Md_hardest_134 rfl (fun _ => rfl) hr (fun x1 hr => ?_)
  refine j_goto (pc := 137) (tgt := 81) d_Md_hardest_137 ?_
  exact mJ_weak (ls' := [(2, v0), (0, v1), (0, v2), (0, v3), (0, x1)]) (mwk_s (mwk_s (mwk_s (mwk_s (mwk_s mwk_n))))) (hR81 h _ hr)
theorem t_Md_hardest_J109 {G : mG} {r : mR} {v0 v1 v2 v3 v4 : Int} {h : mH} {R81 : mH → Int → Option mR} (hR81 : ∀ (h : mH) (w4 : Int) , R81 h w4 = some r → mJ G M_Md_hardest 81 [(2, v0), (0, v1), (0, v2), (0, v3), (0, w4)] [] h r) (hr : f_Md_hardest_J109 R81 v0 v1 v3 v4 h = some r) : mJ G M_Md_hardest 109 [(2, v0), (0, v1), (0, v2), (0, v3), (0, v4)] [] h r := by
  unfold f_Md_hardest_J109 at hr
  refine j_iload (pc := 109) d_Md_hardest_109 rfl ?_
  refine j_aload_n (pc := 111) d_Md_hardest_111 rfl ?_
  refine j_iload_n (pc := 112) d_Md_hardest_112 rfl ?_
  refine j_iconst (pc := 113) d_Md_hardest_113 ?_
  obtain ⟨ha, hr⟩ := chk_some hr
  refine j_callG (pc := 114) (stk := [(0, 0), (0, v3), (2, v0), (0, v4)]) (as := [(2, v0), (0, v3), (0, 0)]) (P := (fun v9 => ((0 : Nat), v9) :: [(0, v4)])) (tg := 0) (My := M_Md_of) (mRunV (as := [(0, v3), (0, 0)]) (st := [(0, v4)]) d_Md_hardest_114 (mc_Md_of (by decide)) rfl (mv_Md_of tb_ml_Md_213) rfl (Nat.le_of_ble_eq_true rfl) ha) (fun v => rfl) rfl hr (fun r1 h1 => t_Md_of _ _ _ _ _ h1) (fun x2 h1 hr => ?_)
  refine j_iconst (pc := 117) d_Md_hardest_117 ?_
  refine j_isub (pc := 118) d_Md_hardest_118 ?_
  refine j_icmp_ge (pc := 119) (tgt := 134) d_Md_hardest_119 hr (fun hr => ?_) (fun hr => ?_)
  · exact mJ_weak (ls' := [(2, v0), (0, v1), (0, v2), (0, v3), (0, v4)]) (mwk_s (mwk_s (mwk_s (mwk_s (mwk_s mwk_n))))) (t_Md_hardest_J134 hR81 hr)
  · refine j_aload_n (pc := 122) d_Md_hardest_122 rfl ?_
    refine j_iload_n (pc := 123) d_Md_hardest_123 rfl ?_
    refine j_iload (pc := 124) d_Md_hardest_124 rfl ?_
    refine j_iload (pc := 126) d_Md_hardest_126 rfl ?_
    refine j_iconst (pc := 128) d_Md_hardest_128 ?_
    refine j_iadd (pc := 129) d_Md_hardest_129 ?_
    refine j_iload_n (pc := 130) d_Md_hardest_130 rfl ?_
    obtain ⟨ha, hr⟩ := chk_some hr
    refine j_callG (pc := 131) (stk := [(0, v1), (0, w32 (v4 + 1)), (0, v4), (0, v3), (2, v0)]) (as := [(2, v0), (0, v3), (0, v4), (0, w32 (v4 + 1)), (0, v1)]) (P := (fun v9 => [])) (tg := 3) (My := M_Md_triesOf) (mRunV (as := [(0, v3), (0, v4), (0, w32 (v4 + 1)), (0, v1)]) (st := []) d_Md_hardest_131 (mc_Md_triesOf (by decide)) rfl (mv_Md_triesOf tb_ml_Md_370) rfl (Nat.le_of_ble_eq_true rfl) ha) (fun v => rfl) rfl hr (fun r1 h1 => t_Md_triesOf _ _ _ _ _ _ _ h1) (fun x4 h3 hr => ?_)
    exact mJ_weak (ls' := [(2, v0), (0, v1), (0, v2), (0, v3), (0, v4)]) (mwk_s (mwk_s (mwk_s (mwk_s (mwk_s mwk_n))))) (t_Md_hardest_J134 hR81 hr)
theorem t_Md_hardest_L81 {G : mG} {r : mR} {v0 v1 v2 v3 : Int} {K140 : mH → Option mR} (hK140 : ∀ (h : mH) , K140 h  = some r → mJ G M_Md_hardest 140 [(2, v0), (0, v1), (0, v2), (0, v3), (9, 0)] [] h r) : ∀ (n : Nat) (h : mH) (v4 : Int), f_Md_hardest_L81 K140 v0 v1 v3 n h v4 = some r → mJ G M_Md_hardest 81 [(2, v0), (0, v1), (0, v2), (0, v3), (0, v4)] [] h r := by
  intro n
  induction n with
  | zero =>
    intro h v4 hr
    rw [f_Md_hardest_L81] at hr
    cases hr
  | succ n hR81 =>
    intro h v4 hr
    rw [f_Md_hardest_L81] at hr
    refine j_iload (pc := 81) d_Md_hardest_81 rfl ?_
    refine j_aload_n (pc := 83) d_Md_hardest_83 rfl ?_
    refine j_iload_n (pc := 84) d_Md_hardest_84 rfl ?_
    refine j_iconst (pc := 85) d_Md_hardest_85 ?_
    obtain ⟨ha, hr⟩ := chk_some hr
    refine j_callG (pc := 86) (stk := [(0, 0), (0, v3), (2, v0), (0, v4)]) (as := [(2, v0), (0, v3), (0, 0)]) (P := (fun v9 => ((0 : Nat), v9) :: [(0, v4)])) (tg := 0) (My := M_Md_of) (mRunV (as := [(0, v3), (0, 0)]) (st := [(0, v4)]) d_Md_hardest_86 (mc_Md_of (by decide)) rfl (mv_Md_of tb_ml_Md_213) rfl (Nat.le_of_ble_eq_true rfl) ha) (fun v => rfl) rfl hr (fun r1 h1 => t_Md_of _ _ _ _ _ h1) (fun x2 h1 hr => ?_)
    refine j_icmp_ge (pc := 89) (tgt := 140) d_Md_hardest_89 hr (fun hr => ?_) (fun hr => ?_)
    · exact mJ_weak (ls' := [(2, v0), (0, v1), (0, v2), (0, v3), (9, 0)]) (mwk_s (mwk_s (mwk_s (mwk_s (mwk_d mwk_n))))) (hK140 h1  hr)
    · refine j_iload (pc := 92) d_Md_hardest_92 rfl ?_
      refine j_if_le (pc := 94) (tgt := 109) d_Md_hardest_94 hr (fun hr => ?_) (fun hr => ?_)
      · exact mJ_weak (ls' := [(2, v0), (0, v1), (0, v2), (0, v3), (0, v4)]) (mwk_s (mwk_s (mwk_s (mwk_s (mwk_s mwk_n))))) (t_Md_hardest_J109 hR81 hr)
      · refine j_aload_n (pc := 97) d_Md_hardest_97 rfl ?_
        refine j_iload_n (pc := 98) d_Md_hardest_98 rfl ?_
        refine j_iload (pc := 99) d_Md_hardest_99 rfl ?_
        refine j_iload (pc := 101) d_Md_hardest_101 rfl ?_
        refine j_iconst (pc := 103) d_Md_hardest_103 ?_
        refine j_isub (pc := 104) d_Md_hardest_104 ?_
        refine j_iload_n (pc := 105) d_Md_hardest_105 rfl ?_
        obtain ⟨ha, hr⟩ := chk_some hr
        refine j_callG (pc := 106) (stk := [(0, v1), (0, w32 (v4 - 1)), (0, v4), (0, v3), (2, v0)]) (as := [(2, v0), (0, v3), (0, v4), (0, w32 (v4 - 1)), (0, v1)]) (P := (fun v9 => [])) (tg := 3) (My := M_Md_triesOf) (mRunV (as := [(0, v3), (0, v4), (0, w32 (v4 - 1)), (0, v1)]) (st := []) d_Md_hardest_106 (mc_Md_triesOf (by decide)) rfl (mv_Md_triesOf tb_ml_Md_370) rfl (Nat.le_of_ble_eq_true rfl) ha) (fun v => rfl) rfl hr (fun r1 h1 => t_Md_triesOf _ _ _ _ _ _ _ h1) (fun x4 h3 hr => ?_)
        exact mJ_weak (ls' := [(2, v0), (0, v1), (0, v2), (0, v3), (0, v4)]) (mwk_s (mwk_s (mwk_s (mwk_s (mwk_s mwk_n))))) (t_Md_hardest_J109 hR81 hr)
theorem t_Md_hardest_L70 {G : mG} {r : mR} {v0 v1 v2 : Int} {K146 : mH → Option mR} (hK146 : ∀ (h : mH) , K146 h  = some r → mJ G M_Md_hardest 146 [(2, v0), (9, 0), (0, v2), (9, 0), (9, 0)] [] h r) : ∀ (n : Nat) (h : mH) (v3 : Int), f_Md_hardest_L70 K146 v0 v1 n h v3 = some r → mJ G M_Md_hardest 70 [(2, v0), (0, v1), (0, v2), (0, v3), (9, 0)] [] h r := by
  intro n
  induction n with
  | zero =>
    intro h v3 hr
    rw [f_Md_hardest_L70] at hr
    cases hr
  | succ n hR70 =>
    intro h v3 hr
    rw [f_Md_hardest_L70] at hr
    refine j_iload_n (pc := 70) d_Md_hardest_70 rfl ?_
    refine j_aload_n (pc := 71) d_Md_hardest_71 rfl ?_
    obtain ⟨ha, hr⟩ := chk_some hr
    refine j_callG (pc := 72) (stk := [(2, v0), (0, v3)]) (as := [(2, v0)]) (P := (fun v9 => ((0 : Nat), v9) :: [(0, v3)])) (tg := 0) (My := M_Md_bars) (mRunV (as := []) (st := [(0, v3)]) d_Md_hardest_72 (mc_Md_bars (by decide)) rfl (mv_Md_bars tb_ml_Md_210) rfl (Nat.le_of_ble_eq_true rfl) ha) (fun v => rfl) rfl hr (fun r1 h1 => t_Md_bars _ _ _ h1) (fun x2 h1 hr => ?_)
    refine j_icmp_ge (pc := 75) (tgt := 146) d_Md_hardest_75 hr (fun hr => ?_) (fun hr => ?_)
    · exact mJ_weak (ls' := [(2, v0), (9, 0), (0, v2), (9, 0), (9, 0)]) (mwk_s (mwk_d (mwk_s (mwk_d (mwk_s mwk_n))))) (hK146 h1  hr)
    · refine j_iconst (pc := 78) d_Md_hardest_78 ?_
      refine j_istore (pc := 79) (ls' := [(2, v0), (0, v1), (0, v2), (0, v3), (0, 0)]) d_Md_hardest_79 rfl ?_
      refine mJ_weak (ls' := [(2, v0), (0, v1), (0, v2), (0, v3), (0, 0)]) (mwk_s (mwk_s (mwk_s (mwk_s (mwk_s mwk_n))))) (t_Md_hardest_L81 (fun h3  hr => ?_) _ _ _ hr)
      · refine j_iincW (pc := 140) (L := fun x4 => [(2, v0), (0, v1), (0, v2), (0, x4), (9, 0)]) d_Md_hardest_140 rfl (fun _ => rfl) hr (fun x4 hr => ?_)
        refine j_goto (pc := 143) (tgt := 70) d_Md_hardest_143 ?_
        exact mJ_weak (ls' := [(2, v0), (0, v1), (0, v2), (0, x4), (9, 0)]) (mwk_s (mwk_s (mwk_s (mwk_s (mwk_s mwk_n))))) (hR70 h3 _ hr)
theorem t_Md_hardest_J44 {G : mG} {r : mR} {v0 v1 v2 s0 s1 : Int} {h : mH}  (hr : f_Md_hardest_J44 v0 v1 v2 s0 s1 h = some r) : mJ G M_Md_hardest 44 [(2, v0), (0, v1), (0, v2), (9, 0), (9, 0)] [(0, s1), (2, s0)] h r := by
  unfold f_Md_hardest_J44 at hr
  refine j_puti (pc := 44) d_Md_hardest_44 (fd_Md_86 rfl) (⟨_, _, _, rfl, Or.inl rfl, rfl⟩ : mFldW M_Md_hardest 86 11 5 .int) hr (fun h1 hr => ?_)
  refine j_aload_n (pc := 47) d_Md_hardest_47 rfl ?_
  refine j_getf (pc := 48) d_Md_hardest_48 (fd_Md_86 rfl) hr (fun hr => ?_)
  refine j_if_le (pc := 51) (tgt := 56) d_Md_hardest_51 hr (fun hr => ?_) (fun hr => ?_)
  · refine j_aload_n (pc := 56) d_Md_hardest_56 rfl ?_
    refine j_getf (pc := 57) d_Md_hardest_57 (fd_Md_55 rfl) hr (fun hr => ?_)
    refine j_iconst (pc := 60) d_Md_hardest_60 ?_
    refine j_iconst (pc := 61) d_Md_hardest_61 ?_
    refine j_iastore (pc := 62) d_Md_hardest_62 hr (fun h2 hr => ?_)
    refine j_aload_n (pc := 63) d_Md_hardest_63 rfl ?_
    refine j_iconst (pc := 64) d_Md_hardest_64 ?_
    refine j_putz (pc := 65) d_Md_hardest_65 (fd_Md_237 rfl) (⟨_, _, _, rfl, Or.inl rfl, rfl⟩ : mFldW M_Md_hardest 237 11 19 .boolean) hr (fun h3 hr => ?_)
    refine j_iconst (pc := 68) d_Md_hardest_68 ?_
    refine j_istore_n (pc := 69) (ls' := [(2, v0), (0, v1), (0, v2), (0, 0), (9, 0)]) d_Md_hardest_69 rfl ?_
    refine mJ_weak (ls' := [(2, v0), (0, v1), (0, v2), (0, 0), (9, 0)]) (mwk_s (mwk_s (mwk_s (mwk_s (mwk_s mwk_n))))) (t_Md_hardest_L70 (fun h4  hr => ?_) _ _ _ hr)
    · refine j_aload_n (pc := 146) d_Md_hardest_146 rfl ?_
      refine j_iconst (pc := 147) d_Md_hardest_147 ?_
      refine j_putz (pc := 148) d_Md_hardest_148 (fd_Md_237 rfl) (⟨_, _, _, rfl, Or.inl rfl, rfl⟩ : mFldW M_Md_hardest 237 11 19 .boolean) hr (fun h5 hr => ?_)
      refine j_aload_n (pc := 151) d_Md_hardest_151 rfl ?_
      refine j_getf (pc := 152) d_Md_hardest_152 (fd_Md_55 rfl) hr (fun hr => ?_)
      refine j_iconst (pc := 155) d_Md_hardest_155 ?_
      refine j_iaload (pc := 156) d_Md_hardest_156 hr (fun hr => ?_)
      refine j_iconst (pc := 157) d_Md_hardest_157 ?_
      refine j_icmp_ne (pc := 158) (tgt := 165) d_Md_hardest_158 hr (fun hr => ?_) (fun hr => ?_)
      · refine j_aload_n (pc := 165) d_Md_hardest_165 rfl ?_
        refine j_getf (pc := 166) d_Md_hardest_166 (fd_Md_55 rfl) hr (fun hr => ?_)
        refine j_iload_n (pc := 169) d_Md_hardest_169 rfl ?_
        refine j_iaload (pc := 170) d_Md_hardest_170 hr (fun hr => ?_)
        exact j_iret (pc := 171) d_Md_hardest_171 rfl hr
      · refine j_iconst (pc := 161) d_Md_hardest_161 ?_
        refine j_goto (pc := 162) (tgt := 171) d_Md_hardest_162 ?_
        exact j_iret (pc := 171) d_Md_hardest_171 rfl hr
  · refine j_iconst (pc := 54) d_Md_hardest_54 ?_
    exact j_iret (pc := 55) d_Md_hardest_55 rfl hr
theorem t_Md_hardest_J25 {G : mG} {r : mR} {v0 v1 v2 s0 : Int} {h : mH}  (hr : f_Md_hardest_J25 v0 v1 v2 s0 h = some r) : mJ G M_Md_hardest 25 [(2, v0), (0, v1), (0, v2), (9, 0), (9, 0)] [(2, s0)] h r := by
  unfold f_Md_hardest_J25 at hr
  refine j_iconst (pc := 25) d_Md_hardest_25 ?_
  refine j_goto (pc := 26) (tgt := 44) d_Md_hardest_26 ?_
  exact mJ_weak (ls' := [(2, v0), (0, v1), (0, v2), (9, 0), (9, 0)]) (mwk_s (mwk_s (mwk_s (mwk_s (mwk_s mwk_n))))) (t_Md_hardest_J44  hr)
theorem t_Md_hardest {G : mG} (h : mH) (v0 v1 v2 : Int) (r : mR) (hr : f_Md_hardest h v0 v1 v2 = some r) : mJM G M_Md_hardest [(2, v0), (0, v1), (0, v2)] h r := by
  refine mJM_of (L := [(2, v0), (0, v1), (0, v2), (9, 0), (9, 0)]) rfl rfl rfl (Nat.le_of_ble_eq_true rfl) ?_
  unfold f_Md_hardest at hr
  refine j_aload_n (pc := 0) d_Md_hardest_0 rfl ?_
  refine j_iload_n (pc := 1) d_Md_hardest_1 rfl ?_
  refine j_i2l (pc := 2) d_Md_hardest_2 ?_
  refine j_lconst (pc := 3) (z := 1) d_Md_hardest_3 ?_
  refine j_ldc2 (pc := 4) (z := 999) d_Md_hardest_4 tb_cj_Md_344 rfl ?_
  refine j_callG (pc := 7) (stk := [(1, 999), (1, 1), (1, v1), (2, v0)]) (as := [(1, v1), (1, 1), (1, 999)]) (P := (fun v9 => ((0 : Nat), v9) :: [(2, v0)])) (tg := 0) (My := M_Md_amid) (mRunS (as := [(1, v1), (1, 1), (1, 999)]) (st := [(2, v0)]) d_Md_hardest_7 (mc_Md_amid (by decide)) rfl ⟨tb_ml_Md_147, tb_sm_Md_amid⟩ rfl (Nat.le_of_ble_eq_true rfl)) (fun v => rfl) rfl hr (fun r1 h1 => t_Md_amid _ _ _ _ _ h1) (fun x2 h1 hr => ?_)
  refine j_if_eq (pc := 10) (tgt := 25) d_Md_hardest_10 hr (fun hr => ?_) (fun hr => ?_)
  · exact mJ_weak (ls' := [(2, v0), (0, v1), (0, v2), (9, 0), (9, 0)]) (mwk_s (mwk_s (mwk_s (mwk_s (mwk_s mwk_n))))) (t_Md_hardest_J25  hr)
  · refine j_iload_n (pc := 13) d_Md_hardest_13 rfl ?_
    refine j_i2l (pc := 14) d_Md_hardest_14 ?_
    refine j_lconst (pc := 15) (z := 0) d_Md_hardest_15 ?_
    refine j_ldc2 (pc := 16) (z := 6) d_Md_hardest_16 tb_cj_Md_368 rfl ?_
    refine j_callG (pc := 19) (stk := [(1, 6), (1, 0), (1, v2), (2, v0)]) (as := [(1, v2), (1, 0), (1, 6)]) (P := (fun v9 => ((0 : Nat), v9) :: [(2, v0)])) (tg := 0) (My := M_Md_amid) (mRunS (as := [(1, v2), (1, 0), (1, 6)]) (st := [(2, v0)]) d_Md_hardest_19 (mc_Md_amid (by decide)) rfl ⟨tb_ml_Md_147, tb_sm_Md_amid⟩ rfl (Nat.le_of_ble_eq_true rfl)) (fun v => rfl) rfl hr (fun r1 h1 => t_Md_amid _ _ _ _ _ h1) (fun x4 h3 hr => ?_)
    refine j_if_ne (pc := 22) (tgt := 29) d_Md_hardest_22 hr (fun hr => ?_) (fun hr => ?_)
    · refine j_aload_n (pc := 29) d_Md_hardest_29 rfl ?_
      obtain ⟨ha, hr⟩ := chk_some hr
      refine j_callG (pc := 30) (stk := [(2, v0), (2, v0)]) (as := [(2, v0)]) (P := (fun v9 => ((0 : Nat), v9) :: [(2, v0)])) (tg := 0) (My := M_Md_stands) (mRunV (as := []) (st := [(2, v0)]) d_Md_hardest_30 (mc_Md_stands (by decide)) rfl (mv_Md_stands tb_ml_Md_219) rfl (Nat.le_of_ble_eq_true rfl) ha) (fun v => rfl) rfl hr (fun r1 h1 => t_Md_stands _ _ _ h1) (fun x6 h5 hr => ?_)
      refine j_sipush (pc := 33) d_Md_hardest_33 ?_
      refine j_icmp_le (pc := 36) (tgt := 43) d_Md_hardest_36 hr (fun hr => ?_) (fun hr => ?_)
      · refine j_iconst (pc := 43) d_Md_hardest_43 ?_
        exact mJ_weak (ls' := [(2, v0), (0, v1), (0, v2), (9, 0), (9, 0)]) (mwk_s (mwk_s (mwk_s (mwk_s (mwk_s mwk_n))))) (t_Md_hardest_J44  hr)
      · refine j_iconst (pc := 39) d_Md_hardest_39 ?_
        refine j_goto (pc := 40) (tgt := 44) d_Md_hardest_40 ?_
        exact mJ_weak (ls' := [(2, v0), (0, v1), (0, v2), (9, 0), (9, 0)]) (mwk_s (mwk_s (mwk_s (mwk_s (mwk_s mwk_n))))) (t_Md_hardest_J44  hr)
    · exact mJ_weak (ls' := [(2, v0), (0, v1), (0, v2), (9, 0), (9, 0)]) (mwk_s (mwk_s (mwk_s (mwk_s (mwk_s mwk_n))))) (t_Md_hardest_J25  hr)
def M_Md_laysLeads : mM := ("NineBarsModel", ⟨"NineBarsModel", "laysLeads", "()V"⟩, prog_13_method_93_code, 4, none, [], 9)
theorem tb_co_Md_laysLeads : mTB (Cond.code ⟨"NineBarsModel", "laysLeads", "()V"⟩ prog_13_method_93_code 4 (none)) := tbq8 237 (by decide +kernel) rfl
theorem mc_Md_laysLeads {M : mM} (hd : 9 < mDp M) : mCal M M_Md_laysLeads 0 := ⟨tb_co_Md_laysLeads, tb_in_NineBarsModel, ⟨by decide +kernel, by decide +kernel⟩, by decide +kernel, hd, by decide⟩
theorem d_Md_laysLeads_0 : decode prog_13_method_93_code 0 = .ok (.aload_n 0, 1) := by decide +kernel
theorem d_Md_laysLeads_1 : decode prog_13_method_93_code 1 = .ok (.invokevirtual 244, 3) := by decide +kernel
theorem d_Md_laysLeads_4 : decode prog_13_method_93_code 4 = .ok (.istore_n 1, 1) := by decide +kernel
theorem d_Md_laysLeads_5 : decode prog_13_method_93_code 5 = .ok (.iconst 0, 1) := by decide +kernel
theorem d_Md_laysLeads_6 : decode prog_13_method_93_code 6 = .ok (.istore_n 2, 1) := by decide +kernel
theorem d_Md_laysLeads_7 : decode prog_13_method_93_code 7 = .ok (.iload_n 2, 1) := by decide +kernel
theorem d_Md_laysLeads_8 : decode prog_13_method_93_code 8 = .ok (.aload_n 0, 1) := by decide +kernel
theorem d_Md_laysLeads_9 : decode prog_13_method_93_code 9 = .ok (.invokevirtual 219, 3) := by decide +kernel
theorem d_Md_laysLeads_12 : decode prog_13_method_93_code 12 = .ok (.if_icmp .ge 43, 3) := by decide +kernel
theorem d_Md_laysLeads_55 : decode prog_13_method_93_code 55 = .ok (.return_, 1) := by decide +kernel
theorem d_Md_laysLeads_15 : decode prog_13_method_93_code 15 = .ok (.iconst 0, 1) := by decide +kernel
theorem d_Md_laysLeads_16 : decode prog_13_method_93_code 16 = .ok (.istore_n 3, 1) := by decide +kernel
theorem d_Md_laysLeads_17 : decode prog_13_method_93_code 17 = .ok (.iload_n 3, 1) := by decide +kernel
theorem d_Md_laysLeads_18 : decode prog_13_method_93_code 18 = .ok (.aload_n 0, 1) := by decide +kernel
theorem d_Md_laysLeads_19 : decode prog_13_method_93_code 19 = .ok (.invokevirtual 319, 3) := by decide +kernel
theorem d_Md_laysLeads_22 : decode prog_13_method_93_code 22 = .ok (.if_icmp .ge 27, 3) := by decide +kernel
theorem d_Md_laysLeads_25 : decode prog_13_method_93_code 25 = .ok (.aload_n 0, 1) := by decide +kernel
theorem d_Md_laysLeads_26 : decode prog_13_method_93_code 26 = .ok (.getfield 59, 3) := by decide +kernel
theorem d_Md_laysLeads_29 : decode prog_13_method_93_code 29 = .ok (.bipush 18, 2) := by decide +kernel
theorem d_Md_laysLeads_31 : decode prog_13_method_93_code 31 = .ok (.iload_n 2, 1) := by decide +kernel
theorem d_Md_laysLeads_32 : decode prog_13_method_93_code 32 = .ok (.imul, 1) := by decide +kernel
theorem d_Md_laysLeads_33 : decode prog_13_method_93_code 33 = .ok (.iload_n 3, 1) := by decide +kernel
theorem d_Md_laysLeads_34 : decode prog_13_method_93_code 34 = .ok (.iadd, 1) := by decide +kernel
theorem d_Md_laysLeads_35 : decode prog_13_method_93_code 35 = .ok (.aload_n 0, 1) := by decide +kernel
theorem d_Md_laysLeads_36 : decode prog_13_method_93_code 36 = .ok (.iload_n 2, 1) := by decide +kernel
theorem d_Md_laysLeads_37 : decode prog_13_method_93_code 37 = .ok (.iload_n 3, 1) := by decide +kernel
theorem d_Md_laysLeads_38 : decode prog_13_method_93_code 38 = .ok (.iload_n 1, 1) := by decide +kernel
theorem d_Md_laysLeads_39 : decode prog_13_method_93_code 39 = .ok (.invokevirtual 322, 3) := by decide +kernel
theorem d_Md_laysLeads_42 : decode prog_13_method_93_code 42 = .ok (.iastore, 1) := by decide +kernel
theorem d_Md_laysLeads_43 : decode prog_13_method_93_code 43 = .ok (.iinc 3 1, 3) := by decide +kernel
theorem d_Md_laysLeads_46 : decode prog_13_method_93_code 46 = .ok (.goto (-29), 3) := by decide +kernel
theorem d_Md_laysLeads_49 : decode prog_13_method_93_code 49 = .ok (.iinc 2 1, 3) := by decide +kernel
theorem d_Md_laysLeads_52 : decode prog_13_method_93_code 52 = .ok (.goto (-45), 3) := by decide +kernel
theorem t_Md_laysLeads_L17 {G : mG} {r : mR} {v0 v1 v2 : Int} {K49 : mH → Option mR} (hK49 : ∀ (h : mH) , K49 h  = some r → mJ G M_Md_laysLeads 49 [(2, v0), (0, v1), (0, v2), (9, 0)] [] h r) : ∀ (n : Nat) (h : mH) (v3 : Int), f_Md_laysLeads_L17 K49 v0 v1 v2 n h v3 = some r → mJ G M_Md_laysLeads 17 [(2, v0), (0, v1), (0, v2), (0, v3)] [] h r := by
  intro n
  induction n with
  | zero =>
    intro h v3 hr
    rw [f_Md_laysLeads_L17] at hr
    cases hr
  | succ n hR17 =>
    intro h v3 hr
    rw [f_Md_laysLeads_L17] at hr
    refine j_iload_n (pc := 17) d_Md_laysLeads_17 rfl ?_
    refine j_aload_n (pc := 18) d_Md_laysLeads_18 rfl ?_
    obtain ⟨ha, hr⟩ := chk_some hr
    refine j_callG (pc := 19) (stk := [(2, v0), (0, v3)]) (as := [(2, v0)]) (P := (fun v9 => ((0 : Nat), v9) :: [(0, v3)])) (tg := 0) (My := M_Md_steps) (mRunV (as := []) (st := [(0, v3)]) d_Md_laysLeads_19 (mc_Md_steps (by decide)) rfl (mv_Md_steps tb_ml_Md_319) rfl (Nat.le_of_ble_eq_true rfl) ha) (fun v => rfl) rfl hr (fun r1 h1 => t_Md_steps _ _ _ h1) (fun x2 h1 hr => ?_)
    refine j_icmp_ge (pc := 22) (tgt := 49) d_Md_laysLeads_22 hr (fun hr => ?_) (fun hr => ?_)
    · exact mJ_weak (ls' := [(2, v0), (0, v1), (0, v2), (9, 0)]) (mwk_s (mwk_s (mwk_s (mwk_d mwk_n)))) (hK49 h1  hr)
    · refine j_aload_n (pc := 25) d_Md_laysLeads_25 rfl ?_
      refine j_getf (pc := 26) d_Md_laysLeads_26 (fd_Md_59 rfl) hr (fun hr => ?_)
      refine j_bipush (pc := 29) d_Md_laysLeads_29 ?_
      refine j_iload_n (pc := 31) d_Md_laysLeads_31 rfl ?_
      refine j_imul (pc := 32) d_Md_laysLeads_32 ?_
      refine j_iload_n (pc := 33) d_Md_laysLeads_33 rfl ?_
      refine j_iadd (pc := 34) d_Md_laysLeads_34 ?_
      refine j_aload_n (pc := 35) d_Md_laysLeads_35 rfl ?_
      refine j_iload_n (pc := 36) d_Md_laysLeads_36 rfl ?_
      refine j_iload_n (pc := 37) d_Md_laysLeads_37 rfl ?_
      refine j_iload_n (pc := 38) d_Md_laysLeads_38 rfl ?_
      obtain ⟨ha, hr⟩ := chk_some hr
      refine j_callG (pc := 39) (stk := [(0, v1), (0, v3), (0, v2), (2, v0), (0, w32 ((w32 (18 * v2)) + v3)), (2, hpV h1 v0 29)]) (as := [(2, v0), (0, v2), (0, v3), (0, v1)]) (P := (fun v9 => ((0 : Nat), v9) :: [(0, w32 ((w32 (18 * v2)) + v3)), (2, hpV h1 v0 29)])) (tg := 0) (My := M_Md_then) (mRunV (as := [(0, v2), (0, v3), (0, v1)]) (st := [(0, w32 ((w32 (18 * v2)) + v3)), (2, hpV h1 v0 29)]) d_Md_laysLeads_39 (mc_Md_then (by decide)) rfl (mv_Md_then tb_ml_Md_322) rfl (Nat.le_of_ble_eq_true rfl) ha) (fun v => rfl) rfl hr (fun r1 h1 => t_Md_then _ _ _ _ _ _ h1) (fun x4 h3 hr => ?_)
      refine j_iastore (pc := 42) d_Md_laysLeads_42 hr (fun h5 hr => ?_)
      refine j_iincW (pc := 43) (L := fun x6 => [(2, v0), (0, v1), (0, v2), (0, x6)]) d_Md_laysLeads_43 rfl (fun _ => rfl) hr (fun x6 hr => ?_)
      refine j_goto (pc := 46) (tgt := 17) d_Md_laysLeads_46 ?_
      exact mJ_weak (ls' := [(2, v0), (0, v1), (0, v2), (0, x6)]) (mwk_s (mwk_s (mwk_s (mwk_s mwk_n)))) (hR17 h5 _ hr)
theorem t_Md_laysLeads_L7 {G : mG} {r : mR} {v0 v1 : Int}  : ∀ (n : Nat) (h : mH) (v2 : Int), f_Md_laysLeads_L7 v0 v1 n h v2 = some r → mJ G M_Md_laysLeads 7 [(2, v0), (0, v1), (0, v2), (9, 0)] [] h r := by
  intro n
  induction n with
  | zero =>
    intro h v2 hr
    rw [f_Md_laysLeads_L7] at hr
    cases hr
  | succ n hR7 =>
    intro h v2 hr
    rw [f_Md_laysLeads_L7] at hr
    refine j_iload_n (pc := 7) d_Md_laysLeads_7 rfl ?_
    refine j_aload_n (pc := 8) d_Md_laysLeads_8 rfl ?_
    obtain ⟨ha, hr⟩ := chk_some hr
    refine j_callG (pc := 9) (stk := [(2, v0), (0, v2)]) (as := [(2, v0)]) (P := (fun v9 => ((0 : Nat), v9) :: [(0, v2)])) (tg := 0) (My := M_Md_stands) (mRunV (as := []) (st := [(0, v2)]) d_Md_laysLeads_9 (mc_Md_stands (by decide)) rfl (mv_Md_stands tb_ml_Md_219) rfl (Nat.le_of_ble_eq_true rfl) ha) (fun v => rfl) rfl hr (fun r1 h1 => t_Md_stands _ _ _ h1) (fun x2 h1 hr => ?_)
    refine j_icmp_ge (pc := 12) (tgt := 55) d_Md_laysLeads_12 hr (fun hr => ?_) (fun hr => ?_)
    · exact j_vret (pc := 55) d_Md_laysLeads_55 rfl hr
    · refine j_iconst (pc := 15) d_Md_laysLeads_15 ?_
      refine j_istore_n (pc := 16) (ls' := [(2, v0), (0, v1), (0, v2), (0, 0)]) d_Md_laysLeads_16 rfl ?_
      refine mJ_weak (ls' := [(2, v0), (0, v1), (0, v2), (0, 0)]) (mwk_s (mwk_s (mwk_s (mwk_s mwk_n)))) (t_Md_laysLeads_L17 (fun h3  hr => ?_) _ _ _ hr)
      · refine j_iincW (pc := 49) (L := fun x4 => [(2, v0), (0, v1), (0, x4), (9, 0)]) d_Md_laysLeads_49 rfl (fun _ => rfl) hr (fun x4 hr => ?_)
        refine j_goto (pc := 52) (tgt := 7) d_Md_laysLeads_52 ?_
        exact mJ_weak (ls' := [(2, v0), (0, v1), (0, x4), (9, 0)]) (mwk_s (mwk_s (mwk_s (mwk_s mwk_n)))) (hR7 h3 _ hr)
theorem t_Md_laysLeads {G : mG} (h : mH) (v0 : Int) (r : mR) (hr : f_Md_laysLeads h v0 = some r) : mJM G M_Md_laysLeads [(2, v0)] h r := by
  refine mJM_of (L := [(2, v0), (9, 0), (9, 0), (9, 0)]) rfl rfl rfl (Nat.le_of_ble_eq_true rfl) ?_
  unfold f_Md_laysLeads at hr
  refine j_aload_n (pc := 0) d_Md_laysLeads_0 rfl ?_
  obtain ⟨ha, hr⟩ := chk_some hr
  refine j_callG (pc := 1) (stk := [(2, v0)]) (as := [(2, v0)]) (P := (fun v9 => ((0 : Nat), v9) :: [])) (tg := 0) (My := M_Md_worn) (mRunV (as := []) (st := []) d_Md_laysLeads_1 (mc_Md_worn (by decide)) rfl (mv_Md_worn tb_ml_Md_244) rfl (Nat.le_of_ble_eq_true rfl) ha) (fun v => rfl) rfl hr (fun r1 h1 => t_Md_worn _ _ _ h1) (fun x2 h1 hr => ?_)
  refine j_istore_n (pc := 4) (ls' := [(2, v0), (0, x2), (9, 0), (9, 0)]) d_Md_laysLeads_4 rfl ?_
  refine j_iconst (pc := 5) d_Md_laysLeads_5 ?_
  refine j_istore_n (pc := 6) (ls' := [(2, v0), (0, x2), (0, 0), (9, 0)]) d_Md_laysLeads_6 rfl ?_
  refine mJ_weak (ls' := [(2, v0), (0, x2), (0, 0), (9, 0)]) (mwk_s (mwk_s (mwk_s (mwk_s mwk_n)))) (t_Md_laysLeads_L7  _ _ _ hr)
def M_Md_waysGo : mM := ("NineBarsModel", ⟨"NineBarsModel", "waysGo", "(J)V"⟩, prog_13_method_94_code, 6, none, [], 5)
theorem tb_co_Md_waysGo : mTB (Cond.code ⟨"NineBarsModel", "waysGo", "(J)V"⟩ prog_13_method_94_code 6 (none)) := tbq9 5 (by decide +kernel) rfl
theorem mc_Md_waysGo {M : mM} (hd : 5 < mDp M) : mCal M M_Md_waysGo 1 := ⟨tb_co_Md_waysGo, tb_in_NineBarsModel, ⟨by decide +kernel, by decide +kernel⟩, by decide +kernel, hd, by decide⟩
theorem d_Md_waysGo_0 : decode prog_13_method_94_code 0 = .ok (.iconst 0, 1) := by decide +kernel
theorem d_Md_waysGo_1 : decode prog_13_method_94_code 1 = .ok (.istore_n 3, 1) := by decide +kernel
theorem d_Md_waysGo_2 : decode prog_13_method_94_code 2 = .ok (.iload_n 3, 1) := by decide +kernel
theorem d_Md_waysGo_3 : decode prog_13_method_94_code 3 = .ok (.aload_n 0, 1) := by decide +kernel
theorem d_Md_waysGo_4 : decode prog_13_method_94_code 4 = .ok (.invokevirtual 219, 3) := by decide +kernel
theorem d_Md_waysGo_7 : decode prog_13_method_94_code 7 = .ok (.if_icmp .ge 16, 3) := by decide +kernel
theorem d_Md_waysGo_10 : decode prog_13_method_94_code 10 = .ok (.aload_n 0, 1) := by decide +kernel
theorem d_Md_waysGo_11 : decode prog_13_method_94_code 11 = .ok (.getfield 49, 3) := by decide +kernel
theorem d_Md_waysGo_14 : decode prog_13_method_94_code 14 = .ok (.iload_n 3, 1) := by decide +kernel
theorem d_Md_waysGo_15 : decode prog_13_method_94_code 15 = .ok (.lconst 0, 1) := by decide +kernel
theorem d_Md_waysGo_16 : decode prog_13_method_94_code 16 = .ok (.lastore, 1) := by decide +kernel
theorem d_Md_waysGo_17 : decode prog_13_method_94_code 17 = .ok (.iinc 3 1, 3) := by decide +kernel
theorem d_Md_waysGo_20 : decode prog_13_method_94_code 20 = .ok (.goto (-18), 3) := by decide +kernel
theorem d_Md_waysGo_23 : decode prog_13_method_94_code 23 = .ok (.iconst 0, 1) := by decide +kernel
theorem d_Md_waysGo_24 : decode prog_13_method_94_code 24 = .ok (.istore_n 3, 1) := by decide +kernel
theorem d_Md_waysGo_25 : decode prog_13_method_94_code 25 = .ok (.iload_n 3, 1) := by decide +kernel
theorem d_Md_waysGo_26 : decode prog_13_method_94_code 26 = .ok (.aload_n 0, 1) := by decide +kernel
theorem d_Md_waysGo_27 : decode prog_13_method_94_code 27 = .ok (.invokevirtual 219, 3) := by decide +kernel
theorem d_Md_waysGo_30 : decode prog_13_method_94_code 30 = .ok (.if_icmp .ge 97, 3) := by decide +kernel
theorem d_Md_waysGo_33 : decode prog_13_method_94_code 33 = .ok (.aload_n 0, 1) := by decide +kernel
theorem d_Md_waysGo_34 : decode prog_13_method_94_code 34 = .ok (.getfield 45, 3) := by decide +kernel
theorem d_Md_waysGo_37 : decode prog_13_method_94_code 37 = .ok (.iload_n 3, 1) := by decide +kernel
theorem d_Md_waysGo_38 : decode prog_13_method_94_code 38 = .ok (.laload, 1) := by decide +kernel
theorem d_Md_waysGo_39 : decode prog_13_method_94_code 39 = .ok (.lconst 0, 1) := by decide +kernel
theorem d_Md_waysGo_40 : decode prog_13_method_94_code 40 = .ok (.lcmp, 1) := by decide +kernel
theorem d_Md_waysGo_41 : decode prog_13_method_94_code 41 = .ok (.ifCond .ne 6, 3) := by decide +kernel
theorem d_Md_waysGo_47 : decode prog_13_method_94_code 47 = .ok (.iconst 0, 1) := by decide +kernel
theorem d_Md_waysGo_48 : decode prog_13_method_94_code 48 = .ok (.istore 4, 2) := by decide +kernel
theorem d_Md_waysGo_50 : decode prog_13_method_94_code 50 = .ok (.iload 4, 2) := by decide +kernel
theorem d_Md_waysGo_52 : decode prog_13_method_94_code 52 = .ok (.aload_n 0, 1) := by decide +kernel
theorem d_Md_waysGo_53 : decode prog_13_method_94_code 53 = .ok (.invokevirtual 319, 3) := by decide +kernel
theorem d_Md_waysGo_56 : decode prog_13_method_94_code 56 = .ok (.if_icmp .ge 65, 3) := by decide +kernel
theorem d_Md_waysGo_59 : decode prog_13_method_94_code 59 = .ok (.lload_n 1, 1) := by decide +kernel
theorem tb_cj_Md_374 : mTB (Cond.constantLong "NineBarsModel" 374 (-1)) := tbq9 6 (by decide +kernel) rfl
theorem d_Md_waysGo_60 : decode prog_13_method_94_code 60 = .ok (.ldc2_w 374, 3) := by decide +kernel
theorem d_Md_waysGo_63 : decode prog_13_method_94_code 63 = .ok (.lcmp, 1) := by decide +kernel
theorem d_Md_waysGo_64 : decode prog_13_method_94_code 64 = .ok (.ifCond .eq 11, 3) := by decide +kernel
theorem d_Md_waysGo_75 : decode prog_13_method_94_code 75 = .ok (.aload_n 0, 1) := by decide +kernel
theorem d_Md_waysGo_76 : decode prog_13_method_94_code 76 = .ok (.getfield 59, 3) := by decide +kernel
theorem d_Md_waysGo_79 : decode prog_13_method_94_code 79 = .ok (.bipush 18, 2) := by decide +kernel
theorem d_Md_waysGo_81 : decode prog_13_method_94_code 81 = .ok (.iload_n 3, 1) := by decide +kernel
theorem d_Md_waysGo_82 : decode prog_13_method_94_code 82 = .ok (.imul, 1) := by decide +kernel
theorem d_Md_waysGo_83 : decode prog_13_method_94_code 83 = .ok (.iload 4, 2) := by decide +kernel
theorem d_Md_waysGo_85 : decode prog_13_method_94_code 85 = .ok (.iadd, 1) := by decide +kernel
theorem d_Md_waysGo_86 : decode prog_13_method_94_code 86 = .ok (.iaload, 1) := by decide +kernel
theorem d_Md_waysGo_87 : decode prog_13_method_94_code 87 = .ok (.goto 4, 3) := by decide +kernel
theorem d_Md_waysGo_91 : decode prog_13_method_94_code 91 = .ok (.istore 5, 2) := by decide +kernel
theorem d_Md_waysGo_93 : decode prog_13_method_94_code 93 = .ok (.iload 5, 2) := by decide +kernel
theorem d_Md_waysGo_95 : decode prog_13_method_94_code 95 = .ok (.iconst (-1), 1) := by decide +kernel
theorem d_Md_waysGo_96 : decode prog_13_method_94_code 96 = .ok (.if_icmp .eq 19, 3) := by decide +kernel
theorem d_Md_waysGo_115 : decode prog_13_method_94_code 115 = .ok (.iinc 4 1, 3) := by decide +kernel
theorem d_Md_waysGo_118 : decode prog_13_method_94_code 118 = .ok (.goto (-68), 3) := by decide +kernel
theorem d_Md_waysGo_99 : decode prog_13_method_94_code 99 = .ok (.aload_n 0, 1) := by decide +kernel
theorem d_Md_waysGo_100 : decode prog_13_method_94_code 100 = .ok (.getfield 49, 3) := by decide +kernel
theorem d_Md_waysGo_103 : decode prog_13_method_94_code 103 = .ok (.iload 5, 2) := by decide +kernel
theorem d_Md_waysGo_105 : decode prog_13_method_94_code 105 = .ok (.dup2, 1) := by decide +kernel
theorem d_Md_waysGo_106 : decode prog_13_method_94_code 106 = .ok (.laload, 1) := by decide +kernel
theorem d_Md_waysGo_107 : decode prog_13_method_94_code 107 = .ok (.aload_n 0, 1) := by decide +kernel
theorem d_Md_waysGo_108 : decode prog_13_method_94_code 108 = .ok (.getfield 45, 3) := by decide +kernel
theorem d_Md_waysGo_111 : decode prog_13_method_94_code 111 = .ok (.iload_n 3, 1) := by decide +kernel
theorem d_Md_waysGo_112 : decode prog_13_method_94_code 112 = .ok (.laload, 1) := by decide +kernel
theorem d_Md_waysGo_113 : decode prog_13_method_94_code 113 = .ok (.ladd, 1) := by decide +kernel
theorem d_Md_waysGo_114 : decode prog_13_method_94_code 114 = .ok (.lastore, 1) := by decide +kernel
theorem d_Md_waysGo_67 : decode prog_13_method_94_code 67 = .ok (.lload_n 1, 1) := by decide +kernel
theorem d_Md_waysGo_68 : decode prog_13_method_94_code 68 = .ok (.iload 4, 2) := by decide +kernel
theorem d_Md_waysGo_70 : decode prog_13_method_94_code 70 = .ok (.i2l, 1) := by decide +kernel
theorem d_Md_waysGo_71 : decode prog_13_method_94_code 71 = .ok (.lcmp, 1) := by decide +kernel
theorem d_Md_waysGo_72 : decode prog_13_method_94_code 72 = .ok (.ifCond .ne 18, 3) := by decide +kernel
theorem d_Md_waysGo_90 : decode prog_13_method_94_code 90 = .ok (.iconst (-1), 1) := by decide +kernel
theorem d_Md_waysGo_121 : decode prog_13_method_94_code 121 = .ok (.iinc 3 1, 3) := by decide +kernel
theorem d_Md_waysGo_124 : decode prog_13_method_94_code 124 = .ok (.goto (-99), 3) := by decide +kernel
theorem d_Md_waysGo_44 : decode prog_13_method_94_code 44 = .ok (.goto 77, 3) := by decide +kernel
theorem d_Md_waysGo_127 : decode prog_13_method_94_code 127 = .ok (.iconst 0, 1) := by decide +kernel
theorem d_Md_waysGo_128 : decode prog_13_method_94_code 128 = .ok (.istore_n 3, 1) := by decide +kernel
theorem d_Md_waysGo_129 : decode prog_13_method_94_code 129 = .ok (.iload_n 3, 1) := by decide +kernel
theorem d_Md_waysGo_130 : decode prog_13_method_94_code 130 = .ok (.aload_n 0, 1) := by decide +kernel
theorem d_Md_waysGo_131 : decode prog_13_method_94_code 131 = .ok (.invokevirtual 219, 3) := by decide +kernel
theorem d_Md_waysGo_134 : decode prog_13_method_94_code 134 = .ok (.if_icmp .ge 21, 3) := by decide +kernel
theorem d_Md_waysGo_155 : decode prog_13_method_94_code 155 = .ok (.return_, 1) := by decide +kernel
theorem d_Md_waysGo_137 : decode prog_13_method_94_code 137 = .ok (.aload_n 0, 1) := by decide +kernel
theorem d_Md_waysGo_138 : decode prog_13_method_94_code 138 = .ok (.getfield 45, 3) := by decide +kernel
theorem d_Md_waysGo_141 : decode prog_13_method_94_code 141 = .ok (.iload_n 3, 1) := by decide +kernel
theorem d_Md_waysGo_142 : decode prog_13_method_94_code 142 = .ok (.aload_n 0, 1) := by decide +kernel
theorem d_Md_waysGo_143 : decode prog_13_method_94_code 143 = .ok (.getfield 49, 3) := by decide +kernel
theorem d_Md_waysGo_146 : decode prog_13_method_94_code 146 = .ok (.iload_n 3, 1) := by decide +kernel
theorem d_Md_waysGo_147 : decode prog_13_method_94_code 147 = .ok (.laload, 1) := by decide +kernel
theorem d_Md_waysGo_148 : decode prog_13_method_94_code 148 = .ok (.lastore, 1) := by decide +kernel
theorem d_Md_waysGo_149 : decode prog_13_method_94_code 149 = .ok (.iinc 3 1, 3) := by decide +kernel
theorem d_Md_waysGo_152 : decode prog_13_method_94_code 152 = .ok (.goto (-23), 3) := by decide +kernel
theorem t_Md_waysGo_L2 {G : mG} {r : mR} {v0 v1 : Int} {K23 : mH → Option mR} (hK23 : ∀ (h : mH) , K23 h  = some r → mJ G M_Md_waysGo 23 [(2, v0), (1, v1), (9, 0), (9, 0), (9, 0), (9, 0)] [] h r) : ∀ (n : Nat) (h : mH) (v3 : Int), f_Md_waysGo_L2 K23 v0 n h v3 = some r → mJ G M_Md_waysGo 2 [(2, v0), (1, v1), (9, 0), (0, v3), (9, 0), (9, 0)] [] h r := by
  intro n
  induction n with
  | zero =>
    intro h v3 hr
    rw [f_Md_waysGo_L2] at hr
    cases hr
  | succ n hR2 =>
    intro h v3 hr
    rw [f_Md_waysGo_L2] at hr
    refine j_iload_n (pc := 2) d_Md_waysGo_2 rfl ?_
    refine j_aload_n (pc := 3) d_Md_waysGo_3 rfl ?_
    obtain ⟨ha, hr⟩ := chk_some hr
    refine j_callG (pc := 4) (stk := [(2, v0), (0, v3)]) (as := [(2, v0)]) (P := (fun v9 => ((0 : Nat), v9) :: [(0, v3)])) (tg := 0) (My := M_Md_stands) (mRunV (as := []) (st := [(0, v3)]) d_Md_waysGo_4 (mc_Md_stands (by decide)) rfl (mv_Md_stands tb_ml_Md_219) rfl (Nat.le_of_ble_eq_true rfl) ha) (fun v => rfl) rfl hr (fun r1 h1 => t_Md_stands _ _ _ h1) (fun x2 h1 hr => ?_)
    refine j_icmp_ge (pc := 7) (tgt := 23) d_Md_waysGo_7 hr (fun hr => ?_) (fun hr => ?_)
    · exact mJ_weak (ls' := [(2, v0), (1, v1), (9, 0), (9, 0), (9, 0), (9, 0)]) (mwk_s (mwk_s (mwk_s (mwk_d (mwk_s (mwk_s mwk_n)))))) (hK23 h1  hr)
    · refine j_aload_n (pc := 10) d_Md_waysGo_10 rfl ?_
      refine j_getf (pc := 11) d_Md_waysGo_11 (fd_Md_49 rfl) hr (fun hr => ?_)
      refine j_iload_n (pc := 14) d_Md_waysGo_14 rfl ?_
      refine j_lconst (pc := 15) (z := 0) d_Md_waysGo_15 ?_
      refine j_lastore (pc := 16) d_Md_waysGo_16 hr (fun h3 hr => ?_)
      refine j_iincW (pc := 17) (L := fun x4 => [(2, v0), (1, v1), (9, 0), (0, x4), (9, 0), (9, 0)]) d_Md_waysGo_17 rfl (fun _ => rfl) hr (fun x4 hr => ?_)
      refine j_goto (pc := 20) (tgt := 2) d_Md_waysGo_20 ?_
      exact mJ_weak (ls' := [(2, v0), (1, v1), (9, 0), (0, x4), (9, 0), (9, 0)]) (mwk_s (mwk_s (mwk_s (mwk_s (mwk_s (mwk_s mwk_n)))))) (hR2 h3 _ hr)
theorem t_Md_waysGo_J115 {G : mG} {r : mR} {v0 v1 v3 v4 : Int} {h : mH} {R50 : mH → Int → Option mR} (hR50 : ∀ (h : mH) (w4 : Int) , R50 h w4 = some r → mJ G M_Md_waysGo 50 [(2, v0), (1, v1), (9, 0), (0, v3), (0, w4), (9, 0)] [] h r) (hr : f_Md_waysGo_J115 R50 v4 h = some r) : mJ G M_Md_waysGo 115 [(2, v0), (1, v1), (9, 0), (0, v3), (0, v4), (9, 0)] [] h r := by
  unfold f_Md_waysGo_J115 at hr
  refine j_iincW (pc := 115) (L := fun x1 => [(2, v0), (1, v1), (9, 0), (0, v3), (0, x1), (9, 0)]) d_Md_waysGo_115 rfl (fun _ => rfl) hr (fun x1 hr => ?_)
  refine j_goto (pc := 118) (tgt := 50) d_Md_waysGo_118 ?_
  exact mJ_weak (ls' := [(2, v0), (1, v1), (9, 0), (0, v3), (0, x1), (9, 0)]) (mwk_s (mwk_s (mwk_s (mwk_s (mwk_s (mwk_s mwk_n)))))) (hR50 h _ hr)
theorem t_Md_waysGo_J91 {G : mG} {r : mR} {v0 v1 v3 v4 s0 : Int} {h : mH} {R50 : mH → Int → Option mR} (hR50 : ∀ (h : mH) (w4 : Int) , R50 h w4 = some r → mJ G M_Md_waysGo 50 [(2, v0), (1, v1), (9, 0), (0, v3), (0, w4), (9, 0)] [] h r) (hr : f_Md_waysGo_J91 R50 v0 v3 v4 s0 h = some r) : mJ G M_Md_waysGo 91 [(2, v0), (1, v1), (9, 0), (0, v3), (0, v4), (9, 0)] [(0, s0)] h r := by
  unfold f_Md_waysGo_J91 at hr
  refine j_istore (pc := 91) (ls' := [(2, v0), (1, v1), (9, 0), (0, v3), (0, v4), (0, s0)]) d_Md_waysGo_91 rfl ?_
  refine j_iload (pc := 93) d_Md_waysGo_93 rfl ?_
  refine j_iconst (pc := 95) d_Md_waysGo_95 ?_
  refine j_icmp_eq (pc := 96) (tgt := 115) d_Md_waysGo_96 hr (fun hr => ?_) (fun hr => ?_)
  · exact mJ_weak (ls' := [(2, v0), (1, v1), (9, 0), (0, v3), (0, v4), (9, 0)]) (mwk_s (mwk_s (mwk_s (mwk_s (mwk_s (mwk_d mwk_n)))))) (t_Md_waysGo_J115 hR50 hr)
  · refine j_aload_n (pc := 99) d_Md_waysGo_99 rfl ?_
    refine j_getf (pc := 100) d_Md_waysGo_100 (fd_Md_49 rfl) hr (fun hr => ?_)
    refine j_iload (pc := 103) d_Md_waysGo_103 rfl ?_
    refine j_dup2 (pc := 105) d_Md_waysGo_105 ?_
    refine j_laload (pc := 106) d_Md_waysGo_106 hr (fun hr => ?_)
    refine j_aload_n (pc := 107) d_Md_waysGo_107 rfl ?_
    refine j_getf (pc := 108) d_Md_waysGo_108 (fd_Md_45 rfl) hr (fun hr => ?_)
    refine j_iload_n (pc := 111) d_Md_waysGo_111 rfl ?_
    refine j_laload (pc := 112) d_Md_waysGo_112 hr (fun hr => ?_)
    refine j_ladd (pc := 113) d_Md_waysGo_113 ?_
    refine j_lastore (pc := 114) d_Md_waysGo_114 hr (fun h1 hr => ?_)
    exact mJ_weak (ls' := [(2, v0), (1, v1), (9, 0), (0, v3), (0, v4), (9, 0)]) (mwk_s (mwk_s (mwk_s (mwk_s (mwk_s (mwk_d mwk_n)))))) (t_Md_waysGo_J115 hR50 hr)
theorem t_Md_waysGo_J75 {G : mG} {r : mR} {v0 v1 v3 v4 : Int} {h : mH} {R50 : mH → Int → Option mR} (hR50 : ∀ (h : mH) (w4 : Int) , R50 h w4 = some r → mJ G M_Md_waysGo 50 [(2, v0), (1, v1), (9, 0), (0, v3), (0, w4), (9, 0)] [] h r) (hr : f_Md_waysGo_J75 R50 v0 v3 v4 h = some r) : mJ G M_Md_waysGo 75 [(2, v0), (1, v1), (9, 0), (0, v3), (0, v4), (9, 0)] [] h r := by
  unfold f_Md_waysGo_J75 at hr
  refine j_aload_n (pc := 75) d_Md_waysGo_75 rfl ?_
  refine j_getf (pc := 76) d_Md_waysGo_76 (fd_Md_59 rfl) hr (fun hr => ?_)
  refine j_bipush (pc := 79) d_Md_waysGo_79 ?_
  refine j_iload_n (pc := 81) d_Md_waysGo_81 rfl ?_
  refine j_imul (pc := 82) d_Md_waysGo_82 ?_
  refine j_iload (pc := 83) d_Md_waysGo_83 rfl ?_
  refine j_iadd (pc := 85) d_Md_waysGo_85 ?_
  refine j_iaload (pc := 86) d_Md_waysGo_86 hr (fun hr => ?_)
  refine j_goto (pc := 87) (tgt := 91) d_Md_waysGo_87 ?_
  exact mJ_weak (ls' := [(2, v0), (1, v1), (9, 0), (0, v3), (0, v4), (9, 0)]) (mwk_s (mwk_s (mwk_s (mwk_s (mwk_s (mwk_s mwk_n)))))) (t_Md_waysGo_J91 hR50 hr)
theorem t_Md_waysGo_L50 {G : mG} {r : mR} {v0 v1 v3 : Int} {K121 : mH → Option mR} (hK121 : ∀ (h : mH) , K121 h  = some r → mJ G M_Md_waysGo 121 [(2, v0), (1, v1), (9, 0), (0, v3), (9, 0), (9, 0)] [] h r) : ∀ (n : Nat) (h : mH) (v4 : Int), f_Md_waysGo_L50 K121 v0 v1 v3 n h v4 = some r → mJ G M_Md_waysGo 50 [(2, v0), (1, v1), (9, 0), (0, v3), (0, v4), (9, 0)] [] h r := by
  intro n
  induction n with
  | zero =>
    intro h v4 hr
    rw [f_Md_waysGo_L50] at hr
    cases hr
  | succ n hR50 =>
    intro h v4 hr
    rw [f_Md_waysGo_L50] at hr
    refine j_iload (pc := 50) d_Md_waysGo_50 rfl ?_
    refine j_aload_n (pc := 52) d_Md_waysGo_52 rfl ?_
    obtain ⟨ha, hr⟩ := chk_some hr
    refine j_callG (pc := 53) (stk := [(2, v0), (0, v4)]) (as := [(2, v0)]) (P := (fun v9 => ((0 : Nat), v9) :: [(0, v4)])) (tg := 0) (My := M_Md_steps) (mRunV (as := []) (st := [(0, v4)]) d_Md_waysGo_53 (mc_Md_steps (by decide)) rfl (mv_Md_steps tb_ml_Md_319) rfl (Nat.le_of_ble_eq_true rfl) ha) (fun v => rfl) rfl hr (fun r1 h1 => t_Md_steps _ _ _ h1) (fun x2 h1 hr => ?_)
    refine j_icmp_ge (pc := 56) (tgt := 121) d_Md_waysGo_56 hr (fun hr => ?_) (fun hr => ?_)
    · exact mJ_weak (ls' := [(2, v0), (1, v1), (9, 0), (0, v3), (9, 0), (9, 0)]) (mwk_s (mwk_s (mwk_s (mwk_s (mwk_d (mwk_s mwk_n)))))) (hK121 h1  hr)
    · refine j_lload_n (pc := 59) d_Md_waysGo_59 rfl ?_
      refine j_ldc2 (pc := 60) (z := (-1)) d_Md_waysGo_60 tb_cj_Md_374 rfl ?_
      refine j_lcmp (pc := 63) d_Md_waysGo_63 ?_
      refine j_if_eq (pc := 64) (tgt := 75) d_Md_waysGo_64 hr (fun hr => ?_) (fun hr => ?_)
      · exact mJ_weak (ls' := [(2, v0), (1, v1), (9, 0), (0, v3), (0, v4), (9, 0)]) (mwk_s (mwk_s (mwk_s (mwk_s (mwk_s (mwk_s mwk_n)))))) (t_Md_waysGo_J75 hR50 hr)
      · refine j_lload_n (pc := 67) d_Md_waysGo_67 rfl ?_
        refine j_iload (pc := 68) d_Md_waysGo_68 rfl ?_
        refine j_i2l (pc := 70) d_Md_waysGo_70 ?_
        refine j_lcmp (pc := 71) d_Md_waysGo_71 ?_
        refine j_if_ne (pc := 72) (tgt := 90) d_Md_waysGo_72 hr (fun hr => ?_) (fun hr => ?_)
        · refine j_iconst (pc := 90) d_Md_waysGo_90 ?_
          exact mJ_weak (ls' := [(2, v0), (1, v1), (9, 0), (0, v3), (0, v4), (9, 0)]) (mwk_s (mwk_s (mwk_s (mwk_s (mwk_s (mwk_s mwk_n)))))) (t_Md_waysGo_J91 hR50 hr)
        · exact mJ_weak (ls' := [(2, v0), (1, v1), (9, 0), (0, v3), (0, v4), (9, 0)]) (mwk_s (mwk_s (mwk_s (mwk_s (mwk_s (mwk_s mwk_n)))))) (t_Md_waysGo_J75 hR50 hr)
theorem t_Md_waysGo_J121 {G : mG} {r : mR} {v0 v1 v3 : Int} {h : mH} {R25 : mH → Int → Option mR} (hR25 : ∀ (h : mH) (w3 : Int) , R25 h w3 = some r → mJ G M_Md_waysGo 25 [(2, v0), (1, v1), (9, 0), (0, w3), (9, 0), (9, 0)] [] h r) (hr : f_Md_waysGo_J121 R25 v3 h = some r) : mJ G M_Md_waysGo 121 [(2, v0), (1, v1), (9, 0), (0, v3), (9, 0), (9, 0)] [] h r := by
  unfold f_Md_waysGo_J121 at hr
  refine j_iincW (pc := 121) (L := fun x1 => [(2, v0), (1, v1), (9, 0), (0, x1), (9, 0), (9, 0)]) d_Md_waysGo_121 rfl (fun _ => rfl) hr (fun x1 hr => ?_)
  refine j_goto (pc := 124) (tgt := 25) d_Md_waysGo_124 ?_
  exact mJ_weak (ls' := [(2, v0), (1, v1), (9, 0), (0, x1), (9, 0), (9, 0)]) (mwk_s (mwk_s (mwk_s (mwk_s (mwk_s (mwk_s mwk_n)))))) (hR25 h _ hr)
theorem t_Md_waysGo_L25 {G : mG} {r : mR} {v0 v1 : Int} {K127 : mH → Option mR} (hK127 : ∀ (h : mH) , K127 h  = some r → mJ G M_Md_waysGo 127 [(2, v0), (9, 0), (9, 0), (9, 0), (9, 0), (9, 0)] [] h r) : ∀ (n : Nat) (h : mH) (v3 : Int), f_Md_waysGo_L25 K127 v0 v1 n h v3 = some r → mJ G M_Md_waysGo 25 [(2, v0), (1, v1), (9, 0), (0, v3), (9, 0), (9, 0)] [] h r := by
  intro n
  induction n with
  | zero =>
    intro h v3 hr
    rw [f_Md_waysGo_L25] at hr
    cases hr
  | succ n hR25 =>
    intro h v3 hr
    rw [f_Md_waysGo_L25] at hr
    refine j_iload_n (pc := 25) d_Md_waysGo_25 rfl ?_
    refine j_aload_n (pc := 26) d_Md_waysGo_26 rfl ?_
    obtain ⟨ha, hr⟩ := chk_some hr
    refine j_callG (pc := 27) (stk := [(2, v0), (0, v3)]) (as := [(2, v0)]) (P := (fun v9 => ((0 : Nat), v9) :: [(0, v3)])) (tg := 0) (My := M_Md_stands) (mRunV (as := []) (st := [(0, v3)]) d_Md_waysGo_27 (mc_Md_stands (by decide)) rfl (mv_Md_stands tb_ml_Md_219) rfl (Nat.le_of_ble_eq_true rfl) ha) (fun v => rfl) rfl hr (fun r1 h1 => t_Md_stands _ _ _ h1) (fun x2 h1 hr => ?_)
    refine j_icmp_ge (pc := 30) (tgt := 127) d_Md_waysGo_30 hr (fun hr => ?_) (fun hr => ?_)
    · exact mJ_weak (ls' := [(2, v0), (9, 0), (9, 0), (9, 0), (9, 0), (9, 0)]) (mwk_s (mwk_d (mwk_s (mwk_d (mwk_s (mwk_s mwk_n)))))) (hK127 h1  hr)
    · refine j_aload_n (pc := 33) d_Md_waysGo_33 rfl ?_
      refine j_getf (pc := 34) d_Md_waysGo_34 (fd_Md_45 rfl) hr (fun hr => ?_)
      refine j_iload_n (pc := 37) d_Md_waysGo_37 rfl ?_
      refine j_laload (pc := 38) d_Md_waysGo_38 hr (fun hr => ?_)
      refine j_lconst (pc := 39) (z := 0) d_Md_waysGo_39 ?_
      refine j_lcmp (pc := 40) d_Md_waysGo_40 ?_
      refine j_if_ne (pc := 41) (tgt := 47) d_Md_waysGo_41 hr (fun hr => ?_) (fun hr => ?_)
      · refine j_iconst (pc := 47) d_Md_waysGo_47 ?_
        refine j_istore (pc := 48) (ls' := [(2, v0), (1, v1), (9, 0), (0, v3), (0, 0), (9, 0)]) d_Md_waysGo_48 rfl ?_
        refine mJ_weak (ls' := [(2, v0), (1, v1), (9, 0), (0, v3), (0, 0), (9, 0)]) (mwk_s (mwk_s (mwk_s (mwk_s (mwk_s (mwk_s mwk_n)))))) (t_Md_waysGo_L50 (fun h3  hr => ?_) _ _ _ hr)
        · exact mJ_weak (ls' := [(2, v0), (1, v1), (9, 0), (0, v3), (9, 0), (9, 0)]) (mwk_s (mwk_s (mwk_s (mwk_s (mwk_s (mwk_s mwk_n)))))) (t_Md_waysGo_J121 hR25 hr)
      · refine j_goto (pc := 44) (tgt := 121) d_Md_waysGo_44 ?_
        exact mJ_weak (ls' := [(2, v0), (1, v1), (9, 0), (0, v3), (9, 0), (9, 0)]) (mwk_s (mwk_s (mwk_s (mwk_s (mwk_s (mwk_s mwk_n)))))) (t_Md_waysGo_J121 hR25 hr)
theorem t_Md_waysGo_L129 {G : mG} {r : mR} {v0 : Int}  : ∀ (n : Nat) (h : mH) (v3 : Int), f_Md_waysGo_L129 v0 n h v3 = some r → mJ G M_Md_waysGo 129 [(2, v0), (9, 0), (9, 0), (0, v3), (9, 0), (9, 0)] [] h r := by
  intro n
  induction n with
  | zero =>
    intro h v3 hr
    rw [f_Md_waysGo_L129] at hr
    cases hr
  | succ n hR129 =>
    intro h v3 hr
    rw [f_Md_waysGo_L129] at hr
    refine j_iload_n (pc := 129) d_Md_waysGo_129 rfl ?_
    refine j_aload_n (pc := 130) d_Md_waysGo_130 rfl ?_
    obtain ⟨ha, hr⟩ := chk_some hr
    refine j_callG (pc := 131) (stk := [(2, v0), (0, v3)]) (as := [(2, v0)]) (P := (fun v9 => ((0 : Nat), v9) :: [(0, v3)])) (tg := 0) (My := M_Md_stands) (mRunV (as := []) (st := [(0, v3)]) d_Md_waysGo_131 (mc_Md_stands (by decide)) rfl (mv_Md_stands tb_ml_Md_219) rfl (Nat.le_of_ble_eq_true rfl) ha) (fun v => rfl) rfl hr (fun r1 h1 => t_Md_stands _ _ _ h1) (fun x2 h1 hr => ?_)
    refine j_icmp_ge (pc := 134) (tgt := 155) d_Md_waysGo_134 hr (fun hr => ?_) (fun hr => ?_)
    · exact j_vret (pc := 155) d_Md_waysGo_155 rfl hr
    · refine j_aload_n (pc := 137) d_Md_waysGo_137 rfl ?_
      refine j_getf (pc := 138) d_Md_waysGo_138 (fd_Md_45 rfl) hr (fun hr => ?_)
      refine j_iload_n (pc := 141) d_Md_waysGo_141 rfl ?_
      refine j_aload_n (pc := 142) d_Md_waysGo_142 rfl ?_
      refine j_getf (pc := 143) d_Md_waysGo_143 (fd_Md_49 rfl) hr (fun hr => ?_)
      refine j_iload_n (pc := 146) d_Md_waysGo_146 rfl ?_
      refine j_laload (pc := 147) d_Md_waysGo_147 hr (fun hr => ?_)
      refine j_lastore (pc := 148) d_Md_waysGo_148 hr (fun h3 hr => ?_)
      refine j_iincW (pc := 149) (L := fun x4 => [(2, v0), (9, 0), (9, 0), (0, x4), (9, 0), (9, 0)]) d_Md_waysGo_149 rfl (fun _ => rfl) hr (fun x4 hr => ?_)
      refine j_goto (pc := 152) (tgt := 129) d_Md_waysGo_152 ?_
      exact mJ_weak (ls' := [(2, v0), (9, 0), (9, 0), (0, x4), (9, 0), (9, 0)]) (mwk_s (mwk_s (mwk_s (mwk_s (mwk_s (mwk_s mwk_n)))))) (hR129 h3 _ hr)
theorem t_Md_waysGo {G : mG} (h : mH) (v0 v1 : Int) (r : mR) (hr : f_Md_waysGo h v0 v1 = some r) : mJM G M_Md_waysGo [(2, v0), (1, v1)] h r := by
  refine mJM_of (L := [(2, v0), (1, v1), (9, 0), (9, 0), (9, 0), (9, 0)]) rfl rfl rfl (Nat.le_of_ble_eq_true rfl) ?_
  unfold f_Md_waysGo at hr
  refine j_iconst (pc := 0) d_Md_waysGo_0 ?_
  refine j_istore_n (pc := 1) (ls' := [(2, v0), (1, v1), (9, 0), (0, 0), (9, 0), (9, 0)]) d_Md_waysGo_1 rfl ?_
  refine mJ_weak (ls' := [(2, v0), (1, v1), (9, 0), (0, 0), (9, 0), (9, 0)]) (mwk_s (mwk_s (mwk_s (mwk_s (mwk_s (mwk_s mwk_n)))))) (t_Md_waysGo_L2 (fun h1  hr => ?_) _ _ _ hr)
  · refine j_iconst (pc := 23) d_Md_waysGo_23 ?_
    refine j_istore_n (pc := 24) (ls' := [(2, v0), (1, v1), (9, 0), (0, 0), (9, 0), (9, 0)]) d_Md_waysGo_24 rfl ?_
    refine mJ_weak (ls' := [(2, v0), (1, v1), (9, 0), (0, 0), (9, 0), (9, 0)]) (mwk_s (mwk_s (mwk_s (mwk_s (mwk_s (mwk_s mwk_n)))))) (t_Md_waysGo_L25 (fun h2  hr => ?_) _ _ _ hr)
    · refine j_iconst (pc := 127) d_Md_waysGo_127 ?_
      refine j_istore_n (pc := 128) (ls' := [(2, v0), (9, 0), (9, 0), (0, 0), (9, 0), (9, 0)]) d_Md_waysGo_128 rfl ?_
      refine mJ_weak (ls' := [(2, v0), (9, 0), (9, 0), (0, 0), (9, 0), (9, 0)]) (mwk_s (mwk_s (mwk_s (mwk_s (mwk_s (mwk_s mwk_n)))))) (t_Md_waysGo_L129  _ _ _ hr)
def M_Md_waysBegin : mM := ("NineBarsModel", ⟨"NineBarsModel", "waysBegin", "()V"⟩, prog_13_method_95_code, 2, none, [], 5)
theorem tb_co_Md_waysBegin : mTB (Cond.code ⟨"NineBarsModel", "waysBegin", "()V"⟩ prog_13_method_95_code 2 (none)) := tbq9 1 (by decide +kernel) rfl
theorem mc_Md_waysBegin {M : mM} (hd : 5 < mDp M) : mCal M M_Md_waysBegin 0 := ⟨tb_co_Md_waysBegin, tb_in_NineBarsModel, ⟨by decide +kernel, by decide +kernel⟩, by decide +kernel, hd, by decide⟩
theorem d_Md_waysBegin_0 : decode prog_13_method_95_code 0 = .ok (.iconst 0, 1) := by decide +kernel
theorem d_Md_waysBegin_1 : decode prog_13_method_95_code 1 = .ok (.istore_n 1, 1) := by decide +kernel
theorem d_Md_waysBegin_2 : decode prog_13_method_95_code 2 = .ok (.iload_n 1, 1) := by decide +kernel
theorem d_Md_waysBegin_3 : decode prog_13_method_95_code 3 = .ok (.aload_n 0, 1) := by decide +kernel
theorem d_Md_waysBegin_4 : decode prog_13_method_95_code 4 = .ok (.invokevirtual 219, 3) := by decide +kernel
theorem d_Md_waysBegin_7 : decode prog_13_method_95_code 7 = .ok (.if_icmp .ge 16, 3) := by decide +kernel
theorem d_Md_waysBegin_10 : decode prog_13_method_95_code 10 = .ok (.aload_n 0, 1) := by decide +kernel
theorem d_Md_waysBegin_11 : decode prog_13_method_95_code 11 = .ok (.getfield 45, 3) := by decide +kernel
theorem d_Md_waysBegin_14 : decode prog_13_method_95_code 14 = .ok (.iload_n 1, 1) := by decide +kernel
theorem d_Md_waysBegin_15 : decode prog_13_method_95_code 15 = .ok (.lconst 0, 1) := by decide +kernel
theorem d_Md_waysBegin_16 : decode prog_13_method_95_code 16 = .ok (.lastore, 1) := by decide +kernel
theorem d_Md_waysBegin_17 : decode prog_13_method_95_code 17 = .ok (.iinc 1 1, 3) := by decide +kernel
theorem d_Md_waysBegin_20 : decode prog_13_method_95_code 20 = .ok (.goto (-18), 3) := by decide +kernel
theorem d_Md_waysBegin_23 : decode prog_13_method_95_code 23 = .ok (.aload_n 0, 1) := by decide +kernel
theorem d_Md_waysBegin_24 : decode prog_13_method_95_code 24 = .ok (.getfield 45, 3) := by decide +kernel
theorem d_Md_waysBegin_27 : decode prog_13_method_95_code 27 = .ok (.aload_n 0, 1) := by decide +kernel
theorem d_Md_waysBegin_28 : decode prog_13_method_95_code 28 = .ok (.invokevirtual 265, 3) := by decide +kernel
theorem d_Md_waysBegin_31 : decode prog_13_method_95_code 31 = .ok (.lconst 1, 1) := by decide +kernel
theorem d_Md_waysBegin_32 : decode prog_13_method_95_code 32 = .ok (.lastore, 1) := by decide +kernel
theorem d_Md_waysBegin_33 : decode prog_13_method_95_code 33 = .ok (.return_, 1) := by decide +kernel
theorem t_Md_waysBegin_L2 {G : mG} {r : mR} {v0 : Int} {K23 : mH → Option mR} (hK23 : ∀ (h : mH) , K23 h  = some r → mJ G M_Md_waysBegin 23 [(2, v0), (9, 0)] [] h r) : ∀ (n : Nat) (h : mH) (v1 : Int), f_Md_waysBegin_L2 K23 v0 n h v1 = some r → mJ G M_Md_waysBegin 2 [(2, v0), (0, v1)] [] h r := by
  intro n
  induction n with
  | zero =>
    intro h v1 hr
    rw [f_Md_waysBegin_L2] at hr
    cases hr
  | succ n hR2 =>
    intro h v1 hr
    rw [f_Md_waysBegin_L2] at hr
    refine j_iload_n (pc := 2) d_Md_waysBegin_2 rfl ?_
    refine j_aload_n (pc := 3) d_Md_waysBegin_3 rfl ?_
    obtain ⟨ha, hr⟩ := chk_some hr
    refine j_callG (pc := 4) (stk := [(2, v0), (0, v1)]) (as := [(2, v0)]) (P := (fun v9 => ((0 : Nat), v9) :: [(0, v1)])) (tg := 0) (My := M_Md_stands) (mRunV (as := []) (st := [(0, v1)]) d_Md_waysBegin_4 (mc_Md_stands (by decide)) rfl (mv_Md_stands tb_ml_Md_219) rfl (Nat.le_of_ble_eq_true rfl) ha) (fun v => rfl) rfl hr (fun r1 h1 => t_Md_stands _ _ _ h1) (fun x2 h1 hr => ?_)
    refine j_icmp_ge (pc := 7) (tgt := 23) d_Md_waysBegin_7 hr (fun hr => ?_) (fun hr => ?_)
    · exact mJ_weak (ls' := [(2, v0), (9, 0)]) (mwk_s (mwk_d mwk_n)) (hK23 h1  hr)
    · refine j_aload_n (pc := 10) d_Md_waysBegin_10 rfl ?_
      refine j_getf (pc := 11) d_Md_waysBegin_11 (fd_Md_45 rfl) hr (fun hr => ?_)
      refine j_iload_n (pc := 14) d_Md_waysBegin_14 rfl ?_
      refine j_lconst (pc := 15) (z := 0) d_Md_waysBegin_15 ?_
      refine j_lastore (pc := 16) d_Md_waysBegin_16 hr (fun h3 hr => ?_)
      refine j_iincW (pc := 17) (L := fun x4 => [(2, v0), (0, x4)]) d_Md_waysBegin_17 rfl (fun _ => rfl) hr (fun x4 hr => ?_)
      refine j_goto (pc := 20) (tgt := 2) d_Md_waysBegin_20 ?_
      exact mJ_weak (ls' := [(2, v0), (0, x4)]) (mwk_s (mwk_s mwk_n)) (hR2 h3 _ hr)
theorem t_Md_waysBegin {G : mG} (h : mH) (v0 : Int) (r : mR) (hr : f_Md_waysBegin h v0 = some r) : mJM G M_Md_waysBegin [(2, v0)] h r := by
  refine mJM_of (L := [(2, v0), (9, 0)]) rfl rfl rfl (Nat.le_of_ble_eq_true rfl) ?_
  unfold f_Md_waysBegin at hr
  refine j_iconst (pc := 0) d_Md_waysBegin_0 ?_
  refine j_istore_n (pc := 1) (ls' := [(2, v0), (0, 0)]) d_Md_waysBegin_1 rfl ?_
  refine mJ_weak (ls' := [(2, v0), (0, 0)]) (mwk_s (mwk_s mwk_n)) (t_Md_waysBegin_L2 (fun h1  hr => ?_) _ _ _ hr)
  · refine j_aload_n (pc := 23) d_Md_waysBegin_23 rfl ?_
    refine j_getf (pc := 24) d_Md_waysBegin_24 (fd_Md_45 rfl) hr (fun hr => ?_)
    refine j_aload_n (pc := 27) d_Md_waysBegin_27 rfl ?_
    obtain ⟨ha, hr⟩ := chk_some hr
    refine j_callG (pc := 28) (stk := [(2, v0), (2, hpV h1 v0 25)]) (as := [(2, v0)]) (P := (fun v9 => ((0 : Nat), v9) :: [(2, hpV h1 v0 25)])) (tg := 0) (My := M_Md_standNow) (mRunV (as := []) (st := [(2, hpV h1 v0 25)]) d_Md_waysBegin_28 (mc_Md_standNow (by decide)) rfl (mv_Md_standNow tb_ml_Md_265) rfl (Nat.le_of_ble_eq_true rfl) ha) (fun v => rfl) rfl hr (fun r1 h1 => t_Md_standNow _ _ _ h1) (fun x3 h2 hr => ?_)
    refine j_lconst (pc := 31) (z := 1) d_Md_waysBegin_31 ?_
    refine j_lastore (pc := 32) d_Md_waysBegin_32 hr (fun h4 hr => ?_)
    exact j_vret (pc := 33) d_Md_waysBegin_33 rfl hr
def M_Md_known : mM := ("NineBarsModel", ⟨"NineBarsModel", "known", "(I)J"⟩, prog_13_method_96_code, 3, some .long, [], 11)
theorem tb_co_Md_known : mTB (Cond.code ⟨"NineBarsModel", "known", "(I)J"⟩ prog_13_method_96_code 3 (some .long)) := tbq8 233 (by decide +kernel) rfl
theorem mc_Md_known {M : mM} (hd : 11 < mDp M) : mCal M M_Md_known 1 := ⟨tb_co_Md_known, tb_in_NineBarsModel, ⟨by decide +kernel, by decide +kernel⟩, by decide +kernel, hd, by decide⟩
theorem d_Md_known_0 : decode prog_13_method_96_code 0 = .ok (.aload_n 0, 1) := by decide +kernel
theorem d_Md_known_1 : decode prog_13_method_96_code 1 = .ok (.aload_n 0, 1) := by decide +kernel
theorem d_Md_known_2 : decode prog_13_method_96_code 2 = .ok (.iload_n 1, 1) := by decide +kernel
theorem d_Md_known_3 : decode prog_13_method_96_code 3 = .ok (.invokevirtual 296, 3) := by decide +kernel
theorem d_Md_known_6 : decode prog_13_method_96_code 6 = .ok (.putfield 86, 3) := by decide +kernel
theorem d_Md_known_9 : decode prog_13_method_96_code 9 = .ok (.aload_n 0, 1) := by decide +kernel
theorem d_Md_known_10 : decode prog_13_method_96_code 10 = .ok (.getfield 86, 3) := by decide +kernel
theorem d_Md_known_13 : decode prog_13_method_96_code 13 = .ok (.ifCond .ne 15, 3) := by decide +kernel
theorem d_Md_known_28 : decode prog_13_method_96_code 28 = .ok (.aload_n 0, 1) := by decide +kernel
theorem d_Md_known_29 : decode prog_13_method_96_code 29 = .ok (.getfield 86, 3) := by decide +kernel
theorem d_Md_known_32 : decode prog_13_method_96_code 32 = .ok (.ifCond .ne 17, 3) := by decide +kernel
theorem d_Md_known_49 : decode prog_13_method_96_code 49 = .ok (.aload_n 0, 1) := by decide +kernel
theorem d_Md_known_50 : decode prog_13_method_96_code 50 = .ok (.getfield 86, 3) := by decide +kernel
theorem d_Md_known_53 : decode prog_13_method_96_code 53 = .ok (.ifCond .le 5, 3) := by decide +kernel
theorem d_Md_known_58 : decode prog_13_method_96_code 58 = .ok (.aload_n 0, 1) := by decide +kernel
theorem d_Md_known_59 : decode prog_13_method_96_code 59 = .ok (.invokevirtual 376, 3) := by decide +kernel
theorem tb_ml_Md_376 : mTB (Cond.methodLink "NineBarsModel" 376 ⟨"NineBarsModel", "laysLeads", "()V"⟩) := tbq8 234 (by decide +kernel) rfl
theorem tb_im_Md_laysLeads : mTB (Cond.instanceMethod ⟨"NineBarsModel", "laysLeads", "()V"⟩) := tbq8 236 (by decide +kernel) rfl
theorem tb_se_Md_laysLeads : mTB (Cond.selects "NineBarsModel" ⟨"NineBarsModel", "laysLeads", "()V"⟩ ⟨"NineBarsModel", "laysLeads", "()V"⟩) := tbqp 97 (by decide +kernel) rfl
theorem mv_Md_laysLeads {M : mM} {idx : Nat} (h : mTB (Cond.methodLink (mO M) idx ⟨"NineBarsModel", "laysLeads", "()V"⟩)) : mCaV M M_Md_laysLeads idx 11 := ⟨h, tb_im_Md_laysLeads, tb_se_Md_laysLeads, by decide, TX11, 40, rfl⟩
theorem d_Md_known_62 : decode prog_13_method_96_code 62 = .ok (.aload_n 0, 1) := by decide +kernel
theorem d_Md_known_63 : decode prog_13_method_96_code 63 = .ok (.invokevirtual 379, 3) := by decide +kernel
theorem tb_ml_Md_379 : mTB (Cond.methodLink "NineBarsModel" 379 ⟨"NineBarsModel", "waysBegin", "()V"⟩) := tbq8 238 (by decide +kernel) rfl
theorem tb_im_Md_waysBegin : mTB (Cond.instanceMethod ⟨"NineBarsModel", "waysBegin", "()V"⟩) := tbq9 0 (by decide +kernel) rfl
theorem tb_se_Md_waysBegin : mTB (Cond.selects "NineBarsModel" ⟨"NineBarsModel", "waysBegin", "()V"⟩ ⟨"NineBarsModel", "waysBegin", "()V"⟩) := tbqp 98 (by decide +kernel) rfl
theorem mv_Md_waysBegin {M : mM} {idx : Nat} (h : mTB (Cond.methodLink (mO M) idx ⟨"NineBarsModel", "waysBegin", "()V"⟩)) : mCaV M M_Md_waysBegin idx 11 := ⟨h, tb_im_Md_waysBegin, tb_se_Md_waysBegin, by decide, TX11, 40, rfl⟩
theorem d_Md_known_66 : decode prog_13_method_96_code 66 = .ok (.iconst 0, 1) := by decide +kernel
theorem d_Md_known_67 : decode prog_13_method_96_code 67 = .ok (.istore_n 2, 1) := by decide +kernel
theorem d_Md_known_68 : decode prog_13_method_96_code 68 = .ok (.iload_n 2, 1) := by decide +kernel
theorem d_Md_known_69 : decode prog_13_method_96_code 69 = .ok (.aload_n 0, 1) := by decide +kernel
theorem d_Md_known_70 : decode prog_13_method_96_code 70 = .ok (.getfield 80, 3) := by decide +kernel
theorem d_Md_known_73 : decode prog_13_method_96_code 73 = .ok (.iload_n 1, 1) := by decide +kernel
theorem d_Md_known_74 : decode prog_13_method_96_code 74 = .ok (.iaload, 1) := by decide +kernel
theorem d_Md_known_75 : decode prog_13_method_96_code 75 = .ok (.if_icmp .ge 24, 3) := by decide +kernel
theorem d_Md_known_78 : decode prog_13_method_96_code 78 = .ok (.aload_n 0, 1) := by decide +kernel
theorem d_Md_known_79 : decode prog_13_method_96_code 79 = .ok (.aload_n 0, 1) := by decide +kernel
theorem d_Md_known_80 : decode prog_13_method_96_code 80 = .ok (.getfield 83, 3) := by decide +kernel
theorem d_Md_known_83 : decode prog_13_method_96_code 83 = .ok (.bipush 40, 2) := by decide +kernel
theorem d_Md_known_85 : decode prog_13_method_96_code 85 = .ok (.iload_n 1, 1) := by decide +kernel
theorem d_Md_known_86 : decode prog_13_method_96_code 86 = .ok (.imul, 1) := by decide +kernel
theorem d_Md_known_87 : decode prog_13_method_96_code 87 = .ok (.iload_n 2, 1) := by decide +kernel
theorem d_Md_known_88 : decode prog_13_method_96_code 88 = .ok (.iadd, 1) := by decide +kernel
theorem d_Md_known_89 : decode prog_13_method_96_code 89 = .ok (.laload, 1) := by decide +kernel
theorem d_Md_known_90 : decode prog_13_method_96_code 90 = .ok (.invokevirtual 382, 3) := by decide +kernel
theorem tb_ml_Md_382 : mTB (Cond.methodLink "NineBarsModel" 382 ⟨"NineBarsModel", "waysGo", "(J)V"⟩) := tbq9 2 (by decide +kernel) rfl
theorem tb_im_Md_waysGo : mTB (Cond.instanceMethod ⟨"NineBarsModel", "waysGo", "(J)V"⟩) := tbq9 4 (by decide +kernel) rfl
theorem tb_se_Md_waysGo : mTB (Cond.selects "NineBarsModel" ⟨"NineBarsModel", "waysGo", "(J)V"⟩ ⟨"NineBarsModel", "waysGo", "(J)V"⟩) := tbqp 99 (by decide +kernel) rfl
theorem mv_Md_waysGo {M : mM} {idx : Nat} (h : mTB (Cond.methodLink (mO M) idx ⟨"NineBarsModel", "waysGo", "(J)V"⟩)) : mCaV M M_Md_waysGo idx 11 := ⟨h, tb_im_Md_waysGo, tb_se_Md_waysGo, by decide, TX11, 40, rfl⟩
theorem d_Md_known_93 : decode prog_13_method_96_code 93 = .ok (.iinc 2 1, 3) := by decide +kernel
theorem d_Md_known_96 : decode prog_13_method_96_code 96 = .ok (.goto (-28), 3) := by decide +kernel
theorem d_Md_known_99 : decode prog_13_method_96_code 99 = .ok (.aload_n 0, 1) := by decide +kernel
theorem d_Md_known_100 : decode prog_13_method_96_code 100 = .ok (.getfield 45, 3) := by decide +kernel
theorem d_Md_known_103 : decode prog_13_method_96_code 103 = .ok (.aload_n 0, 1) := by decide +kernel
theorem d_Md_known_104 : decode prog_13_method_96_code 104 = .ok (.invokevirtual 341, 3) := by decide +kernel
theorem d_Md_known_107 : decode prog_13_method_96_code 107 = .ok (.laload, 1) := by decide +kernel
theorem d_Md_known_108 : decode prog_13_method_96_code 108 = .ok (.lreturn, 1) := by decide +kernel
theorem d_Md_known_56 : decode prog_13_method_96_code 56 = .ok (.lconst 0, 1) := by decide +kernel
theorem d_Md_known_57 : decode prog_13_method_96_code 57 = .ok (.lreturn, 1) := by decide +kernel
theorem d_Md_known_35 : decode prog_13_method_96_code 35 = .ok (.aload_n 0, 1) := by decide +kernel
theorem d_Md_known_36 : decode prog_13_method_96_code 36 = .ok (.getfield 80, 3) := by decide +kernel
theorem d_Md_known_39 : decode prog_13_method_96_code 39 = .ok (.iload_n 1, 1) := by decide +kernel
theorem d_Md_known_40 : decode prog_13_method_96_code 40 = .ok (.iaload, 1) := by decide +kernel
theorem d_Md_known_41 : decode prog_13_method_96_code 41 = .ok (.ifCond .ne 8, 3) := by decide +kernel
theorem d_Md_known_44 : decode prog_13_method_96_code 44 = .ok (.aload_n 0, 1) := by decide +kernel
theorem d_Md_known_45 : decode prog_13_method_96_code 45 = .ok (.iconst 3, 1) := by decide +kernel
theorem d_Md_known_46 : decode prog_13_method_96_code 46 = .ok (.putfield 86, 3) := by decide +kernel
theorem d_Md_known_16 : decode prog_13_method_96_code 16 = .ok (.aload_n 0, 1) := by decide +kernel
theorem d_Md_known_17 : decode prog_13_method_96_code 17 = .ok (.invokevirtual 261, 3) := by decide +kernel
theorem d_Md_known_20 : decode prog_13_method_96_code 20 = .ok (.ifCond .eq 8, 3) := by decide +kernel
theorem d_Md_known_23 : decode prog_13_method_96_code 23 = .ok (.aload_n 0, 1) := by decide +kernel
theorem d_Md_known_24 : decode prog_13_method_96_code 24 = .ok (.iconst 2, 1) := by decide +kernel
theorem d_Md_known_25 : decode prog_13_method_96_code 25 = .ok (.putfield 86, 3) := by decide +kernel
theorem t_Md_known_L68 {G : mG} {r : mR} {v0 v1 : Int} {K99 : mH → Option mR} (hK99 : ∀ (h : mH) , K99 h  = some r → mJ G M_Md_known 99 [(2, v0), (9, 0), (9, 0)] [] h r) : ∀ (n : Nat) (h : mH) (v2 : Int), f_Md_known_L68 K99 v0 v1 n h v2 = some r → mJ G M_Md_known 68 [(2, v0), (0, v1), (0, v2)] [] h r := by
  intro n
  induction n with
  | zero =>
    intro h v2 hr
    rw [f_Md_known_L68] at hr
    cases hr
  | succ n hR68 =>
    intro h v2 hr
    rw [f_Md_known_L68] at hr
    refine j_iload_n (pc := 68) d_Md_known_68 rfl ?_
    refine j_aload_n (pc := 69) d_Md_known_69 rfl ?_
    refine j_getf (pc := 70) d_Md_known_70 (fd_Md_80 rfl) hr (fun hr => ?_)
    refine j_iload_n (pc := 73) d_Md_known_73 rfl ?_
    refine j_iaload (pc := 74) d_Md_known_74 hr (fun hr => ?_)
    refine j_icmp_ge (pc := 75) (tgt := 99) d_Md_known_75 hr (fun hr => ?_) (fun hr => ?_)
    · exact mJ_weak (ls' := [(2, v0), (9, 0), (9, 0)]) (mwk_s (mwk_d (mwk_d mwk_n))) (hK99 h  hr)
    · refine j_aload_n (pc := 78) d_Md_known_78 rfl ?_
      refine j_aload_n (pc := 79) d_Md_known_79 rfl ?_
      refine j_getf (pc := 80) d_Md_known_80 (fd_Md_83 rfl) hr (fun hr => ?_)
      refine j_bipush (pc := 83) d_Md_known_83 ?_
      refine j_iload_n (pc := 85) d_Md_known_85 rfl ?_
      refine j_imul (pc := 86) d_Md_known_86 ?_
      refine j_iload_n (pc := 87) d_Md_known_87 rfl ?_
      refine j_iadd (pc := 88) d_Md_known_88 ?_
      refine j_laload (pc := 89) d_Md_known_89 hr (fun hr => ?_)
      obtain ⟨ha, hr⟩ := chk_some hr
      refine j_callG (pc := 90) (stk := [(1, hpV h (hpV h v0 39) (w32 ((w32 (40 * v1)) + v2))), (2, v0)]) (as := [(2, v0), (1, hpV h (hpV h v0 39) (w32 ((w32 (40 * v1)) + v2)))]) (P := (fun v9 => [])) (tg := 3) (My := M_Md_waysGo) (mRunV (as := [(1, hpV h (hpV h v0 39) (w32 ((w32 (40 * v1)) + v2)))]) (st := []) d_Md_known_90 (mc_Md_waysGo (by decide)) rfl (mv_Md_waysGo tb_ml_Md_382) rfl (Nat.le_of_ble_eq_true rfl) ha) (fun v => rfl) rfl hr (fun r1 h1 => t_Md_waysGo _ _ _ _ h1) (fun x2 h1 hr => ?_)
      refine j_iincW (pc := 93) (L := fun x3 => [(2, v0), (0, v1), (0, x3)]) d_Md_known_93 rfl (fun _ => rfl) hr (fun x3 hr => ?_)
      refine j_goto (pc := 96) (tgt := 68) d_Md_known_96 ?_
      exact mJ_weak (ls' := [(2, v0), (0, v1), (0, x3)]) (mwk_s (mwk_s (mwk_s mwk_n))) (hR68 h1 _ hr)
theorem t_Md_known_J49 {G : mG} {r : mR} {v0 v1 : Int} {h : mH}  (hr : f_Md_known_J49 v0 v1 h = some r) : mJ G M_Md_known 49 [(2, v0), (0, v1), (9, 0)] [] h r := by
  unfold f_Md_known_J49 at hr
  refine j_aload_n (pc := 49) d_Md_known_49 rfl ?_
  refine j_getf (pc := 50) d_Md_known_50 (fd_Md_86 rfl) hr (fun hr => ?_)
  refine j_if_le (pc := 53) (tgt := 58) d_Md_known_53 hr (fun hr => ?_) (fun hr => ?_)
  · refine j_aload_n (pc := 58) d_Md_known_58 rfl ?_
    obtain ⟨ha, hr⟩ := chk_some hr
    refine j_callG (pc := 59) (stk := [(2, v0)]) (as := [(2, v0)]) (P := (fun v9 => [])) (tg := 3) (My := M_Md_laysLeads) (mRunV (as := []) (st := []) d_Md_known_59 (mc_Md_laysLeads (by decide)) rfl (mv_Md_laysLeads tb_ml_Md_376) rfl (Nat.le_of_ble_eq_true rfl) ha) (fun v => rfl) rfl hr (fun r1 h1 => t_Md_laysLeads _ _ _ h1) (fun x2 h1 hr => ?_)
    refine j_aload_n (pc := 62) d_Md_known_62 rfl ?_
    obtain ⟨ha, hr⟩ := chk_some hr
    refine j_callG (pc := 63) (stk := [(2, v0)]) (as := [(2, v0)]) (P := (fun v9 => [])) (tg := 3) (My := M_Md_waysBegin) (mRunV (as := []) (st := []) d_Md_known_63 (mc_Md_waysBegin (by decide)) rfl (mv_Md_waysBegin tb_ml_Md_379) rfl (Nat.le_of_ble_eq_true rfl) ha) (fun v => rfl) rfl hr (fun r1 h1 => t_Md_waysBegin _ _ _ h1) (fun x4 h3 hr => ?_)
    refine j_iconst (pc := 66) d_Md_known_66 ?_
    refine j_istore_n (pc := 67) (ls' := [(2, v0), (0, v1), (0, 0)]) d_Md_known_67 rfl ?_
    refine mJ_weak (ls' := [(2, v0), (0, v1), (0, 0)]) (mwk_s (mwk_s (mwk_s mwk_n))) (t_Md_known_L68 (fun h5  hr => ?_) _ _ _ hr)
    · refine j_aload_n (pc := 99) d_Md_known_99 rfl ?_
      refine j_getf (pc := 100) d_Md_known_100 (fd_Md_45 rfl) hr (fun hr => ?_)
      refine j_aload_n (pc := 103) d_Md_known_103 rfl ?_
      obtain ⟨ha, hr⟩ := chk_some hr
      refine j_callG (pc := 104) (stk := [(2, v0), (2, hpV h5 v0 25)]) (as := [(2, v0)]) (P := (fun v9 => ((0 : Nat), v9) :: [(2, hpV h5 v0 25)])) (tg := 0) (My := M_Md_openStand) (mRunV (as := []) (st := [(2, hpV h5 v0 25)]) d_Md_known_104 (mc_Md_openStand (by decide)) rfl (mv_Md_openStand tb_ml_Md_341) rfl (Nat.le_of_ble_eq_true rfl) ha) (fun v => rfl) rfl hr (fun r1 h1 => t_Md_openStand _ _ _ h1) (fun x7 h6 hr => ?_)
      refine j_laload (pc := 107) d_Md_known_107 hr (fun hr => ?_)
      exact j_lret (pc := 108) d_Md_known_108 rfl hr
  · refine j_lconst (pc := 56) (z := 0) d_Md_known_56 ?_
    exact j_lret (pc := 57) d_Md_known_57 rfl hr
theorem t_Md_known_J28 {G : mG} {r : mR} {v0 v1 : Int} {h : mH}  (hr : f_Md_known_J28 v0 v1 h = some r) : mJ G M_Md_known 28 [(2, v0), (0, v1), (9, 0)] [] h r := by
  unfold f_Md_known_J28 at hr
  refine j_aload_n (pc := 28) d_Md_known_28 rfl ?_
  refine j_getf (pc := 29) d_Md_known_29 (fd_Md_86 rfl) hr (fun hr => ?_)
  refine j_if_ne (pc := 32) (tgt := 49) d_Md_known_32 hr (fun hr => ?_) (fun hr => ?_)
  · exact mJ_weak (ls' := [(2, v0), (0, v1), (9, 0)]) (mwk_s (mwk_s (mwk_s mwk_n))) (t_Md_known_J49  hr)
  · refine j_aload_n (pc := 35) d_Md_known_35 rfl ?_
    refine j_getf (pc := 36) d_Md_known_36 (fd_Md_80 rfl) hr (fun hr => ?_)
    refine j_iload_n (pc := 39) d_Md_known_39 rfl ?_
    refine j_iaload (pc := 40) d_Md_known_40 hr (fun hr => ?_)
    refine j_if_ne (pc := 41) (tgt := 49) d_Md_known_41 hr (fun hr => ?_) (fun hr => ?_)
    · exact mJ_weak (ls' := [(2, v0), (0, v1), (9, 0)]) (mwk_s (mwk_s (mwk_s mwk_n))) (t_Md_known_J49  hr)
    · refine j_aload_n (pc := 44) d_Md_known_44 rfl ?_
      refine j_iconst (pc := 45) d_Md_known_45 ?_
      refine j_puti (pc := 46) d_Md_known_46 (fd_Md_86 rfl) (⟨_, _, _, rfl, Or.inl rfl, rfl⟩ : mFldW M_Md_known 86 11 5 .int) hr (fun h1 hr => ?_)
      exact mJ_weak (ls' := [(2, v0), (0, v1), (9, 0)]) (mwk_s (mwk_s (mwk_s mwk_n))) (t_Md_known_J49  hr)
theorem t_Md_known {G : mG} (h : mH) (v0 v1 : Int) (r : mR) (hr : f_Md_known h v0 v1 = some r) : mJM G M_Md_known [(2, v0), (0, v1)] h r := by
  refine mJM_of (L := [(2, v0), (0, v1), (9, 0)]) rfl rfl rfl (Nat.le_of_ble_eq_true rfl) ?_
  unfold f_Md_known at hr
  refine j_aload_n (pc := 0) d_Md_known_0 rfl ?_
  refine j_aload_n (pc := 1) d_Md_known_1 rfl ?_
  refine j_iload_n (pc := 2) d_Md_known_2 rfl ?_
  obtain ⟨ha, hr⟩ := chk_some hr
  refine j_callG (pc := 3) (stk := [(0, v1), (2, v0), (2, v0)]) (as := [(2, v0), (0, v1)]) (P := (fun v9 => ((0 : Nat), v9) :: [(2, v0)])) (tg := 0) (My := M_Md_trayFault) (mRunV (as := [(0, v1)]) (st := [(2, v0)]) d_Md_known_3 (mc_Md_trayFault (by decide)) rfl (mv_Md_trayFault tb_ml_Md_296) rfl (Nat.le_of_ble_eq_true rfl) ha) (fun v => rfl) rfl hr (fun r1 h1 => t_Md_trayFault _ _ _ _ h1) (fun x2 h1 hr => ?_)
  refine j_puti (pc := 6) d_Md_known_6 (fd_Md_86 rfl) (⟨_, _, _, rfl, Or.inl rfl, rfl⟩ : mFldW M_Md_known 86 11 5 .int) hr (fun h3 hr => ?_)
  refine j_aload_n (pc := 9) d_Md_known_9 rfl ?_
  refine j_getf (pc := 10) d_Md_known_10 (fd_Md_86 rfl) hr (fun hr => ?_)
  refine j_if_ne (pc := 13) (tgt := 28) d_Md_known_13 hr (fun hr => ?_) (fun hr => ?_)
  · exact mJ_weak (ls' := [(2, v0), (0, v1), (9, 0)]) (mwk_s (mwk_s (mwk_s mwk_n))) (t_Md_known_J28  hr)
  · refine j_aload_n (pc := 16) d_Md_known_16 rfl ?_
    obtain ⟨ha, hr⟩ := chk_some hr
    refine j_callG (pc := 17) (stk := [(2, v0)]) (as := [(2, v0)]) (P := (fun v9 => ((0 : Nat), v9) :: [])) (tg := 0) (My := M_Md_isSpent) (mRunV (as := []) (st := []) d_Md_known_17 (mc_Md_isSpent (by decide)) rfl (mv_Md_isSpent tb_ml_Md_261) rfl (Nat.le_of_ble_eq_true rfl) ha) (fun v => rfl) rfl hr (fun r1 h1 => t_Md_isSpent _ _ _ h1) (fun x5 h4 hr => ?_)
    refine j_if_eq (pc := 20) (tgt := 28) d_Md_known_20 hr (fun hr => ?_) (fun hr => ?_)
    · exact mJ_weak (ls' := [(2, v0), (0, v1), (9, 0)]) (mwk_s (mwk_s (mwk_s mwk_n))) (t_Md_known_J28  hr)
    · refine j_aload_n (pc := 23) d_Md_known_23 rfl ?_
      refine j_iconst (pc := 24) d_Md_known_24 ?_
      refine j_puti (pc := 25) d_Md_known_25 (fd_Md_86 rfl) (⟨_, _, _, rfl, Or.inl rfl, rfl⟩ : mFldW M_Md_known 86 11 5 .int) hr (fun h6 hr => ?_)
      exact mJ_weak (ls' := [(2, v0), (0, v1), (9, 0)]) (mwk_s (mwk_s (mwk_s mwk_n))) (t_Md_known_J28  hr)
