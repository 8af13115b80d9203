def M_Nb_may : mM := ("NineBars", ⟨"NineBars", "may", "(IZ)I"⟩, prog_1_method_10_code, 3, some .int, [], 9)
theorem tb_co_Nb_may : mTB (Cond.code ⟨"NineBars", "may", "(IZ)I"⟩ prog_1_method_10_code 3 (some .int)) := tbq3 14 (by decide +kernel) rfl
theorem mc_Nb_may {M : mM} (hd : 9 < mDp M) : mCal M M_Nb_may 2 := ⟨tb_co_Nb_may, tb_in_NineBars, ⟨by decide +kernel, by decide +kernel⟩, by decide +kernel, hd, by decide⟩
theorem d_Nb_may_0 : decode prog_1_method_10_code 0 = .ok (.aload_n 0, 1) := by decide +kernel
theorem d_Nb_may_1 : decode prog_1_method_10_code 1 = .ok (.getfield 27, 3) := by decide +kernel
theorem d_Nb_may_4 : decode prog_1_method_10_code 4 = .ok (.iload_n 1, 1) := by decide +kernel
theorem d_Nb_may_5 : decode prog_1_method_10_code 5 = .ok (.iload_n 2, 1) := by decide +kernel
theorem d_Nb_may_6 : decode prog_1_method_10_code 6 = .ok (.invokevirtual 215, 3) := by decide +kernel
theorem tb_ml_Nb_215 : mTB (Cond.methodLink "NineBars" 215 ⟨"NineBars$Box", "whyNot", "(IZ)I"⟩) := tbq3 15 (by decide +kernel) rfl
theorem tb_im_Box_whyNot : mTB (Cond.instanceMethod ⟨"NineBars$Box", "whyNot", "(IZ)I"⟩) := tbq3 16 (by decide +kernel) rfl
theorem tb_se_Box_whyNot : mTB (Cond.selects "NineBars$Box" ⟨"NineBars$Box", "whyNot", "(IZ)I"⟩ ⟨"NineBars$Box", "whyNot", "(IZ)I"⟩) := tbq3 17 (by decide +kernel) rfl
theorem mv_Box_whyNot {M : mM} {idx : Nat} (h : mTB (Cond.methodLink (mO M) idx ⟨"NineBars$Box", "whyNot", "(IZ)I"⟩)) : mCaV M M_Box_whyNot idx 0 := ⟨h, tb_im_Box_whyNot, tb_se_Box_whyNot, by decide, TX0, 18, rfl⟩
theorem d_Nb_may_9 : decode prog_1_method_10_code 9 = .ok (.ireturn, 1) := by decide +kernel
theorem t_Nb_may {G : mG} (h : mH) (v0 v1 v2 : Int) (r : mR) (hr : f_Nb_may h v0 v1 v2 = some r) : mJM G M_Nb_may [(2, v0), (0, v1), (0, v2)] h r := by
  refine mJM_of (L := [(2, v0), (0, v1), (0, v2)]) rfl rfl rfl (Nat.le_of_ble_eq_true rfl) ?_
  unfold f_Nb_may at hr
  refine j_aload_n (pc := 0) d_Nb_may_0 rfl ?_
  refine j_getf (pc := 1) d_Nb_may_1 (fd_Nb_27 rfl) hr (fun hr => ?_)
  refine j_iload_n (pc := 4) d_Nb_may_4 rfl ?_
  refine j_iload_n (pc := 5) d_Nb_may_5 rfl ?_
  obtain ⟨ha, hr⟩ := chk_some hr
  refine j_callG (pc := 6) (stk := [(0, v2), (0, v1), (2, hpV h v0 6)]) (as := [(2, hpV h v0 6), (0, v1), (0, v2)]) (P := (fun v9 => ((0 : Nat), v9) :: [])) (tg := 0) (My := M_Box_whyNot) (mRunV (as := [(0, v1), (0, v2)]) (st := []) d_Nb_may_6 (mc_Box_whyNot (by decide)) rfl (mv_Box_whyNot tb_ml_Nb_215) rfl (Nat.le_of_ble_eq_true rfl) ha) (fun v => rfl) rfl hr (fun r1 h1 => t_Box_whyNot _ _ _ _ _ h1) (fun x2 h1 hr => ?_)
  exact j_iret (pc := 9) d_Nb_may_9 rfl hr
def M_Box_makeStep : mM := ("NineBars$Box", ⟨"NineBars$Box", "makeStep", "(IZ)I"⟩, prog_2_method_23_code, 4, some .int, [], 9)
theorem tb_co_Box_makeStep : mTB (Cond.code ⟨"NineBars$Box", "makeStep", "(IZ)I"⟩ prog_2_method_23_code 4 (some .int)) := tbq3 45 (by decide +kernel) rfl
theorem mc_Box_makeStep {M : mM} (hd : 9 < mDp M) : mCal M M_Box_makeStep 2 := ⟨tb_co_Box_makeStep, tb_in_NineBars_Box, ⟨by decide +kernel, by decide +kernel⟩, by decide +kernel, hd, by decide⟩
theorem d_Box_makeStep_0 : decode prog_2_method_23_code 0 = .ok (.aload_n 0, 1) := by decide +kernel
theorem d_Box_makeStep_1 : decode prog_2_method_23_code 1 = .ok (.iload_n 1, 1) := by decide +kernel
theorem d_Box_makeStep_2 : decode prog_2_method_23_code 2 = .ok (.iload_n 2, 1) := by decide +kernel
theorem d_Box_makeStep_3 : decode prog_2_method_23_code 3 = .ok (.invokevirtual 92, 3) := by decide +kernel
theorem tb_ml_Box_92 : mTB (Cond.methodLink "NineBars$Box" 92 ⟨"NineBars$Box", "whyNot", "(IZ)I"⟩) := tbq3 46 (by decide +kernel) rfl
theorem d_Box_makeStep_6 : decode prog_2_method_23_code 6 = .ok (.istore_n 3, 1) := by decide +kernel
theorem d_Box_makeStep_7 : decode prog_2_method_23_code 7 = .ok (.iload_n 3, 1) := by decide +kernel
theorem d_Box_makeStep_8 : decode prog_2_method_23_code 8 = .ok (.ifCond .ne 43, 3) := by decide +kernel
theorem d_Box_makeStep_51 : decode prog_2_method_23_code 51 = .ok (.iload_n 3, 1) := by decide +kernel
theorem d_Box_makeStep_52 : decode prog_2_method_23_code 52 = .ok (.ireturn, 1) := by decide +kernel
theorem d_Box_makeStep_11 : decode prog_2_method_23_code 11 = .ok (.iload_n 1, 1) := by decide +kernel
theorem d_Box_makeStep_12 : decode prog_2_method_23_code 12 = .ok (.ifCond .lt 39, 3) := by decide +kernel
theorem d_Box_makeStep_15 : decode prog_2_method_23_code 15 = .ok (.iload_n 1, 1) := by decide +kernel
theorem d_Box_makeStep_16 : decode prog_2_method_23_code 16 = .ok (.aload_n 0, 1) := by decide +kernel
theorem d_Box_makeStep_17 : decode prog_2_method_23_code 17 = .ok (.getfield 52, 3) := by decide +kernel
theorem d_Box_makeStep_20 : decode prog_2_method_23_code 20 = .ok (.if_icmp .ge 31, 3) := by decide +kernel
theorem d_Box_makeStep_23 : decode prog_2_method_23_code 23 = .ok (.aload_n 0, 1) := by decide +kernel
theorem d_Box_makeStep_24 : decode prog_2_method_23_code 24 = .ok (.getfield 21, 3) := by decide +kernel
theorem d_Box_makeStep_27 : decode prog_2_method_23_code 27 = .ok (.iload_n 1, 1) := by decide +kernel
theorem d_Box_makeStep_28 : decode prog_2_method_23_code 28 = .ok (.dup2, 1) := by decide +kernel
theorem d_Box_makeStep_29 : decode prog_2_method_23_code 29 = .ok (.iaload, 1) := by decide +kernel
theorem d_Box_makeStep_30 : decode prog_2_method_23_code 30 = .ok (.iload_n 2, 1) := by decide +kernel
theorem d_Box_makeStep_31 : decode prog_2_method_23_code 31 = .ok (.ifCond .eq 7, 3) := by decide +kernel
theorem d_Box_makeStep_38 : decode prog_2_method_23_code 38 = .ok (.iconst (-1), 1) := by decide +kernel
theorem d_Box_makeStep_39 : decode prog_2_method_23_code 39 = .ok (.iadd, 1) := by decide +kernel
theorem d_Box_makeStep_40 : decode prog_2_method_23_code 40 = .ok (.iastore, 1) := by decide +kernel
theorem d_Box_makeStep_41 : decode prog_2_method_23_code 41 = .ok (.aload_n 0, 1) := by decide +kernel
theorem d_Box_makeStep_42 : decode prog_2_method_23_code 42 = .ok (.getfield 24, 3) := by decide +kernel
theorem d_Box_makeStep_45 : decode prog_2_method_23_code 45 = .ok (.iload_n 1, 1) := by decide +kernel
theorem d_Box_makeStep_46 : decode prog_2_method_23_code 46 = .ok (.dup2, 1) := by decide +kernel
theorem d_Box_makeStep_47 : decode prog_2_method_23_code 47 = .ok (.iaload, 1) := by decide +kernel
theorem d_Box_makeStep_48 : decode prog_2_method_23_code 48 = .ok (.iconst 1, 1) := by decide +kernel
theorem d_Box_makeStep_49 : decode prog_2_method_23_code 49 = .ok (.iadd, 1) := by decide +kernel
theorem d_Box_makeStep_50 : decode prog_2_method_23_code 50 = .ok (.iastore, 1) := by decide +kernel
theorem d_Box_makeStep_34 : decode prog_2_method_23_code 34 = .ok (.iconst 1, 1) := by decide +kernel
theorem d_Box_makeStep_35 : decode prog_2_method_23_code 35 = .ok (.goto 4, 3) := by decide +kernel
theorem t_Box_makeStep_J39 {G : mG} {r : mR} {v0 v1 v3 s0 s1 s2 s3 : Int} {h : mH}  (hr : f_Box_makeStep_J39 v0 v1 v3 s0 s1 s2 s3 h = some r) : mJ G M_Box_makeStep 39 [(2, v0), (0, v1), (9, 0), (0, v3)] [(0, s3), (0, s2), (0, s1), (2, s0)] h r := by
  unfold f_Box_makeStep_J39 at hr
  refine j_iadd (pc := 39) d_Box_makeStep_39 ?_
  refine j_iastore (pc := 40) d_Box_makeStep_40 hr (fun h1 hr => ?_)
  refine j_aload_n (pc := 41) d_Box_makeStep_41 rfl ?_
  refine j_getf (pc := 42) d_Box_makeStep_42 (fd_Box_24 rfl) hr (fun hr => ?_)
  refine j_iload_n (pc := 45) d_Box_makeStep_45 rfl ?_
  refine j_dup2 (pc := 46) d_Box_makeStep_46 ?_
  refine j_iaload (pc := 47) d_Box_makeStep_47 hr (fun hr => ?_)
  refine j_iconst (pc := 48) d_Box_makeStep_48 ?_
  refine j_iadd (pc := 49) d_Box_makeStep_49 ?_
  refine j_iastore (pc := 50) d_Box_makeStep_50 hr (fun h2 hr => ?_)
  refine j_iload_n (pc := 51) d_Box_makeStep_51 rfl ?_
  exact j_iret (pc := 52) d_Box_makeStep_52 rfl hr
theorem t_Box_makeStep {G : mG} (h : mH) (v0 v1 v2 : Int) (r : mR) (hr : f_Box_makeStep h v0 v1 v2 = some r) : mJM G M_Box_makeStep [(2, v0), (0, v1), (0, v2)] h r := by
  refine mJM_of (L := [(2, v0), (0, v1), (0, v2), (9, 0)]) rfl rfl rfl (Nat.le_of_ble_eq_true rfl) ?_
  unfold f_Box_makeStep at hr
  refine j_aload_n (pc := 0) d_Box_makeStep_0 rfl ?_
  refine j_iload_n (pc := 1) d_Box_makeStep_1 rfl ?_
  refine j_iload_n (pc := 2) d_Box_makeStep_2 rfl ?_
  obtain ⟨ha, hr⟩ := chk_some hr
  refine j_callG (pc := 3) (stk := [(0, v2), (0, v1), (2, v0)]) (as := [(2, v0), (0, v1), (0, v2)]) (P := (fun v9 => ((0 : Nat), v9) :: [])) (tg := 0) (My := M_Box_whyNot) (mRunV (as := [(0, v1), (0, v2)]) (st := []) d_Box_makeStep_3 (mc_Box_whyNot (by decide)) rfl (mv_Box_whyNot tb_ml_Box_92) rfl (Nat.le_of_ble_eq_true rfl) ha) (fun v => rfl) rfl hr (fun r1 h1 => t_Box_whyNot _ _ _ _ _ h1) (fun x2 h1 hr => ?_)
  refine j_istore_n (pc := 6) (ls' := [(2, v0), (0, v1), (0, v2), (0, x2)]) d_Box_makeStep_6 rfl ?_
  refine j_iload_n (pc := 7) d_Box_makeStep_7 rfl ?_
  refine j_if_ne (pc := 8) (tgt := 51) d_Box_makeStep_8 hr (fun hr => ?_) (fun hr => ?_)
  · refine j_iload_n (pc := 51) d_Box_makeStep_51 rfl ?_
    exact j_iret (pc := 52) d_Box_makeStep_52 rfl hr
  · refine j_iload_n (pc := 11) d_Box_makeStep_11 rfl ?_
    refine j_if_lt (pc := 12) (tgt := 51) d_Box_makeStep_12 hr (fun hr => ?_) (fun hr => ?_)
    · refine j_iload_n (pc := 51) d_Box_makeStep_51 rfl ?_
      exact j_iret (pc := 52) d_Box_makeStep_52 rfl hr
    · refine j_iload_n (pc := 15) d_Box_makeStep_15 rfl ?_
      refine j_aload_n (pc := 16) d_Box_makeStep_16 rfl ?_
      refine j_getf (pc := 17) d_Box_makeStep_17 (fd_Box_52 rfl) hr (fun hr => ?_)
      refine j_icmp_ge (pc := 20) (tgt := 51) d_Box_makeStep_20 hr (fun hr => ?_) (fun hr => ?_)
      · refine j_iload_n (pc := 51) d_Box_makeStep_51 rfl ?_
        exact j_iret (pc := 52) d_Box_makeStep_52 rfl hr
      · refine j_aload_n (pc := 23) d_Box_makeStep_23 rfl ?_
        refine j_getf (pc := 24) d_Box_makeStep_24 (fd_Box_21 rfl) hr (fun hr => ?_)
        refine j_iload_n (pc := 27) d_Box_makeStep_27 rfl ?_
        refine j_dup2 (pc := 28) d_Box_makeStep_28 ?_
        refine j_iaload (pc := 29) d_Box_makeStep_29 hr (fun hr => ?_)
        refine j_iload_n (pc := 30) d_Box_makeStep_30 rfl ?_
        refine j_if_eq (pc := 31) (tgt := 38) d_Box_makeStep_31 hr (fun hr => ?_) (fun hr => ?_)
        · refine j_iconst (pc := 38) d_Box_makeStep_38 ?_
          exact mJ_weak (ls' := [(2, v0), (0, v1), (9, 0), (0, x2)]) (mwk_s (mwk_s (mwk_d (mwk_s mwk_n)))) (t_Box_makeStep_J39  hr)
        · refine j_iconst (pc := 34) d_Box_makeStep_34 ?_
          refine j_goto (pc := 35) (tgt := 39) d_Box_makeStep_35 ?_
          exact mJ_weak (ls' := [(2, v0), (0, v1), (9, 0), (0, x2)]) (mwk_s (mwk_s (mwk_d (mwk_s mwk_n)))) (t_Box_makeStep_J39  hr)
def M_Nb_step : mM := ("NineBars", ⟨"NineBars", "step", "(IZ)I"⟩, prog_1_method_11_code, 4, some .int, [], 11)
theorem tb_co_Nb_step : mTB (Cond.code ⟨"NineBars", "step", "(IZ)I"⟩ prog_1_method_11_code 4 (some .int)) := tbq3 41 (by decide +kernel) rfl
theorem mc_Nb_step {M : mM} (hd : 11 < mDp M) : mCal M M_Nb_step 2 := ⟨tb_co_Nb_step, tb_in_NineBars, ⟨by decide +kernel, by decide +kernel⟩, by decide +kernel, hd, by decide⟩
theorem d_Nb_step_0 : decode prog_1_method_11_code 0 = .ok (.aload_n 0, 1) := by decide +kernel
theorem d_Nb_step_1 : decode prog_1_method_11_code 1 = .ok (.getfield 27, 3) := by decide +kernel
theorem d_Nb_step_4 : decode prog_1_method_11_code 4 = .ok (.iload_n 1, 1) := by decide +kernel
theorem d_Nb_step_5 : decode prog_1_method_11_code 5 = .ok (.iload_n 2, 1) := by decide +kernel
theorem d_Nb_step_6 : decode prog_1_method_11_code 6 = .ok (.invokevirtual 219, 3) := by decide +kernel
theorem tb_ml_Nb_219 : mTB (Cond.methodLink "NineBars" 219 ⟨"NineBars$Box", "makeStep", "(IZ)I"⟩) := tbq3 42 (by decide +kernel) rfl
theorem tb_im_Box_makeStep : mTB (Cond.instanceMethod ⟨"NineBars$Box", "makeStep", "(IZ)I"⟩) := tbq3 43 (by decide +kernel) rfl
theorem tb_se_Box_makeStep : mTB (Cond.selects "NineBars$Box" ⟨"NineBars$Box", "makeStep", "(IZ)I"⟩ ⟨"NineBars$Box", "makeStep", "(IZ)I"⟩) := tbq3 44 (by decide +kernel) rfl
theorem mv_Box_makeStep {M : mM} {idx : Nat} (h : mTB (Cond.methodLink (mO M) idx ⟨"NineBars$Box", "makeStep", "(IZ)I"⟩)) : mCaV M M_Box_makeStep idx 0 := ⟨h, tb_im_Box_makeStep, tb_se_Box_makeStep, by decide, TX0, 18, rfl⟩
theorem d_Nb_step_9 : decode prog_1_method_11_code 9 = .ok (.istore_n 3, 1) := by decide +kernel
theorem d_Nb_step_10 : decode prog_1_method_11_code 10 = .ok (.iload_n 3, 1) := by decide +kernel
theorem d_Nb_step_11 : decode prog_1_method_11_code 11 = .ok (.ifCond .ne 30, 3) := by decide +kernel
theorem d_Nb_step_41 : decode prog_1_method_11_code 41 = .ok (.iload_n 3, 1) := by decide +kernel
theorem d_Nb_step_42 : decode prog_1_method_11_code 42 = .ok (.ineg, 1) := by decide +kernel
theorem d_Nb_step_43 : decode prog_1_method_11_code 43 = .ok (.ireturn, 1) := by decide +kernel
theorem d_Nb_step_14 : decode prog_1_method_11_code 14 = .ok (.iload_n 1, 1) := by decide +kernel
theorem d_Nb_step_15 : decode prog_1_method_11_code 15 = .ok (.ifCond .lt 26, 3) := by decide +kernel
theorem d_Nb_step_18 : decode prog_1_method_11_code 18 = .ok (.iload_n 1, 1) := by decide +kernel
theorem d_Nb_step_19 : decode prog_1_method_11_code 19 = .ok (.aload_n 0, 1) := by decide +kernel
theorem d_Nb_step_20 : decode prog_1_method_11_code 20 = .ok (.getfield 27, 3) := by decide +kernel
theorem d_Nb_step_23 : decode prog_1_method_11_code 23 = .ok (.getfield 222, 3) := by decide +kernel
theorem d_Nb_step_26 : decode prog_1_method_11_code 26 = .ok (.if_icmp .ge 15, 3) := by decide +kernel
theorem d_Nb_step_29 : decode prog_1_method_11_code 29 = .ok (.aload_n 0, 1) := by decide +kernel
theorem d_Nb_step_30 : decode prog_1_method_11_code 30 = .ok (.getfield 27, 3) := by decide +kernel
theorem d_Nb_step_33 : decode prog_1_method_11_code 33 = .ok (.getfield 149, 3) := by decide +kernel
theorem d_Nb_step_36 : decode prog_1_method_11_code 36 = .ok (.iload_n 1, 1) := by decide +kernel
theorem d_Nb_step_37 : decode prog_1_method_11_code 37 = .ok (.iaload, 1) := by decide +kernel
theorem d_Nb_step_38 : decode prog_1_method_11_code 38 = .ok (.goto 5, 3) := by decide +kernel
theorem t_Nb_step_J41 {G : mG} {r : mR} {v3 : Int} {h : mH}  (hr : f_Nb_step_J41 v3 h = some r) : mJ G M_Nb_step 41 [(9, 0), (9, 0), (9, 0), (0, v3)] [] h r := by
  unfold f_Nb_step_J41 at hr
  refine j_iload_n (pc := 41) d_Nb_step_41 rfl ?_
  refine j_ineg (pc := 42) d_Nb_step_42 ?_
  exact j_iret (pc := 43) d_Nb_step_43 rfl hr
theorem t_Nb_step {G : mG} (h : mH) (v0 v1 v2 : Int) (r : mR) (hr : f_Nb_step h v0 v1 v2 = some r) : mJM G M_Nb_step [(2, v0), (0, v1), (0, v2)] h r := by
  refine mJM_of (L := [(2, v0), (0, v1), (0, v2), (9, 0)]) rfl rfl rfl (Nat.le_of_ble_eq_true rfl) ?_
  unfold f_Nb_step at hr
  refine j_aload_n (pc := 0) d_Nb_step_0 rfl ?_
  refine j_getf (pc := 1) d_Nb_step_1 (fd_Nb_27 rfl) hr (fun hr => ?_)
  refine j_iload_n (pc := 4) d_Nb_step_4 rfl ?_
  refine j_iload_n (pc := 5) d_Nb_step_5 rfl ?_
  obtain ⟨ha, hr⟩ := chk_some hr
  refine j_callG (pc := 6) (stk := [(0, v2), (0, v1), (2, hpV h v0 6)]) (as := [(2, hpV h v0 6), (0, v1), (0, v2)]) (P := (fun v9 => ((0 : Nat), v9) :: [])) (tg := 0) (My := M_Box_makeStep) (mRunV (as := [(0, v1), (0, v2)]) (st := []) d_Nb_step_6 (mc_Box_makeStep (by decide)) rfl (mv_Box_makeStep tb_ml_Nb_219) rfl (Nat.le_of_ble_eq_true rfl) ha) (fun v => rfl) rfl hr (fun r1 h1 => t_Box_makeStep _ _ _ _ _ h1) (fun x2 h1 hr => ?_)
  refine j_istore_n (pc := 9) (ls' := [(2, v0), (0, v1), (0, v2), (0, x2)]) d_Nb_step_9 rfl ?_
  refine j_iload_n (pc := 10) d_Nb_step_10 rfl ?_
  refine j_if_ne (pc := 11) (tgt := 41) d_Nb_step_11 hr (fun hr => ?_) (fun hr => ?_)
  · exact mJ_weak (ls' := [(9, 0), (9, 0), (9, 0), (0, x2)]) (mwk_d (mwk_d (mwk_d (mwk_s mwk_n)))) (t_Nb_step_J41  hr)
  · refine j_iload_n (pc := 14) d_Nb_step_14 rfl ?_
    refine j_if_lt (pc := 15) (tgt := 41) d_Nb_step_15 hr (fun hr => ?_) (fun hr => ?_)
    · exact mJ_weak (ls' := [(9, 0), (9, 0), (9, 0), (0, x2)]) (mwk_d (mwk_d (mwk_d (mwk_s mwk_n)))) (t_Nb_step_J41  hr)
    · refine j_iload_n (pc := 18) d_Nb_step_18 rfl ?_
      refine j_aload_n (pc := 19) d_Nb_step_19 rfl ?_
      refine j_getf (pc := 20) d_Nb_step_20 (fd_Nb_27 rfl) hr (fun hr => ?_)
      refine j_getf (pc := 23) d_Nb_step_23 (fd_Nb_222 rfl) hr (fun hr => ?_)
      refine j_icmp_ge (pc := 26) (tgt := 41) d_Nb_step_26 hr (fun hr => ?_) (fun hr => ?_)
      · exact mJ_weak (ls' := [(9, 0), (9, 0), (9, 0), (0, x2)]) (mwk_d (mwk_d (mwk_d (mwk_s mwk_n)))) (t_Nb_step_J41  hr)
      · refine j_aload_n (pc := 29) d_Nb_step_29 rfl ?_
        refine j_getf (pc := 30) d_Nb_step_30 (fd_Nb_27 rfl) hr (fun hr => ?_)
        refine j_getf (pc := 33) d_Nb_step_33 (fd_Nb_149 rfl) hr (fun hr => ?_)
        refine j_iload_n (pc := 36) d_Nb_step_36 rfl ?_
        refine j_iaload (pc := 37) d_Nb_step_37 hr (fun hr => ?_)
        refine j_goto (pc := 38) (tgt := 43) d_Nb_step_38 ?_
        exact j_iret (pc := 43) d_Nb_step_43 rfl hr
def M_Box_letsGoElsewhere : mM := ("NineBars$Box", ⟨"NineBars$Box", "letsGoElsewhere", "(IIZ)Z"⟩, prog_2_method_26_code, 7, some .boolean, [], 9)
theorem tb_co_Box_letsGoElsewhere : mTB (Cond.code ⟨"NineBars$Box", "letsGoElsewhere", "(IIZ)Z"⟩ prog_2_method_26_code 7 (some .boolean)) := tbq3 58 (by decide +kernel) rfl
theorem mc_Box_letsGoElsewhere {M : mM} (hd : 9 < mDp M) : mCal M M_Box_letsGoElsewhere 3 := ⟨tb_co_Box_letsGoElsewhere, tb_in_NineBars_Box, ⟨by decide +kernel, by decide +kernel⟩, by decide +kernel, hd, by decide⟩
theorem d_Box_letsGoElsewhere_0 : decode prog_2_method_26_code 0 = .ok (.aload_n 0, 1) := by decide +kernel
theorem d_Box_letsGoElsewhere_1 : decode prog_2_method_26_code 1 = .ok (.getfield 21, 3) := by decide +kernel
theorem d_Box_letsGoElsewhere_4 : decode prog_2_method_26_code 4 = .ok (.iload_n 1, 1) := by decide +kernel
theorem d_Box_letsGoElsewhere_5 : decode prog_2_method_26_code 5 = .ok (.iaload, 1) := by decide +kernel
theorem d_Box_letsGoElsewhere_6 : decode prog_2_method_26_code 6 = .ok (.istore 4, 2) := by decide +kernel
theorem d_Box_letsGoElsewhere_8 : decode prog_2_method_26_code 8 = .ok (.iconst 0, 1) := by decide +kernel
theorem d_Box_letsGoElsewhere_9 : decode prog_2_method_26_code 9 = .ok (.istore 5, 2) := by decide +kernel
theorem d_Box_letsGoElsewhere_11 : decode prog_2_method_26_code 11 = .ok (.iconst 0, 1) := by decide +kernel
theorem d_Box_letsGoElsewhere_12 : decode prog_2_method_26_code 12 = .ok (.istore 6, 2) := by decide +kernel
theorem d_Box_letsGoElsewhere_14 : decode prog_2_method_26_code 14 = .ok (.iload 6, 2) := by decide +kernel
theorem d_Box_letsGoElsewhere_16 : decode prog_2_method_26_code 16 = .ok (.aload_n 0, 1) := by decide +kernel
theorem d_Box_letsGoElsewhere_17 : decode prog_2_method_26_code 17 = .ok (.getfield 9, 3) := by decide +kernel
theorem d_Box_letsGoElsewhere_20 : decode prog_2_method_26_code 20 = .ok (.iload_n 1, 1) := by decide +kernel
theorem d_Box_letsGoElsewhere_21 : decode prog_2_method_26_code 21 = .ok (.iaload, 1) := by decide +kernel
theorem d_Box_letsGoElsewhere_22 : decode prog_2_method_26_code 22 = .ok (.if_icmp .ge 45, 3) := by decide +kernel
theorem d_Box_letsGoElsewhere_25 : decode prog_2_method_26_code 25 = .ok (.iload 5, 2) := by decide +kernel
theorem d_Box_letsGoElsewhere_27 : decode prog_2_method_26_code 27 = .ok (.ifCond .ne 40, 3) := by decide +kernel
theorem d_Box_letsGoElsewhere_30 : decode prog_2_method_26_code 30 = .ok (.aload_n 0, 1) := by decide +kernel
theorem d_Box_letsGoElsewhere_31 : decode prog_2_method_26_code 31 = .ok (.getfield 21, 3) := by decide +kernel
theorem d_Box_letsGoElsewhere_34 : decode prog_2_method_26_code 34 = .ok (.iload_n 1, 1) := by decide +kernel
theorem d_Box_letsGoElsewhere_35 : decode prog_2_method_26_code 35 = .ok (.iload 6, 2) := by decide +kernel
theorem d_Box_letsGoElsewhere_37 : decode prog_2_method_26_code 37 = .ok (.iastore, 1) := by decide +kernel
theorem d_Box_letsGoElsewhere_38 : decode prog_2_method_26_code 38 = .ok (.iload 6, 2) := by decide +kernel
theorem d_Box_letsGoElsewhere_40 : decode prog_2_method_26_code 40 = .ok (.iload 4, 2) := by decide +kernel
theorem d_Box_letsGoElsewhere_42 : decode prog_2_method_26_code 42 = .ok (.if_icmp .eq 16, 3) := by decide +kernel
theorem d_Box_letsGoElsewhere_58 : decode prog_2_method_26_code 58 = .ok (.iconst 0, 1) := by decide +kernel
theorem d_Box_letsGoElsewhere_59 : decode prog_2_method_26_code 59 = .ok (.istore 5, 2) := by decide +kernel
theorem d_Box_letsGoElsewhere_61 : decode prog_2_method_26_code 61 = .ok (.iinc 6 1, 3) := by decide +kernel
theorem d_Box_letsGoElsewhere_64 : decode prog_2_method_26_code 64 = .ok (.goto (-50), 3) := by decide +kernel
theorem d_Box_letsGoElsewhere_45 : decode prog_2_method_26_code 45 = .ok (.aload_n 0, 1) := by decide +kernel
theorem d_Box_letsGoElsewhere_46 : decode prog_2_method_26_code 46 = .ok (.iload_n 2, 1) := by decide +kernel
theorem d_Box_letsGoElsewhere_47 : decode prog_2_method_26_code 47 = .ok (.iload_n 3, 1) := by decide +kernel
theorem d_Box_letsGoElsewhere_48 : decode prog_2_method_26_code 48 = .ok (.invokevirtual 92, 3) := by decide +kernel
theorem d_Box_letsGoElsewhere_51 : decode prog_2_method_26_code 51 = .ok (.ifCond .ne 7, 3) := by decide +kernel
theorem d_Box_letsGoElsewhere_54 : decode prog_2_method_26_code 54 = .ok (.iconst 1, 1) := by decide +kernel
theorem d_Box_letsGoElsewhere_55 : decode prog_2_method_26_code 55 = .ok (.goto 4, 3) := by decide +kernel
theorem d_Box_letsGoElsewhere_67 : decode prog_2_method_26_code 67 = .ok (.aload_n 0, 1) := by decide +kernel
theorem d_Box_letsGoElsewhere_68 : decode prog_2_method_26_code 68 = .ok (.getfield 21, 3) := by decide +kernel
theorem d_Box_letsGoElsewhere_71 : decode prog_2_method_26_code 71 = .ok (.iload_n 1, 1) := by decide +kernel
theorem d_Box_letsGoElsewhere_72 : decode prog_2_method_26_code 72 = .ok (.iload 4, 2) := by decide +kernel
theorem d_Box_letsGoElsewhere_74 : decode prog_2_method_26_code 74 = .ok (.iastore, 1) := by decide +kernel
theorem d_Box_letsGoElsewhere_75 : decode prog_2_method_26_code 75 = .ok (.iload 5, 2) := by decide +kernel
theorem d_Box_letsGoElsewhere_77 : decode prog_2_method_26_code 77 = .ok (.ireturn, 1) := by decide +kernel
theorem t_Box_letsGoElsewhere_J59 {G : mG} {r : mR} {v0 v1 v2 v3 v4 v6 s0 : Int} {h : mH} {R14 : mH → Int → Int → Option mR} (hR14 : ∀ (h : mH) (w5 w6 : Int) , R14 h w5 w6 = some r → mJ G M_Box_letsGoElsewhere 14 [(2, v0), (0, v1), (0, v2), (0, v3), (0, v4), (0, w5), (0, w6)] [] h r) (hr : f_Box_letsGoElsewhere_J59 R14 v6 s0 h = some r) : mJ G M_Box_letsGoElsewhere 59 [(2, v0), (0, v1), (0, v2), (0, v3), (0, v4), (9, 0), (0, v6)] [(0, s0)] h r := by
  unfold f_Box_letsGoElsewhere_J59 at hr
  refine j_istore (pc := 59) (ls' := [(2, v0), (0, v1), (0, v2), (0, v3), (0, v4), (0, s0), (0, v6)]) d_Box_letsGoElsewhere_59 rfl ?_
  refine j_iincW (pc := 61) (L := fun x1 => [(2, v0), (0, v1), (0, v2), (0, v3), (0, v4), (0, s0), (0, x1)]) d_Box_letsGoElsewhere_61 rfl (fun _ => rfl) hr (fun x1 hr => ?_)
  refine j_goto (pc := 64) (tgt := 14) d_Box_letsGoElsewhere_64 ?_
  exact mJ_weak (ls' := [(2, v0), (0, v1), (0, v2), (0, v3), (0, v4), (0, s0), (0, x1)]) (mwk_s (mwk_s (mwk_s (mwk_s (mwk_s (mwk_s (mwk_s mwk_n))))))) (hR14 h _ _ hr)
theorem t_Box_letsGoElsewhere_J58 {G : mG} {r : mR} {v0 v1 v2 v3 v4 v6 : Int} {h : mH} {R14 : mH → Int → Int → Option mR} (hR14 : ∀ (h : mH) (w5 w6 : Int) , R14 h w5 w6 = some r → mJ G M_Box_letsGoElsewhere 14 [(2, v0), (0, v1), (0, v2), (0, v3), (0, v4), (0, w5), (0, w6)] [] h r) (hr : f_Box_letsGoElsewhere_J58 R14 v6 h = some r) : mJ G M_Box_letsGoElsewhere 58 [(2, v0), (0, v1), (0, v2), (0, v3), (0, v4), (9, 0), (0, v6)] [] h r := by
  unfold f_Box_letsGoElsewhere_J58 at hr
  refine j_iconst (pc := 58) d_Box_letsGoElsewhere_58 ?_
  exact mJ_weak (ls' := [(2, v0), (0, v1), (0, v2), (0, v3), (0, v4), (9, 0), (0, v6)]) (mwk_s (mwk_s (mwk_s (mwk_s (mwk_s (mwk_s (mwk_s mwk_n))))))) (t_Box_letsGoElsewhere_J59 hR14 hr)
theorem t_Box_letsGoElsewhere_L14 {G : mG} {r : mR} {v0 v1 v2 v3 v4 : Int} {K67 : mH → Int → Option mR} (hK67 : ∀ (h : mH) (w5 : Int) , K67 h w5 = some r → mJ G M_Box_letsGoElsewhere 67 [(2, v0), (0, v1), (9, 0), (9, 0), (0, v4), (0, w5), (9, 0)] [] h r) : ∀ (n : Nat) (h : mH) (v5 v6 : Int), f_Box_letsGoElsewhere_L14 K67 v0 v1 v2 v3 v4 n h v5 v6 = some r → mJ G M_Box_letsGoElsewhere 14 [(2, v0), (0, v1), (0, v2), (0, v3), (0, v4), (0, v5), (0, v6)] [] h r := by
  intro n
  induction n with
  | zero =>
    intro h v5 v6 hr
    rw [f_Box_letsGoElsewhere_L14] at hr
    cases hr
  | succ n hR14 =>
    intro h v5 v6 hr
    rw [f_Box_letsGoElsewhere_L14] at hr
    refine j_iload (pc := 14) d_Box_letsGoElsewhere_14 rfl ?_
    refine j_aload_n (pc := 16) d_Box_letsGoElsewhere_16 rfl ?_
    refine j_getf (pc := 17) d_Box_letsGoElsewhere_17 (fd_Box_9 rfl) hr (fun hr => ?_)
    refine j_iload_n (pc := 20) d_Box_letsGoElsewhere_20 rfl ?_
    refine j_iaload (pc := 21) d_Box_letsGoElsewhere_21 hr (fun hr => ?_)
    refine j_icmp_ge (pc := 22) (tgt := 67) d_Box_letsGoElsewhere_22 hr (fun hr => ?_) (fun hr => ?_)
    · exact mJ_weak (ls' := [(2, v0), (0, v1), (9, 0), (9, 0), (0, v4), (0, v5), (9, 0)]) (mwk_s (mwk_s (mwk_d (mwk_d (mwk_s (mwk_s (mwk_d mwk_n))))))) (hK67 h _ hr)
    · refine j_iload (pc := 25) d_Box_letsGoElsewhere_25 rfl ?_
      refine j_if_ne (pc := 27) (tgt := 67) d_Box_letsGoElsewhere_27 hr (fun hr => ?_) (fun hr => ?_)
      · exact mJ_weak (ls' := [(2, v0), (0, v1), (9, 0), (9, 0), (0, v4), (0, v5), (9, 0)]) (mwk_s (mwk_s (mwk_d (mwk_d (mwk_s (mwk_s (mwk_d mwk_n))))))) (hK67 h _ hr)
      · refine j_aload_n (pc := 30) d_Box_letsGoElsewhere_30 rfl ?_
        refine j_getf (pc := 31) d_Box_letsGoElsewhere_31 (fd_Box_21 rfl) hr (fun hr => ?_)
        refine j_iload_n (pc := 34) d_Box_letsGoElsewhere_34 rfl ?_
        refine j_iload (pc := 35) d_Box_letsGoElsewhere_35 rfl ?_
        refine j_iastore (pc := 37) d_Box_letsGoElsewhere_37 hr (fun h1 hr => ?_)
        refine j_iload (pc := 38) d_Box_letsGoElsewhere_38 rfl ?_
        refine j_iload (pc := 40) d_Box_letsGoElsewhere_40 rfl ?_
        refine j_icmp_eq (pc := 42) (tgt := 58) d_Box_letsGoElsewhere_42 hr (fun hr => ?_) (fun hr => ?_)
        · exact mJ_weak (ls' := [(2, v0), (0, v1), (0, v2), (0, v3), (0, v4), (9, 0), (0, v6)]) (mwk_s (mwk_s (mwk_s (mwk_s (mwk_s (mwk_d (mwk_s mwk_n))))))) (t_Box_letsGoElsewhere_J58 hR14 hr)
        · refine j_aload_n (pc := 45) d_Box_letsGoElsewhere_45 rfl ?_
          refine j_iload_n (pc := 46) d_Box_letsGoElsewhere_46 rfl ?_
          refine j_iload_n (pc := 47) d_Box_letsGoElsewhere_47 rfl ?_
          obtain ⟨ha, hr⟩ := chk_some hr
          refine j_callG (pc := 48) (stk := [(0, v3), (0, v2), (2, v0)]) (as := [(2, v0), (0, v2), (0, v3)]) (P := (fun v9 => ((0 : Nat), v9) :: [])) (tg := 0) (My := M_Box_whyNot) (mRunV (as := [(0, v2), (0, v3)]) (st := []) d_Box_letsGoElsewhere_48 (mc_Box_whyNot (by decide)) rfl (mv_Box_whyNot tb_ml_Box_92) rfl (Nat.le_of_ble_eq_true rfl) ha) (fun v => rfl) rfl hr (fun r1 h1 => t_Box_whyNot _ _ _ _ _ h1) (fun x3 h2 hr => ?_)
          refine j_if_ne (pc := 51) (tgt := 58) d_Box_letsGoElsewhere_51 hr (fun hr => ?_) (fun hr => ?_)
          · exact mJ_weak (ls' := [(2, v0), (0, v1), (0, v2), (0, v3), (0, v4), (9, 0), (0, v6)]) (mwk_s (mwk_s (mwk_s (mwk_s (mwk_s (mwk_d (mwk_s mwk_n))))))) (t_Box_letsGoElsewhere_J58 hR14 hr)
          · refine j_iconst (pc := 54) d_Box_letsGoElsewhere_54 ?_
            refine j_goto (pc := 55) (tgt := 59) d_Box_letsGoElsewhere_55 ?_
            exact mJ_weak (ls' := [(2, v0), (0, v1), (0, v2), (0, v3), (0, v4), (9, 0), (0, v6)]) (mwk_s (mwk_s (mwk_s (mwk_s (mwk_s (mwk_d (mwk_s mwk_n))))))) (t_Box_letsGoElsewhere_J59 hR14 hr)
theorem t_Box_letsGoElsewhere_J67 {G : mG} {r : mR} {v0 v1 v4 v5 : Int} {h : mH}  (hr : f_Box_letsGoElsewhere_J67 v0 v1 v4 v5 h = some r) : mJ G M_Box_letsGoElsewhere 67 [(2, v0), (0, v1), (9, 0), (9, 0), (0, v4), (0, v5), (9, 0)] [] h r := by
  unfold f_Box_letsGoElsewhere_J67 at hr
  refine j_aload_n (pc := 67) d_Box_letsGoElsewhere_67 rfl ?_
  refine j_getf (pc := 68) d_Box_letsGoElsewhere_68 (fd_Box_21 rfl) hr (fun hr => ?_)
  refine j_iload_n (pc := 71) d_Box_letsGoElsewhere_71 rfl ?_
  refine j_iload (pc := 72) d_Box_letsGoElsewhere_72 rfl ?_
  refine j_iastore (pc := 74) d_Box_letsGoElsewhere_74 hr (fun h1 hr => ?_)
  refine j_iload (pc := 75) d_Box_letsGoElsewhere_75 rfl ?_
  exact j_zret (pc := 77) d_Box_letsGoElsewhere_77 rfl hr
theorem t_Box_letsGoElsewhere {G : mG} (h : mH) (v0 v1 v2 v3 : Int) (r : mR) (hr : f_Box_letsGoElsewhere h v0 v1 v2 v3 = some r) : mJM G M_Box_letsGoElsewhere [(2, v0), (0, v1), (0, v2), (0, v3)] h r := by
  refine mJM_of (L := [(2, v0), (0, v1), (0, v2), (0, v3), (9, 0), (9, 0), (9, 0)]) rfl rfl rfl (Nat.le_of_ble_eq_true rfl) ?_
  unfold f_Box_letsGoElsewhere at hr
  refine j_aload_n (pc := 0) d_Box_letsGoElsewhere_0 rfl ?_
  refine j_getf (pc := 1) d_Box_letsGoElsewhere_1 (fd_Box_21 rfl) hr (fun hr => ?_)
  refine j_iload_n (pc := 4) d_Box_letsGoElsewhere_4 rfl ?_
  refine j_iaload (pc := 5) d_Box_letsGoElsewhere_5 hr (fun hr => ?_)
  refine j_istoreW (pc := 6) (L := fun x1 => [(2, v0), (0, v1), (0, v2), (0, v3), (0, x1), (9, 0), (9, 0)]) d_Box_letsGoElsewhere_6 (fun _ => rfl) hr (fun x1 hr => ?_)
  refine j_iconst (pc := 8) d_Box_letsGoElsewhere_8 ?_
  refine j_istore (pc := 9) (ls' := [(2, v0), (0, v1), (0, v2), (0, v3), (0, x1), (0, 0), (9, 0)]) d_Box_letsGoElsewhere_9 rfl ?_
  refine j_iconst (pc := 11) d_Box_letsGoElsewhere_11 ?_
  refine j_istore (pc := 12) (ls' := [(2, v0), (0, v1), (0, v2), (0, v3), (0, x1), (0, 0), (0, 0)]) d_Box_letsGoElsewhere_12 rfl ?_
  refine mJ_weak (ls' := [(2, v0), (0, v1), (0, v2), (0, v3), (0, x1), (0, 0), (0, 0)]) (mwk_s (mwk_s (mwk_s (mwk_s (mwk_s (mwk_s (mwk_s mwk_n))))))) (t_Box_letsGoElsewhere_L14 (fun h2 x3 hr => ?_) _ _ _ _ hr)
  · exact mJ_weak (ls' := [(2, v0), (0, v1), (9, 0), (9, 0), (0, x1), (0, x3), (9, 0)]) (mwk_s (mwk_s (mwk_s (mwk_s (mwk_s (mwk_s (mwk_s mwk_n))))))) (t_Box_letsGoElsewhere_J67  hr)
def M_Box_barThatStops : mM := ("NineBars$Box", ⟨"NineBars$Box", "barThatStops", "(IZ)I"⟩, prog_2_method_25_code, 4, some .int, [], 11)
theorem tb_co_Box_barThatStops : mTB (Cond.code ⟨"NineBars$Box", "barThatStops", "(IZ)I"⟩ prog_2_method_25_code 4 (some .int)) := tbq3 54 (by decide +kernel) rfl
theorem mc_Box_barThatStops {M : mM} (hd : 11 < mDp M) : mCal M M_Box_barThatStops 2 := ⟨tb_co_Box_barThatStops, tb_in_NineBars_Box, ⟨by decide +kernel, by decide +kernel⟩, by decide +kernel, hd, by decide⟩
theorem d_Box_barThatStops_0 : decode prog_2_method_25_code 0 = .ok (.iconst 0, 1) := by decide +kernel
theorem d_Box_barThatStops_1 : decode prog_2_method_25_code 1 = .ok (.istore_n 3, 1) := by decide +kernel
theorem d_Box_barThatStops_2 : decode prog_2_method_25_code 2 = .ok (.iload_n 3, 1) := by decide +kernel
theorem d_Box_barThatStops_3 : decode prog_2_method_25_code 3 = .ok (.aload_n 0, 1) := by decide +kernel
theorem d_Box_barThatStops_4 : decode prog_2_method_25_code 4 = .ok (.getfield 52, 3) := by decide +kernel
theorem d_Box_barThatStops_7 : decode prog_2_method_25_code 7 = .ok (.if_icmp .ge 26, 3) := by decide +kernel
theorem d_Box_barThatStops_33 : decode prog_2_method_25_code 33 = .ok (.iconst (-1), 1) := by decide +kernel
theorem d_Box_barThatStops_34 : decode prog_2_method_25_code 34 = .ok (.ireturn, 1) := by decide +kernel
theorem d_Box_barThatStops_10 : decode prog_2_method_25_code 10 = .ok (.iload_n 3, 1) := by decide +kernel
theorem d_Box_barThatStops_11 : decode prog_2_method_25_code 11 = .ok (.iload_n 1, 1) := by decide +kernel
theorem d_Box_barThatStops_12 : decode prog_2_method_25_code 12 = .ok (.if_icmp .eq 15, 3) := by decide +kernel
theorem d_Box_barThatStops_27 : decode prog_2_method_25_code 27 = .ok (.iinc 3 1, 3) := by decide +kernel
theorem d_Box_barThatStops_30 : decode prog_2_method_25_code 30 = .ok (.goto (-28), 3) := by decide +kernel
theorem d_Box_barThatStops_15 : decode prog_2_method_25_code 15 = .ok (.aload_n 0, 1) := by decide +kernel
theorem d_Box_barThatStops_16 : decode prog_2_method_25_code 16 = .ok (.iload_n 3, 1) := by decide +kernel
theorem d_Box_barThatStops_17 : decode prog_2_method_25_code 17 = .ok (.iload_n 1, 1) := by decide +kernel
theorem d_Box_barThatStops_18 : decode prog_2_method_25_code 18 = .ok (.iload_n 2, 1) := by decide +kernel
theorem d_Box_barThatStops_19 : decode prog_2_method_25_code 19 = .ok (.invokevirtual 101, 3) := by decide +kernel
theorem tb_ml_Box_101 : mTB (Cond.methodLink "NineBars$Box" 101 ⟨"NineBars$Box", "letsGoElsewhere", "(IIZ)Z"⟩) := tbq3 55 (by decide +kernel) rfl
theorem tb_im_Box_letsGoElsewhere : mTB (Cond.instanceMethod ⟨"NineBars$Box", "letsGoElsewhere", "(IIZ)Z"⟩) := tbq3 57 (by decide +kernel) rfl
theorem tb_se_Box_letsGoElsewhere : mTB (Cond.selects "NineBars$Box" ⟨"NineBars$Box", "letsGoElsewhere", "(IIZ)Z"⟩ ⟨"NineBars$Box", "letsGoElsewhere", "(IIZ)Z"⟩) := tbqp 2 (by decide +kernel) rfl
theorem mv_Box_letsGoElsewhere {M : mM} {idx : Nat} (h : mTB (Cond.methodLink (mO M) idx ⟨"NineBars$Box", "letsGoElsewhere", "(IIZ)Z"⟩)) : mCaV M M_Box_letsGoElsewhere idx 0 := ⟨h, tb_im_Box_letsGoElsewhere, tb_se_Box_letsGoElsewhere, by decide, TX0, 18, rfl⟩
theorem d_Box_barThatStops_22 : decode prog_2_method_25_code 22 = .ok (.ifCond .eq 5, 3) := by decide +kernel
theorem d_Box_barThatStops_25 : decode prog_2_method_25_code 25 = .ok (.iload_n 3, 1) := by decide +kernel
theorem d_Box_barThatStops_26 : decode prog_2_method_25_code 26 = .ok (.ireturn, 1) := by decide +kernel
theorem t_Box_barThatStops_J27 {G : mG} {r : mR} {v0 v1 v2 v3 : Int} {h : mH} {R2 : mH → Int → Option mR} (hR2 : ∀ (h : mH) (w3 : Int) , R2 h w3 = some r → mJ G M_Box_barThatStops 2 [(2, v0), (0, v1), (0, v2), (0, w3)] [] h r) (hr : f_Box_barThatStops_J27 R2 v3 h = some r) : mJ G M_Box_barThatStops 27 [(2, v0), (0, v1), (0, v2), (0, v3)] [] h r := by
  unfold f_Box_barThatStops_J27 at hr
  refine j_iincW (pc := 27) (L := fun x1 => [(2, v0), (0, v1), (0, v2), (0, x1)]) d_Box_barThatStops_27 rfl (fun _ => rfl) hr (fun x1 hr => ?_)
  refine j_goto (pc := 30) (tgt := 2) d_Box_barThatStops_30 ?_
  exact mJ_weak (ls' := [(2, v0), (0, v1), (0, v2), (0, x1)]) (mwk_s (mwk_s (mwk_s (mwk_s mwk_n)))) (hR2 h _ hr)
theorem t_Box_barThatStops_L2 {G : mG} {r : mR} {v0 v1 v2 : Int}  : ∀ (n : Nat) (h : mH) (v3 : Int), f_Box_barThatStops_L2 v0 v1 v2 n h v3 = some r → mJ G M_Box_barThatStops 2 [(2, v0), (0, v1), (0, v2), (0, v3)] [] h r := by
  intro n
  induction n with
  | zero =>
    intro h v3 hr
    rw [f_Box_barThatStops_L2] at hr
    cases hr
  | succ n hR2 =>
    intro h v3 hr
    rw [f_Box_barThatStops_L2] at hr
    refine j_iload_n (pc := 2) d_Box_barThatStops_2 rfl ?_
    refine j_aload_n (pc := 3) d_Box_barThatStops_3 rfl ?_
    refine j_getf (pc := 4) d_Box_barThatStops_4 (fd_Box_52 rfl) hr (fun hr => ?_)
    refine j_icmp_ge (pc := 7) (tgt := 33) d_Box_barThatStops_7 hr (fun hr => ?_) (fun hr => ?_)
    · refine j_iconst (pc := 33) d_Box_barThatStops_33 ?_
      exact j_iret (pc := 34) d_Box_barThatStops_34 rfl hr
    · refine j_iload_n (pc := 10) d_Box_barThatStops_10 rfl ?_
      refine j_iload_n (pc := 11) d_Box_barThatStops_11 rfl ?_
      refine j_icmp_eq (pc := 12) (tgt := 27) d_Box_barThatStops_12 hr (fun hr => ?_) (fun hr => ?_)
      · exact mJ_weak (ls' := [(2, v0), (0, v1), (0, v2), (0, v3)]) (mwk_s (mwk_s (mwk_s (mwk_s mwk_n)))) (t_Box_barThatStops_J27 hR2 hr)
      · refine j_aload_n (pc := 15) d_Box_barThatStops_15 rfl ?_
        refine j_iload_n (pc := 16) d_Box_barThatStops_16 rfl ?_
        refine j_iload_n (pc := 17) d_Box_barThatStops_17 rfl ?_
        refine j_iload_n (pc := 18) d_Box_barThatStops_18 rfl ?_
        obtain ⟨ha, hr⟩ := chk_some hr
        refine j_callG (pc := 19) (stk := [(0, v2), (0, v1), (0, v3), (2, v0)]) (as := [(2, v0), (0, v3), (0, v1), (0, v2)]) (P := (fun v9 => ((0 : Nat), v9) :: [])) (tg := 0) (My := M_Box_letsGoElsewhere) (mRunV (as := [(0, v3), (0, v1), (0, v2)]) (st := []) d_Box_barThatStops_19 (mc_Box_letsGoElsewhere (by decide)) rfl (mv_Box_letsGoElsewhere tb_ml_Box_101) rfl (Nat.le_of_ble_eq_true rfl) ha) (fun v => rfl) rfl hr (fun r1 h1 => t_Box_letsGoElsewhere _ _ _ _ _ _ h1) (fun x2 h1 hr => ?_)
        refine j_if_eq (pc := 22) (tgt := 27) d_Box_barThatStops_22 hr (fun hr => ?_) (fun hr => ?_)
        · exact mJ_weak (ls' := [(2, v0), (0, v1), (0, v2), (0, v3)]) (mwk_s (mwk_s (mwk_s (mwk_s mwk_n)))) (t_Box_barThatStops_J27 hR2 hr)
        · refine j_iload_n (pc := 25) d_Box_barThatStops_25 rfl ?_
          exact j_iret (pc := 26) d_Box_barThatStops_26 rfl hr
theorem t_Box_barThatStops {G : mG} (h : mH) (v0 v1 v2 : Int) (r : mR) (hr : f_Box_barThatStops h v0 v1 v2 = some r) : mJM G M_Box_barThatStops [(2, v0), (0, v1), (0, v2)] h r := by
  refine mJM_of (L := [(2, v0), (0, v1), (0, v2), (9, 0)]) rfl rfl rfl (Nat.le_of_ble_eq_true rfl) ?_
  unfold f_Box_barThatStops at hr
  refine j_iconst (pc := 0) d_Box_barThatStops_0 ?_
  refine j_istore_n (pc := 1) (ls' := [(2, v0), (0, v1), (0, v2), (0, 0)]) d_Box_barThatStops_1 rfl ?_
  refine mJ_weak (ls' := [(2, v0), (0, v1), (0, v2), (0, 0)]) (mwk_s (mwk_s (mwk_s (mwk_s mwk_n)))) (t_Box_barThatStops_L2  _ _ _ hr)
def M_Nb_stops : mM := ("NineBars", ⟨"NineBars", "stops", "(IZ)I"⟩, prog_1_method_12_code, 3, some .int, [], 13)
theorem tb_co_Nb_stops : mTB (Cond.code ⟨"NineBars", "stops", "(IZ)I"⟩ prog_1_method_12_code 3 (some .int)) := tbq3 50 (by decide +kernel) rfl
theorem mc_Nb_stops {M : mM} (hd : 13 < mDp M) : mCal M M_Nb_stops 2 := ⟨tb_co_Nb_stops, tb_in_NineBars, ⟨by decide +kernel, by decide +kernel⟩, by decide +kernel, hd, by decide⟩
theorem d_Nb_stops_0 : decode prog_1_method_12_code 0 = .ok (.aload_n 0, 1) := by decide +kernel
theorem d_Nb_stops_1 : decode prog_1_method_12_code 1 = .ok (.getfield 27, 3) := by decide +kernel
theorem d_Nb_stops_4 : decode prog_1_method_12_code 4 = .ok (.iload_n 1, 1) := by decide +kernel
theorem d_Nb_stops_5 : decode prog_1_method_12_code 5 = .ok (.iload_n 2, 1) := by decide +kernel
theorem d_Nb_stops_6 : decode prog_1_method_12_code 6 = .ok (.invokevirtual 215, 3) := by decide +kernel
theorem d_Nb_stops_9 : decode prog_1_method_12_code 9 = .ok (.ifCond .ne 7, 3) := by decide +kernel
theorem d_Nb_stops_16 : decode prog_1_method_12_code 16 = .ok (.aload_n 0, 1) := by decide +kernel
theorem d_Nb_stops_17 : decode prog_1_method_12_code 17 = .ok (.getfield 27, 3) := by decide +kernel
theorem d_Nb_stops_20 : decode prog_1_method_12_code 20 = .ok (.iload_n 1, 1) := by decide +kernel
theorem d_Nb_stops_21 : decode prog_1_method_12_code 21 = .ok (.iload_n 2, 1) := by decide +kernel
theorem d_Nb_stops_22 : decode prog_1_method_12_code 22 = .ok (.invokevirtual 225, 3) := by decide +kernel
theorem tb_ml_Nb_225 : mTB (Cond.methodLink "NineBars" 225 ⟨"NineBars$Box", "barThatStops", "(IZ)I"⟩) := tbq3 51 (by decide +kernel) rfl
theorem tb_im_Box_barThatStops : mTB (Cond.instanceMethod ⟨"NineBars$Box", "barThatStops", "(IZ)I"⟩) := tbq3 52 (by decide +kernel) rfl
theorem tb_se_Box_barThatStops : mTB (Cond.selects "NineBars$Box" ⟨"NineBars$Box", "barThatStops", "(IZ)I"⟩ ⟨"NineBars$Box", "barThatStops", "(IZ)I"⟩) := tbq3 53 (by decide +kernel) rfl
theorem mv_Box_barThatStops {M : mM} {idx : Nat} (h : mTB (Cond.methodLink (mO M) idx ⟨"NineBars$Box", "barThatStops", "(IZ)I"⟩)) : mCaV M M_Box_barThatStops idx 0 := ⟨h, tb_im_Box_barThatStops, tb_se_Box_barThatStops, by decide, TX0, 18, rfl⟩
theorem d_Nb_stops_25 : decode prog_1_method_12_code 25 = .ok (.ireturn, 1) := by decide +kernel
theorem d_Nb_stops_12 : decode prog_1_method_12_code 12 = .ok (.iconst (-1), 1) := by decide +kernel
theorem d_Nb_stops_13 : decode prog_1_method_12_code 13 = .ok (.goto 12, 3) := by decide +kernel
theorem t_Nb_stops {G : mG} (h : mH) (v0 v1 v2 : Int) (r : mR) (hr : f_Nb_stops h v0 v1 v2 = some r) : mJM G M_Nb_stops [(2, v0), (0, v1), (0, v2)] h r := by
  refine mJM_of (L := [(2, v0), (0, v1), (0, v2)]) rfl rfl rfl (Nat.le_of_ble_eq_true rfl) ?_
  unfold f_Nb_stops at hr
  refine j_aload_n (pc := 0) d_Nb_stops_0 rfl ?_
  refine j_getf (pc := 1) d_Nb_stops_1 (fd_Nb_27 rfl) hr (fun hr => ?_)
  refine j_iload_n (pc := 4) d_Nb_stops_4 rfl ?_
  refine j_iload_n (pc := 5) d_Nb_stops_5 rfl ?_
  obtain ⟨ha, hr⟩ := chk_some hr
  refine j_callG (pc := 6) (stk := [(0, v2), (0, v1), (2, hpV h v0 6)]) (as := [(2, hpV h v0 6), (0, v1), (0, v2)]) (P := (fun v9 => ((0 : Nat), v9) :: [])) (tg := 0) (My := M_Box_whyNot) (mRunV (as := [(0, v1), (0, v2)]) (st := []) d_Nb_stops_6 (mc_Box_whyNot (by decide)) rfl (mv_Box_whyNot tb_ml_Nb_215) rfl (Nat.le_of_ble_eq_true rfl) ha) (fun v => rfl) rfl hr (fun r1 h1 => t_Box_whyNot _ _ _ _ _ h1) (fun x2 h1 hr => ?_)
  refine j_if_ne (pc := 9) (tgt := 16) d_Nb_stops_9 hr (fun hr => ?_) (fun hr => ?_)
  · refine j_aload_n (pc := 16) d_Nb_stops_16 rfl ?_
    refine j_getf (pc := 17) d_Nb_stops_17 (fd_Nb_27 rfl) hr (fun hr => ?_)
    refine j_iload_n (pc := 20) d_Nb_stops_20 rfl ?_
    refine j_iload_n (pc := 21) d_Nb_stops_21 rfl ?_
    obtain ⟨ha, hr⟩ := chk_some hr
    refine j_callG (pc := 22) (stk := [(0, v2), (0, v1), (2, hpV h1 v0 6)]) (as := [(2, hpV h1 v0 6), (0, v1), (0, v2)]) (P := (fun v9 => ((0 : Nat), v9) :: [])) (tg := 0) (My := M_Box_barThatStops) (mRunV (as := [(0, v1), (0, v2)]) (st := []) d_Nb_stops_22 (mc_Box_barThatStops (by decide)) rfl (mv_Box_barThatStops tb_ml_Nb_225) rfl (Nat.le_of_ble_eq_true rfl) ha) (fun v => rfl) rfl hr (fun r1 h1 => t_Box_barThatStops _ _ _ _ _ h1) (fun x4 h3 hr => ?_)
    exact j_iret (pc := 25) d_Nb_stops_25 rfl hr
  · refine j_iconst (pc := 12) d_Nb_stops_12 ?_
    refine j_goto (pc := 13) (tgt := 25) d_Nb_stops_13 ?_
    exact j_iret (pc := 25) d_Nb_stops_25 rfl hr
def M_Nb_needTrayNumber : mM := ("NineBars", ⟨"NineBars", "needTrayNumber", "(I)V"⟩, prog_1_method_52_code, 2, none, [], 1)
theorem tb_co_Nb_needTrayNumber : mTB (Cond.code ⟨"NineBars", "needTrayNumber", "(I)V"⟩ prog_1_method_52_code 2 (none)) := tbq4 198 (by decide +kernel) rfl
theorem mc_Nb_needTrayNumber {M : mM} (hd : 1 < mDp M) : mCal M M_Nb_needTrayNumber 1 := ⟨tb_co_Nb_needTrayNumber, tb_in_NineBars, ⟨by decide +kernel, by decide +kernel⟩, by decide +kernel, hd, by decide⟩
theorem d_Nb_needTrayNumber_0 : decode prog_1_method_52_code 0 = .ok (.iload_n 1, 1) := by decide +kernel
theorem d_Nb_needTrayNumber_1 : decode prog_1_method_52_code 1 = .ok (.ifCond .lt 8, 3) := by decide +kernel
theorem d_Nb_needTrayNumber_9 : decode prog_1_method_52_code 9 = .ok (.new 171, 3) := by decide +kernel
theorem d_Nb_needTrayNumber_12 : decode prog_1_method_52_code 12 = .ok (.dup, 1) := by decide +kernel
theorem d_Nb_needTrayNumber_13 : decode prog_1_method_52_code 13 = .ok (.ldc_w 446, 3) := by decide +kernel
theorem d_Nb_needTrayNumber_16 : decode prog_1_method_52_code 16 = .ok (.invokespecial 175, 3) := by decide +kernel
theorem d_Nb_needTrayNumber_19 : decode prog_1_method_52_code 19 = .ok (.athrow, 1) := by decide +kernel
theorem d_Nb_needTrayNumber_4 : decode prog_1_method_52_code 4 = .ok (.iload_n 1, 1) := by decide +kernel
theorem d_Nb_needTrayNumber_5 : decode prog_1_method_52_code 5 = .ok (.iconst 4, 1) := by decide +kernel
theorem d_Nb_needTrayNumber_6 : decode prog_1_method_52_code 6 = .ok (.if_icmp .lt 14, 3) := by decide +kernel
theorem d_Nb_needTrayNumber_20 : decode prog_1_method_52_code 20 = .ok (.return_, 1) := by decide +kernel
theorem t_Nb_needTrayNumber {G : mG} (h : mH) (v0 v1 : Int) (r : mR) (hr : f_Nb_needTrayNumber h v0 v1 = some r) : mJM G M_Nb_needTrayNumber [(2, v0), (0, v1)] h r := by
  refine mJM_of (L := [(2, v0), (0, v1)]) rfl rfl rfl (Nat.le_of_ble_eq_true rfl) ?_
  unfold f_Nb_needTrayNumber at hr
  refine j_iload_n (pc := 0) d_Nb_needTrayNumber_0 rfl ?_
  refine j_if_lt (pc := 1) (tgt := 9) d_Nb_needTrayNumber_1 hr (fun hr => ?_) (fun hr => ?_)
  · exact j_throwW (pc := 9) (x9 := 13) (text := "no such tray") (k := 17) d_Nb_needTrayNumber_9 d_Nb_needTrayNumber_12 d_Nb_needTrayNumber_13 d_Nb_needTrayNumber_16 d_Nb_needTrayNumber_19 rfl (by decide +kernel) tb_cl_Nb_171 tb_in_java_util_NoSuchElementException (by decide +kernel) rfl (Nat.le_of_ble_eq_true rfl) hr
  · refine j_iload_n (pc := 4) d_Nb_needTrayNumber_4 rfl ?_
    refine j_iconst (pc := 5) d_Nb_needTrayNumber_5 ?_
    refine j_icmp_lt (pc := 6) (tgt := 20) d_Nb_needTrayNumber_6 hr (fun hr => ?_) (fun hr => ?_)
    · exact j_vret (pc := 20) d_Nb_needTrayNumber_20 rfl hr
    · exact j_throwW (pc := 9) (x9 := 13) (text := "no such tray") (k := 17) d_Nb_needTrayNumber_9 d_Nb_needTrayNumber_12 d_Nb_needTrayNumber_13 d_Nb_needTrayNumber_16 d_Nb_needTrayNumber_19 rfl (by decide +kernel) tb_cl_Nb_171 tb_in_java_util_NoSuchElementException (by decide +kernel) rfl (Nat.le_of_ble_eq_true rfl) hr
def M_Nb_needTray : mM := ("NineBars", ⟨"NineBars", "needTray", "(I)LNineBars$Tray;"⟩, prog_1_method_53_code, 2, some (.object "NineBars$Tray"), [], 3)
theorem tb_co_Nb_needTray : mTB (Cond.code ⟨"NineBars", "needTray", "(I)LNineBars$Tray;"⟩ prog_1_method_53_code 2 (some (.object "NineBars$Tray"))) := tbq4 194 (by decide +kernel) rfl
theorem mc_Nb_needTray {M : mM} (hd : 3 < mDp M) : mCal M M_Nb_needTray 1 := ⟨tb_co_Nb_needTray, tb_in_NineBars, ⟨by decide +kernel, by decide +kernel⟩, by decide +kernel, hd, by decide⟩
theorem d_Nb_needTray_0 : decode prog_1_method_53_code 0 = .ok (.aload_n 0, 1) := by decide +kernel
theorem d_Nb_needTray_1 : decode prog_1_method_53_code 1 = .ok (.iload_n 1, 1) := by decide +kernel
theorem d_Nb_needTray_2 : decode prog_1_method_53_code 2 = .ok (.invokevirtual 394, 3) := by decide +kernel
theorem tb_ml_Nb_394 : mTB (Cond.methodLink "NineBars" 394 ⟨"NineBars", "needTrayNumber", "(I)V"⟩) := tbq4 195 (by decide +kernel) rfl
theorem tb_im_Nb_needTrayNumber : mTB (Cond.instanceMethod ⟨"NineBars", "needTrayNumber", "(I)V"⟩) := tbq4 197 (by decide +kernel) rfl
theorem tb_se_Nb_needTrayNumber : mTB (Cond.selects "NineBars" ⟨"NineBars", "needTrayNumber", "(I)V"⟩ ⟨"NineBars", "needTrayNumber", "(I)V"⟩) := tbqp 24 (by decide +kernel) rfl
theorem mv_Nb_needTrayNumber {M : mM} {idx : Nat} (h : mTB (Cond.methodLink (mO M) idx ⟨"NineBars", "needTrayNumber", "(I)V"⟩)) : mCaV M M_Nb_needTrayNumber idx 10 := ⟨h, tb_im_Nb_needTrayNumber, tb_se_Nb_needTrayNumber, by decide, TX10, 19, rfl⟩
theorem d_Nb_needTray_5 : decode prog_1_method_53_code 5 = .ok (.aload_n 0, 1) := by decide +kernel
theorem d_Nb_needTray_6 : decode prog_1_method_53_code 6 = .ok (.getfield 40, 3) := by decide +kernel
theorem d_Nb_needTray_9 : decode prog_1_method_53_code 9 = .ok (.iload_n 1, 1) := by decide +kernel
theorem d_Nb_needTray_10 : decode prog_1_method_53_code 10 = .ok (.aaload, 1) := by decide +kernel
theorem tb_fl_Nb_234 : mTN (Cond.fieldLinkNest "NineBars" 234 "NineBars$Tray" "many" "I" "NineBars") := tbqn1 176 (by decide +kernel) rfl
theorem fd_Nb_234 {M : mM} (h : mO M = "NineBars") : mFld M 234 9 2 0 := ⟨_, _, _, tyX9, rfl, by decide, by decide, rfl, uw_9, tyX9_ok, nmX9, by rw [h]; exact Or.inr ⟨_, tb_fl_Nb_234⟩⟩
theorem d_Nb_needTray_11 : decode prog_1_method_53_code 11 = .ok (.getfield 234, 3) := by decide +kernel
theorem d_Nb_needTray_14 : decode prog_1_method_53_code 14 = .ok (.iconst (-1), 1) := by decide +kernel
theorem d_Nb_needTray_15 : decode prog_1_method_53_code 15 = .ok (.if_icmp .ne 14, 3) := by decide +kernel
theorem d_Nb_needTray_29 : decode prog_1_method_53_code 29 = .ok (.aload_n 0, 1) := by decide +kernel
theorem d_Nb_needTray_30 : decode prog_1_method_53_code 30 = .ok (.getfield 40, 3) := by decide +kernel
theorem d_Nb_needTray_33 : decode prog_1_method_53_code 33 = .ok (.iload_n 1, 1) := by decide +kernel
theorem d_Nb_needTray_34 : decode prog_1_method_53_code 34 = .ok (.aaload, 1) := by decide +kernel
theorem d_Nb_needTray_35 : decode prog_1_method_53_code 35 = .ok (.areturn, 1) := by decide +kernel
theorem d_Nb_needTray_18 : decode prog_1_method_53_code 18 = .ok (.new 247, 3) := by decide +kernel
theorem d_Nb_needTray_21 : decode prog_1_method_53_code 21 = .ok (.dup, 1) := by decide +kernel
theorem d_Nb_needTray_22 : decode prog_1_method_53_code 22 = .ok (.ldc_w 448, 3) := by decide +kernel
theorem d_Nb_needTray_25 : decode prog_1_method_53_code 25 = .ok (.invokespecial 251, 3) := by decide +kernel
theorem d_Nb_needTray_28 : decode prog_1_method_53_code 28 = .ok (.athrow, 1) := by decide +kernel
theorem t_Nb_needTray {G : mG} (h : mH) (v0 v1 : Int) (r : mR) (hr : f_Nb_needTray h v0 v1 = some r) : mJM G M_Nb_needTray [(2, v0), (0, v1)] h r := by
  refine mJM_of (L := [(2, v0), (0, v1)]) rfl rfl rfl (Nat.le_of_ble_eq_true rfl) ?_
  unfold f_Nb_needTray at hr
  refine j_aload_n (pc := 0) d_Nb_needTray_0 rfl ?_
  refine j_iload_n (pc := 1) d_Nb_needTray_1 rfl ?_
  obtain ⟨ha, hr⟩ := chk_some hr
  refine j_callG (pc := 2) (stk := [(0, v1), (2, v0)]) (as := [(2, v0), (0, v1)]) (P := (fun v9 => [])) (tg := 3) (My := M_Nb_needTrayNumber) (mRunV (as := [(0, v1)]) (st := []) d_Nb_needTray_2 (mc_Nb_needTrayNumber (by decide)) rfl (mv_Nb_needTrayNumber tb_ml_Nb_394) rfl (Nat.le_of_ble_eq_true rfl) ha) (fun v => rfl) rfl hr (fun r1 h1 => t_Nb_needTrayNumber _ _ _ _ h1) (fun x2 h1 hr => ?_)
  refine j_aload_n (pc := 5) d_Nb_needTray_5 rfl ?_
  refine j_getf (pc := 6) d_Nb_needTray_6 (fd_Nb_40 rfl) hr (fun hr => ?_)
  refine j_iload_n (pc := 9) d_Nb_needTray_9 rfl ?_
  refine j_aaload (pc := 10) d_Nb_needTray_10 (by decide) hr (fun hr => ?_)
  refine j_getf (pc := 11) d_Nb_needTray_11 (fd_Nb_234 rfl) hr (fun hr => ?_)
  refine j_iconst (pc := 14) d_Nb_needTray_14 ?_
  refine j_icmp_ne (pc := 15) (tgt := 29) d_Nb_needTray_15 hr (fun hr => ?_) (fun hr => ?_)
  · refine j_aload_n (pc := 29) d_Nb_needTray_29 rfl ?_
    refine j_getf (pc := 30) d_Nb_needTray_30 (fd_Nb_40 rfl) hr (fun hr => ?_)
    refine j_iload_n (pc := 33) d_Nb_needTray_33 rfl ?_
    refine j_aaload (pc := 34) d_Nb_needTray_34 (by decide) hr (fun hr => ?_)
    exact j_aret (pc := 35) d_Nb_needTray_35 rfl (Or.inl ⟨_, rfl⟩) hr
  · exact j_throwW (pc := 18) (x9 := 7) (text := "the tray is missing") (k := 18) d_Nb_needTray_18 d_Nb_needTray_21 d_Nb_needTray_22 d_Nb_needTray_25 d_Nb_needTray_28 rfl (by decide +kernel) tb_cl_Nb_247 tb_in_java_lang_IllegalStateException (by decide +kernel) rfl (Nat.le_of_ble_eq_true rfl) hr
def M_Box_makeNumber : mM := ("NineBars$Box", ⟨"NineBars$Box", "makeNumber", "(J)I"⟩, prog_2_method_24_code, 3, some .int, [], 11)
theorem tb_co_Box_makeNumber : mTB (Cond.code ⟨"NineBars$Box", "makeNumber", "(J)I"⟩ prog_2_method_24_code 3 (some .int)) := tbq4 205 (by decide +kernel) rfl
theorem mc_Box_makeNumber {M : mM} (hd : 11 < mDp M) : mCal M M_Box_makeNumber 1 := ⟨tb_co_Box_makeNumber, tb_in_NineBars_Box, ⟨by decide +kernel, by decide +kernel⟩, by decide +kernel, hd, by decide⟩
theorem d_Box_makeNumber_0 : decode prog_2_method_24_code 0 = .ok (.lload_n 1, 1) := by decide +kernel
theorem d_Box_makeNumber_1 : decode prog_2_method_24_code 1 = .ok (.lconst 0, 1) := by decide +kernel
theorem d_Box_makeNumber_2 : decode prog_2_method_24_code 2 = .ok (.lcmp, 1) := by decide +kernel
theorem d_Box_makeNumber_3 : decode prog_2_method_24_code 3 = .ok (.ifCond .lt 17, 3) := by decide +kernel
theorem d_Box_makeNumber_20 : decode prog_2_method_24_code 20 = .ok (.iconst 1, 1) := by decide +kernel
theorem d_Box_makeNumber_21 : decode prog_2_method_24_code 21 = .ok (.goto 24, 3) := by decide +kernel
theorem d_Box_makeNumber_45 : decode prog_2_method_24_code 45 = .ok (.ireturn, 1) := by decide +kernel
theorem d_Box_makeNumber_6 : decode prog_2_method_24_code 6 = .ok (.lload_n 1, 1) := by decide +kernel
theorem tb_cj_Box_96 : mTB (Cond.constantLong "NineBars$Box" 96 2) := tbq4 206 (by decide +kernel) rfl
theorem d_Box_makeNumber_7 : decode prog_2_method_24_code 7 = .ok (.ldc2_w 96, 3) := by decide +kernel
theorem d_Box_makeNumber_10 : decode prog_2_method_24_code 10 = .ok (.aload_n 0, 1) := by decide +kernel
theorem d_Box_makeNumber_11 : decode prog_2_method_24_code 11 = .ok (.getfield 52, 3) := by decide +kernel
theorem d_Box_makeNumber_14 : decode prog_2_method_24_code 14 = .ok (.i2l, 1) := by decide +kernel
theorem d_Box_makeNumber_15 : decode prog_2_method_24_code 15 = .ok (.lmul, 1) := by decide +kernel
theorem d_Box_makeNumber_16 : decode prog_2_method_24_code 16 = .ok (.lcmp, 1) := by decide +kernel
theorem d_Box_makeNumber_17 : decode prog_2_method_24_code 17 = .ok (.ifCond .lt 7, 3) := by decide +kernel
theorem d_Box_makeNumber_24 : decode prog_2_method_24_code 24 = .ok (.aload_n 0, 1) := by decide +kernel
theorem d_Box_makeNumber_25 : decode prog_2_method_24_code 25 = .ok (.lload_n 1, 1) := by decide +kernel
theorem d_Box_makeNumber_26 : decode prog_2_method_24_code 26 = .ok (.iconst 1, 1) := by decide +kernel
theorem d_Box_makeNumber_27 : decode prog_2_method_24_code 27 = .ok (.lshr, 1) := by decide +kernel
theorem d_Box_makeNumber_28 : decode prog_2_method_24_code 28 = .ok (.l2i, 1) := by decide +kernel
theorem d_Box_makeNumber_29 : decode prog_2_method_24_code 29 = .ok (.lload_n 1, 1) := by decide +kernel
theorem d_Box_makeNumber_30 : decode prog_2_method_24_code 30 = .ok (.lconst 1, 1) := by decide +kernel
theorem d_Box_makeNumber_31 : decode prog_2_method_24_code 31 = .ok (.land, 1) := by decide +kernel
theorem d_Box_makeNumber_32 : decode prog_2_method_24_code 32 = .ok (.lconst 1, 1) := by decide +kernel
theorem d_Box_makeNumber_33 : decode prog_2_method_24_code 33 = .ok (.lcmp, 1) := by decide +kernel
theorem d_Box_makeNumber_34 : decode prog_2_method_24_code 34 = .ok (.ifCond .ne 7, 3) := by decide +kernel
theorem d_Box_makeNumber_41 : decode prog_2_method_24_code 41 = .ok (.iconst 0, 1) := by decide +kernel
theorem d_Box_makeNumber_42 : decode prog_2_method_24_code 42 = .ok (.invokevirtual 98, 3) := by decide +kernel
theorem tb_ml_Box_98 : mTB (Cond.methodLink "NineBars$Box" 98 ⟨"NineBars$Box", "makeStep", "(IZ)I"⟩) := tbq4 207 (by decide +kernel) rfl
theorem d_Box_makeNumber_37 : decode prog_2_method_24_code 37 = .ok (.iconst 1, 1) := by decide +kernel
theorem d_Box_makeNumber_38 : decode prog_2_method_24_code 38 = .ok (.goto 4, 3) := by decide +kernel
theorem t_Box_makeNumber_J20 {G : mG} {r : mR} {h : mH}  (hr : f_Box_makeNumber_J20 h = some r) : mJ G M_Box_makeNumber 20 [(9, 0), (9, 0), (9, 0)] [] h r := by
  unfold f_Box_makeNumber_J20 at hr
  refine j_iconst (pc := 20) d_Box_makeNumber_20 ?_
  refine j_goto (pc := 21) (tgt := 45) d_Box_makeNumber_21 ?_
  exact j_iret (pc := 45) d_Box_makeNumber_45 rfl hr
theorem t_Box_makeNumber_J42 {G : mG} {r : mR} {s0 s1 s2 : Int} {h : mH}  (hr : f_Box_makeNumber_J42 s0 s1 s2 h = some r) : mJ G M_Box_makeNumber 42 [(9, 0), (9, 0), (9, 0)] [(0, s2), (0, s1), (2, s0)] h r := by
  unfold f_Box_makeNumber_J42 at hr
  obtain ⟨ha, hr⟩ := chk_some hr
  refine j_callG (pc := 42) (stk := [(0, s2), (0, s1), (2, s0)]) (as := [(2, s0), (0, s1), (0, s2)]) (P := (fun v9 => ((0 : Nat), v9) :: [])) (tg := 0) (My := M_Box_makeStep) (mRunV (as := [(0, s1), (0, s2)]) (st := []) d_Box_makeNumber_42 (mc_Box_makeStep (by decide)) rfl (mv_Box_makeStep tb_ml_Box_98) rfl (Nat.le_of_ble_eq_true rfl) ha) (fun v => rfl) rfl hr (fun r1 h1 => t_Box_makeStep _ _ _ _ _ h1) (fun x2 h1 hr => ?_)
  exact j_iret (pc := 45) d_Box_makeNumber_45 rfl hr
theorem t_Box_makeNumber {G : mG} (h : mH) (v0 v1 : Int) (r : mR) (hr : f_Box_makeNumber h v0 v1 = some r) : mJM G M_Box_makeNumber [(2, v0), (1, v1)] h r := by
  refine mJM_of (L := [(2, v0), (1, v1), (9, 0)]) rfl rfl rfl (Nat.le_of_ble_eq_true rfl) ?_
  unfold f_Box_makeNumber at hr
  refine j_lload_n (pc := 0) d_Box_makeNumber_0 rfl ?_
  refine j_lconst (pc := 1) (z := 0) d_Box_makeNumber_1 ?_
  refine j_lcmp (pc := 2) d_Box_makeNumber_2 ?_
  refine j_if_lt (pc := 3) (tgt := 20) d_Box_makeNumber_3 hr (fun hr => ?_) (fun hr => ?_)
  · exact mJ_weak (ls' := [(9, 0), (9, 0), (9, 0)]) (mwk_d (mwk_d (mwk_s mwk_n))) (t_Box_makeNumber_J20  hr)
  · refine j_lload_n (pc := 6) d_Box_makeNumber_6 rfl ?_
    refine j_ldc2 (pc := 7) (z := 2) d_Box_makeNumber_7 tb_cj_Box_96 rfl ?_
    refine j_aload_n (pc := 10) d_Box_makeNumber_10 rfl ?_
    refine j_getf (pc := 11) d_Box_makeNumber_11 (fd_Box_52 rfl) hr (fun hr => ?_)
    refine j_i2l (pc := 14) d_Box_makeNumber_14 ?_
    refine j_lmul (pc := 15) d_Box_makeNumber_15 ?_
    refine j_lcmp (pc := 16) d_Box_makeNumber_16 ?_
    refine j_if_lt (pc := 17) (tgt := 24) d_Box_makeNumber_17 hr (fun hr => ?_) (fun hr => ?_)
    · refine j_aload_n (pc := 24) d_Box_makeNumber_24 rfl ?_
      refine j_lload_n (pc := 25) d_Box_makeNumber_25 rfl ?_
      refine j_iconst (pc := 26) d_Box_makeNumber_26 ?_
      refine j_lshr (pc := 27) d_Box_makeNumber_27 ?_
      refine j_l2i (pc := 28) d_Box_makeNumber_28 ?_
      refine j_lload_n (pc := 29) d_Box_makeNumber_29 rfl ?_
      refine j_lconst (pc := 30) (z := 1) d_Box_makeNumber_30 ?_
      refine j_land (pc := 31) d_Box_makeNumber_31 ?_
      refine j_lconst (pc := 32) (z := 1) d_Box_makeNumber_32 ?_
      refine j_lcmp (pc := 33) d_Box_makeNumber_33 ?_
      refine j_if_ne (pc := 34) (tgt := 41) d_Box_makeNumber_34 hr (fun hr => ?_) (fun hr => ?_)
      · refine j_iconst (pc := 41) d_Box_makeNumber_41 ?_
        exact mJ_weak (ls' := [(9, 0), (9, 0), (9, 0)]) (mwk_d (mwk_d (mwk_s mwk_n))) (t_Box_makeNumber_J42  hr)
      · refine j_iconst (pc := 37) d_Box_makeNumber_37 ?_
        refine j_goto (pc := 38) (tgt := 42) d_Box_makeNumber_38 ?_
        exact mJ_weak (ls' := [(9, 0), (9, 0), (9, 0)]) (mwk_d (mwk_d (mwk_s mwk_n))) (t_Box_makeNumber_J42  hr)
    · exact mJ_weak (ls' := [(9, 0), (9, 0), (9, 0)]) (mwk_d (mwk_d (mwk_s mwk_n))) (t_Box_makeNumber_J20  hr)
def M_Nb_judge : mM := ("NineBars", ⟨"NineBars", "judge", "(II)I"⟩, prog_1_method_13_code, 8, some .int, [], 13)
theorem tb_co_Nb_judge : mTB (Cond.code ⟨"NineBars", "judge", "(II)I"⟩ prog_1_method_13_code 8 (some .int)) := tbq4 190 (by decide +kernel) rfl
theorem mc_Nb_judge {M : mM} (hd : 13 < mDp M) : mCal M M_Nb_judge 2 := ⟨tb_co_Nb_judge, tb_in_NineBars, ⟨by decide +kernel, by decide +kernel⟩, by decide +kernel, hd, by decide⟩
theorem d_Nb_judge_0 : decode prog_1_method_13_code 0 = .ok (.aload_n 0, 1) := by decide +kernel
theorem d_Nb_judge_1 : decode prog_1_method_13_code 1 = .ok (.iload_n 1, 1) := by decide +kernel
theorem d_Nb_judge_2 : decode prog_1_method_13_code 2 = .ok (.invokevirtual 228, 3) := by decide +kernel
theorem tb_ml_Nb_228 : mTB (Cond.methodLink "NineBars" 228 ⟨"NineBars", "needTray", "(I)LNineBars$Tray;"⟩) := tbq4 191 (by decide +kernel) rfl
theorem tb_im_Nb_needTray : mTB (Cond.instanceMethod ⟨"NineBars", "needTray", "(I)LNineBars$Tray;"⟩) := tbq4 193 (by decide +kernel) rfl
theorem tb_se_Nb_needTray : mTB (Cond.selects "NineBars" ⟨"NineBars", "needTray", "(I)LNineBars$Tray;"⟩ ⟨"NineBars", "needTray", "(I)LNineBars$Tray;"⟩) := tbqp 23 (by decide +kernel) rfl
theorem mv_Nb_needTray {M : mM} {idx : Nat} (h : mTB (Cond.methodLink (mO M) idx ⟨"NineBars", "needTray", "(I)LNineBars$Tray;"⟩)) : mCaV M M_Nb_needTray idx 10 := ⟨h, tb_im_Nb_needTray, tb_se_Nb_needTray, by decide, TX10, 19, rfl⟩
theorem d_Nb_judge_5 : decode prog_1_method_13_code 5 = .ok (.astore_n 3, 1) := by decide +kernel
theorem d_Nb_judge_6 : decode prog_1_method_13_code 6 = .ok (.iload_n 2, 1) := by decide +kernel
theorem d_Nb_judge_7 : decode prog_1_method_13_code 7 = .ok (.ifCond .lt 8, 3) := by decide +kernel
theorem d_Nb_judge_15 : decode prog_1_method_13_code 15 = .ok (.new 109, 3) := by decide +kernel
theorem d_Nb_judge_18 : decode prog_1_method_13_code 18 = .ok (.dup, 1) := by decide +kernel
theorem d_Nb_judge_19 : decode prog_1_method_13_code 19 = .ok (.ldc 232, 2) := by decide +kernel
theorem d_Nb_judge_21 : decode prog_1_method_13_code 21 = .ok (.invokespecial 113, 3) := by decide +kernel
theorem d_Nb_judge_24 : decode prog_1_method_13_code 24 = .ok (.athrow, 1) := by decide +kernel
theorem d_Nb_judge_10 : decode prog_1_method_13_code 10 = .ok (.iload_n 2, 1) := by decide +kernel
theorem d_Nb_judge_11 : decode prog_1_method_13_code 11 = .ok (.iconst 3, 1) := by decide +kernel
theorem d_Nb_judge_12 : decode prog_1_method_13_code 12 = .ok (.if_icmp .le 13, 3) := by decide +kernel
theorem d_Nb_judge_25 : decode prog_1_method_13_code 25 = .ok (.aload_n 0, 1) := by decide +kernel
theorem d_Nb_judge_26 : decode prog_1_method_13_code 26 = .ok (.getfield 31, 3) := by decide +kernel
theorem d_Nb_judge_29 : decode prog_1_method_13_code 29 = .ok (.aload_n 0, 1) := by decide +kernel
theorem d_Nb_judge_30 : decode prog_1_method_13_code 30 = .ok (.getfield 27, 3) := by decide +kernel
theorem d_Nb_judge_33 : decode prog_1_method_13_code 33 = .ok (.invokevirtual 135, 3) := by decide +kernel
theorem d_Nb_judge_36 : decode prog_1_method_13_code 36 = .ok (.aload_n 0, 1) := by decide +kernel
theorem d_Nb_judge_37 : decode prog_1_method_13_code 37 = .ok (.getfield 31, 3) := by decide +kernel
theorem d_Nb_judge_40 : decode prog_1_method_13_code 40 = .ok (.invokevirtual 212, 3) := by decide +kernel
theorem d_Nb_judge_43 : decode prog_1_method_13_code 43 = .ok (.ifCond .eq 8, 3) := by decide +kernel
theorem d_Nb_judge_51 : decode prog_1_method_13_code 51 = .ok (.iconst (-1), 1) := by decide +kernel
theorem d_Nb_judge_52 : decode prog_1_method_13_code 52 = .ok (.istore 4, 2) := by decide +kernel
theorem d_Nb_judge_54 : decode prog_1_method_13_code 54 = .ok (.iconst 0, 1) := by decide +kernel
theorem d_Nb_judge_55 : decode prog_1_method_13_code 55 = .ok (.istore 5, 2) := by decide +kernel
theorem d_Nb_judge_57 : decode prog_1_method_13_code 57 = .ok (.iconst (-1), 1) := by decide +kernel
theorem d_Nb_judge_58 : decode prog_1_method_13_code 58 = .ok (.istore 6, 2) := by decide +kernel
theorem d_Nb_judge_60 : decode prog_1_method_13_code 60 = .ok (.iconst 0, 1) := by decide +kernel
theorem d_Nb_judge_61 : decode prog_1_method_13_code 61 = .ok (.istore 7, 2) := by decide +kernel
theorem d_Nb_judge_63 : decode prog_1_method_13_code 63 = .ok (.iload 7, 2) := by decide +kernel
theorem d_Nb_judge_65 : decode prog_1_method_13_code 65 = .ok (.aload_n 3, 1) := by decide +kernel
theorem d_Nb_judge_66 : decode prog_1_method_13_code 66 = .ok (.getfield 234, 3) := by decide +kernel
theorem d_Nb_judge_69 : decode prog_1_method_13_code 69 = .ok (.if_icmp .ge 62, 3) := by decide +kernel
theorem d_Nb_judge_72 : decode prog_1_method_13_code 72 = .ok (.iload 5, 2) := by decide +kernel
theorem d_Nb_judge_74 : decode prog_1_method_13_code 74 = .ok (.ifCond .ne 57, 3) := by decide +kernel
theorem d_Nb_judge_77 : decode prog_1_method_13_code 77 = .ok (.aload_n 0, 1) := by decide +kernel
theorem d_Nb_judge_78 : decode prog_1_method_13_code 78 = .ok (.getfield 31, 3) := by decide +kernel
theorem d_Nb_judge_81 : decode prog_1_method_13_code 81 = .ok (.aload_n 3, 1) := by decide +kernel
theorem tb_fl_Nb_237 : mTN (Cond.fieldLinkNest "NineBars" 237 "NineBars$Tray" "numbers" "[J" "NineBars") := tbqn1 171 (by decide +kernel) rfl
theorem fd_Nb_237 {M : mM} (h : mO M = "NineBars") : mFld M 237 9 0 2 := ⟨_, _, _, tyX9, rfl, by decide, by decide, rfl, uw_9, tyX9_ok, nmX9, by rw [h]; exact Or.inr ⟨_, tb_fl_Nb_237⟩⟩
theorem d_Nb_judge_82 : decode prog_1_method_13_code 82 = .ok (.getfield 237, 3) := by decide +kernel
theorem d_Nb_judge_85 : decode prog_1_method_13_code 85 = .ok (.iload 7, 2) := by decide +kernel
theorem d_Nb_judge_87 : decode prog_1_method_13_code 87 = .ok (.laload, 1) := by decide +kernel
theorem d_Nb_judge_88 : decode prog_1_method_13_code 88 = .ok (.invokevirtual 241, 3) := by decide +kernel
theorem tb_ml_Nb_241 : mTB (Cond.methodLink "NineBars" 241 ⟨"NineBars$Box", "makeNumber", "(J)I"⟩) := tbq4 202 (by decide +kernel) rfl
theorem tb_im_Box_makeNumber : mTB (Cond.instanceMethod ⟨"NineBars$Box", "makeNumber", "(J)I"⟩) := tbq4 203 (by decide +kernel) rfl
theorem tb_se_Box_makeNumber : mTB (Cond.selects "NineBars$Box" ⟨"NineBars$Box", "makeNumber", "(J)I"⟩ ⟨"NineBars$Box", "makeNumber", "(J)I"⟩) := tbq4 204 (by decide +kernel) rfl
theorem mv_Box_makeNumber {M : mM} {idx : Nat} (h : mTB (Cond.methodLink (mO M) idx ⟨"NineBars$Box", "makeNumber", "(J)I"⟩)) : mCaV M M_Box_makeNumber idx 0 := ⟨h, tb_im_Box_makeNumber, tb_se_Box_makeNumber, by decide, TX0, 18, rfl⟩
theorem d_Nb_judge_91 : decode prog_1_method_13_code 91 = .ok (.istore 5, 2) := by decide +kernel
theorem d_Nb_judge_93 : decode prog_1_method_13_code 93 = .ok (.iload 5, 2) := by decide +kernel
theorem d_Nb_judge_95 : decode prog_1_method_13_code 95 = .ok (.ifCond .eq 10, 3) := by decide +kernel
theorem d_Nb_judge_105 : decode prog_1_method_13_code 105 = .ok (.iload 4, 2) := by decide +kernel
theorem d_Nb_judge_107 : decode prog_1_method_13_code 107 = .ok (.iconst (-1), 1) := by decide +kernel
theorem d_Nb_judge_108 : decode prog_1_method_13_code 108 = .ok (.if_icmp .ne 17, 3) := by decide +kernel
theorem d_Nb_judge_125 : decode prog_1_method_13_code 125 = .ok (.iinc 7 1, 3) := by decide +kernel
theorem d_Nb_judge_128 : decode prog_1_method_13_code 128 = .ok (.goto (-65), 3) := by decide +kernel
theorem d_Nb_judge_111 : decode prog_1_method_13_code 111 = .ok (.aload_n 0, 1) := by decide +kernel
theorem d_Nb_judge_112 : decode prog_1_method_13_code 112 = .ok (.getfield 31, 3) := by decide +kernel
theorem d_Nb_judge_115 : decode prog_1_method_13_code 115 = .ok (.invokevirtual 212, 3) := by decide +kernel
theorem d_Nb_judge_118 : decode prog_1_method_13_code 118 = .ok (.ifCond .eq 7, 3) := by decide +kernel
theorem d_Nb_judge_121 : decode prog_1_method_13_code 121 = .ok (.iload 7, 2) := by decide +kernel
theorem d_Nb_judge_123 : decode prog_1_method_13_code 123 = .ok (.istore 4, 2) := by decide +kernel
theorem d_Nb_judge_98 : decode prog_1_method_13_code 98 = .ok (.iload 7, 2) := by decide +kernel
theorem d_Nb_judge_100 : decode prog_1_method_13_code 100 = .ok (.istore 6, 2) := by decide +kernel
theorem d_Nb_judge_102 : decode prog_1_method_13_code 102 = .ok (.goto 23, 3) := by decide +kernel
theorem d_Nb_judge_131 : decode prog_1_method_13_code 131 = .ok (.iload_n 2, 1) := by decide +kernel
theorem d_Nb_judge_132 : decode prog_1_method_13_code 132 = .ok (.tableswitch 50 0 2 #[28, 31, 34], 28) := by decide +kernel
theorem d_Nb_judge_160 : decode prog_1_method_13_code 160 = .ok (.iload 6, 2) := by decide +kernel
theorem d_Nb_judge_162 : decode prog_1_method_13_code 162 = .ok (.ireturn, 1) := by decide +kernel
theorem d_Nb_judge_163 : decode prog_1_method_13_code 163 = .ok (.iload 5, 2) := by decide +kernel
theorem d_Nb_judge_165 : decode prog_1_method_13_code 165 = .ok (.ireturn, 1) := by decide +kernel
theorem d_Nb_judge_166 : decode prog_1_method_13_code 166 = .ok (.aload_n 0, 1) := by decide +kernel
theorem d_Nb_judge_167 : decode prog_1_method_13_code 167 = .ok (.getfield 31, 3) := by decide +kernel
theorem d_Nb_judge_170 : decode prog_1_method_13_code 170 = .ok (.invokevirtual 212, 3) := by decide +kernel
theorem d_Nb_judge_173 : decode prog_1_method_13_code 173 = .ok (.ifCond .eq 7, 3) := by decide +kernel
theorem d_Nb_judge_180 : decode prog_1_method_13_code 180 = .ok (.iconst 0, 1) := by decide +kernel
theorem d_Nb_judge_181 : decode prog_1_method_13_code 181 = .ok (.ireturn, 1) := by decide +kernel
theorem d_Nb_judge_176 : decode prog_1_method_13_code 176 = .ok (.iconst 1, 1) := by decide +kernel
theorem d_Nb_judge_177 : decode prog_1_method_13_code 177 = .ok (.goto 4, 3) := by decide +kernel
theorem d_Nb_judge_182 : decode prog_1_method_13_code 182 = .ok (.iload 4, 2) := by decide +kernel
theorem d_Nb_judge_184 : decode prog_1_method_13_code 184 = .ok (.ireturn, 1) := by decide +kernel
theorem d_Nb_judge_46 : decode prog_1_method_13_code 46 = .ok (.bipush (-2), 2) := by decide +kernel
theorem d_Nb_judge_48 : decode prog_1_method_13_code 48 = .ok (.goto 4, 3) := by decide +kernel
theorem t_Nb_judge_J125 {G : mG} {r : mR} {v0 v2 v3 v4 v5 v6 v7 : Int} {h : mH} {R63 : mH → Int → Int → Int → Int → Option mR} (hR63 : ∀ (h : mH) (w4 w5 w6 w7 : Int) , R63 h w4 w5 w6 w7 = some r → mJ G M_Nb_judge 63 [(2, v0), (9, 0), (0, v2), (2, v3), (0, w4), (0, w5), (0, w6), (0, w7)] [] h r) (hr : f_Nb_judge_J125 R63 v4 v5 v6 v7 h = some r) : mJ G M_Nb_judge 125 [(2, v0), (9, 0), (0, v2), (2, v3), (0, v4), (0, v5), (0, v6), (0, v7)] [] h r := by
  unfold f_Nb_judge_J125 at hr
  refine j_iincW (pc := 125) (L := fun x1 => [(2, v0), (9, 0), (0, v2), (2, v3), (0, v4), (0, v5), (0, v6), (0, x1)]) d_Nb_judge_125 rfl (fun _ => rfl) hr (fun x1 hr => ?_)
  refine j_goto (pc := 128) (tgt := 63) d_Nb_judge_128 ?_
  exact mJ_weak (ls' := [(2, v0), (9, 0), (0, v2), (2, v3), (0, v4), (0, v5), (0, v6), (0, x1)]) (mwk_s (mwk_s (mwk_s (mwk_s (mwk_s (mwk_s (mwk_s (mwk_s mwk_n)))))))) (hR63 h _ _ _ _ hr)
theorem t_Nb_judge_L63 {G : mG} {r : mR} {v0 v2 v3 : Int} {K131 : mH → Int → Int → Int → Option mR} (hK131 : ∀ (h : mH) (w4 w5 w6 : Int) , K131 h w4 w5 w6 = some r → mJ G M_Nb_judge 131 [(2, v0), (9, 0), (0, v2), (9, 0), (0, w4), (0, w5), (0, w6), (9, 0)] [] h r) : ∀ (n : Nat) (h : mH) (v4 v5 v6 v7 : Int), f_Nb_judge_L63 K131 v0 v3 n h v4 v5 v6 v7 = some r → mJ G M_Nb_judge 63 [(2, v0), (9, 0), (0, v2), (2, v3), (0, v4), (0, v5), (0, v6), (0, v7)] [] h r := by
  intro n
  induction n with
  | zero =>
    intro h v4 v5 v6 v7 hr
    rw [f_Nb_judge_L63] at hr
    cases hr
  | succ n hR63 =>
    intro h v4 v5 v6 v7 hr
    rw [f_Nb_judge_L63] at hr
    refine j_iload (pc := 63) d_Nb_judge_63 rfl ?_
    refine j_aload_n (pc := 65) d_Nb_judge_65 rfl ?_
    refine j_getf (pc := 66) d_Nb_judge_66 (fd_Nb_234 rfl) hr (fun hr => ?_)
    refine j_icmp_ge (pc := 69) (tgt := 131) d_Nb_judge_69 hr (fun hr => ?_) (fun hr => ?_)
    · exact mJ_weak (ls' := [(2, v0), (9, 0), (0, v2), (9, 0), (0, v4), (0, v5), (0, v6), (9, 0)]) (mwk_s (mwk_s (mwk_s (mwk_d (mwk_s (mwk_s (mwk_s (mwk_d mwk_n)))))))) (hK131 h _ _ _ hr)
    · refine j_iload (pc := 72) d_Nb_judge_72 rfl ?_
      refine j_if_ne (pc := 74) (tgt := 131) d_Nb_judge_74 hr (fun hr => ?_) (fun hr => ?_)
      · exact mJ_weak (ls' := [(2, v0), (9, 0), (0, v2), (9, 0), (0, v4), (0, v5), (0, v6), (9, 0)]) (mwk_s (mwk_s (mwk_s (mwk_d (mwk_s (mwk_s (mwk_s (mwk_d mwk_n)))))))) (hK131 h _ _ _ hr)
      · refine j_aload_n (pc := 77) d_Nb_judge_77 rfl ?_
        refine j_getf (pc := 78) d_Nb_judge_78 (fd_Nb_31 rfl) hr (fun hr => ?_)
        refine j_aload_n (pc := 81) d_Nb_judge_81 rfl ?_
        refine j_getf (pc := 82) d_Nb_judge_82 (fd_Nb_237 rfl) hr (fun hr => ?_)
        refine j_iload (pc := 85) d_Nb_judge_85 rfl ?_
        refine j_laload (pc := 87) d_Nb_judge_87 hr (fun hr => ?_)
        obtain ⟨ha, hr⟩ := chk_some hr
        refine j_callG (pc := 88) (stk := [(1, hpV h (hpV h v3 0) v7), (2, hpV h v0 7)]) (as := [(2, hpV h v0 7), (1, hpV h (hpV h v3 0) v7)]) (P := (fun v9 => ((0 : Nat), v9) :: [])) (tg := 0) (My := M_Box_makeNumber) (mRunV (as := [(1, hpV h (hpV h v3 0) v7)]) (st := []) d_Nb_judge_88 (mc_Box_makeNumber (by decide)) rfl (mv_Box_makeNumber tb_ml_Nb_241) rfl (Nat.le_of_ble_eq_true rfl) ha) (fun v => rfl) rfl hr (fun r1 h1 => t_Box_makeNumber _ _ _ _ h1) (fun x2 h1 hr => ?_)
        refine j_istore (pc := 91) (ls' := [(2, v0), (9, 0), (0, v2), (2, v3), (0, v4), (0, x2), (0, v6), (0, v7)]) d_Nb_judge_91 rfl ?_
        refine j_iload (pc := 93) d_Nb_judge_93 rfl ?_
        refine j_if_eq (pc := 95) (tgt := 105) d_Nb_judge_95 hr (fun hr => ?_) (fun hr => ?_)
        · refine j_iload (pc := 105) d_Nb_judge_105 rfl ?_
          refine j_iconst (pc := 107) d_Nb_judge_107 ?_
          refine j_icmp_ne (pc := 108) (tgt := 125) d_Nb_judge_108 hr (fun hr => ?_) (fun hr => ?_)
          · exact mJ_weak (ls' := [(2, v0), (9, 0), (0, v2), (2, v3), (0, v4), (0, x2), (0, v6), (0, v7)]) (mwk_s (mwk_s (mwk_s (mwk_s (mwk_s (mwk_s (mwk_s (mwk_s mwk_n)))))))) (t_Nb_judge_J125 hR63 hr)
          · refine j_aload_n (pc := 111) d_Nb_judge_111 rfl ?_
            refine j_getf (pc := 112) d_Nb_judge_112 (fd_Nb_31 rfl) hr (fun hr => ?_)
            obtain ⟨ha, hr⟩ := chk_some hr
            refine j_callG (pc := 115) (stk := [(2, hpV h1 v0 7)]) (as := [(2, hpV h1 v0 7)]) (P := (fun v9 => ((0 : Nat), v9) :: [])) (tg := 0) (My := M_Box_isOpened) (mRunV (as := []) (st := []) d_Nb_judge_115 (mc_Box_isOpened (by decide)) rfl (mv_Box_isOpened tb_ml_Nb_212) rfl (Nat.le_of_ble_eq_true rfl) ha) (fun v => rfl) rfl hr (fun r1 h1 => t_Box_isOpened _ _ _ h1) (fun x4 h3 hr => ?_)
            refine j_if_eq (pc := 118) (tgt := 125) d_Nb_judge_118 hr (fun hr => ?_) (fun hr => ?_)
            · exact mJ_weak (ls' := [(2, v0), (9, 0), (0, v2), (2, v3), (0, v4), (0, x2), (0, v6), (0, v7)]) (mwk_s (mwk_s (mwk_s (mwk_s (mwk_s (mwk_s (mwk_s (mwk_s mwk_n)))))))) (t_Nb_judge_J125 hR63 hr)
            · refine j_iload (pc := 121) d_Nb_judge_121 rfl ?_
              refine j_istore (pc := 123) (ls' := [(2, v0), (9, 0), (0, v2), (2, v3), (0, v7), (0, x2), (0, v6), (0, v7)]) d_Nb_judge_123 rfl ?_
              exact mJ_weak (ls' := [(2, v0), (9, 0), (0, v2), (2, v3), (0, v7), (0, x2), (0, v6), (0, v7)]) (mwk_s (mwk_s (mwk_s (mwk_s (mwk_s (mwk_s (mwk_s (mwk_s mwk_n)))))))) (t_Nb_judge_J125 hR63 hr)
        · refine j_iload (pc := 98) d_Nb_judge_98 rfl ?_
          refine j_istore (pc := 100) (ls' := [(2, v0), (9, 0), (0, v2), (2, v3), (0, v4), (0, x2), (0, v7), (0, v7)]) d_Nb_judge_100 rfl ?_
          refine j_goto (pc := 102) (tgt := 125) d_Nb_judge_102 ?_
          exact mJ_weak (ls' := [(2, v0), (9, 0), (0, v2), (2, v3), (0, v4), (0, x2), (0, v7), (0, v7)]) (mwk_s (mwk_s (mwk_s (mwk_s (mwk_s (mwk_s (mwk_s (mwk_s mwk_n)))))))) (t_Nb_judge_J125 hR63 hr)
theorem t_Nb_judge_J166 {G : mG} {r : mR} {v0 : Int} {h : mH}  (hr : f_Nb_judge_J166 v0 h = some r) : mJ G M_Nb_judge 166 [(2, v0), (9, 0), (9, 0), (9, 0), (9, 0), (9, 0), (9, 0), (9, 0)] [] h r := by
  unfold f_Nb_judge_J166 at hr
  refine j_aload_n (pc := 166) d_Nb_judge_166 rfl ?_
  refine j_getf (pc := 167) d_Nb_judge_167 (fd_Nb_31 rfl) hr (fun hr => ?_)
  obtain ⟨ha, hr⟩ := chk_some hr
  refine j_callG (pc := 170) (stk := [(2, hpV h v0 7)]) (as := [(2, hpV h v0 7)]) (P := (fun v9 => ((0 : Nat), v9) :: [])) (tg := 0) (My := M_Box_isOpened) (mRunV (as := []) (st := []) d_Nb_judge_170 (mc_Box_isOpened (by decide)) rfl (mv_Box_isOpened tb_ml_Nb_212) rfl (Nat.le_of_ble_eq_true rfl) ha) (fun v => rfl) rfl hr (fun r1 h1 => t_Box_isOpened _ _ _ h1) (fun x2 h1 hr => ?_)
  refine j_if_eq (pc := 173) (tgt := 180) d_Nb_judge_173 hr (fun hr => ?_) (fun hr => ?_)
  · refine j_iconst (pc := 180) d_Nb_judge_180 ?_
    exact j_iret (pc := 181) d_Nb_judge_181 rfl hr
  · refine j_iconst (pc := 176) d_Nb_judge_176 ?_
    refine j_goto (pc := 177) (tgt := 181) d_Nb_judge_177 ?_
    exact j_iret (pc := 181) d_Nb_judge_181 rfl hr
theorem t_Nb_judge_J131 {G : mG} {r : mR} {v0 v2 v4 v5 v6 : Int} {h : mH}  (hr : f_Nb_judge_J131 v0 v2 v4 v5 v6 h = some r) : mJ G M_Nb_judge 131 [(2, v0), (9, 0), (0, v2), (9, 0), (0, v4), (0, v5), (0, v6), (9, 0)] [] h r := by
  unfold f_Nb_judge_J131 at hr
  refine j_iload_n (pc := 131) d_Nb_judge_131 rfl ?_
  refine j_tabK (pc := 132) (c := 0) (tgt := 160) d_Nb_judge_132 (by decide) (by decide) rfl (by decide) hr (fun hr => ?_) (fun q0 hr => ?_)
  · refine j_iload (pc := 160) d_Nb_judge_160 rfl ?_
    exact j_iret (pc := 162) d_Nb_judge_162 rfl hr
  refine j_tabK (pc := 132) (c := 1) (tgt := 163) d_Nb_judge_132 (by decide) (by decide) rfl (by decide) hr (fun hr => ?_) (fun q1 hr => ?_)
  · refine j_iload (pc := 163) d_Nb_judge_163 rfl ?_
    exact j_iret (pc := 165) d_Nb_judge_165 rfl hr
  refine j_tabK (pc := 132) (c := 2) (tgt := 166) d_Nb_judge_132 (by decide) (by decide) rfl (by decide) hr (fun hr => ?_) (fun q2 hr => ?_)
  · exact mJ_weak (ls' := [(2, v0), (9, 0), (9, 0), (9, 0), (9, 0), (9, 0), (9, 0), (9, 0)]) (mwk_s (mwk_s (mwk_d (mwk_s (mwk_d (mwk_d (mwk_d (mwk_s mwk_n)))))))) (t_Nb_judge_J166  hr)
  refine j_tabOut (pc := 132) (tgt := 182) d_Nb_judge_132 (by omega) (by decide) ?_
  refine j_iload (pc := 182) d_Nb_judge_182 rfl ?_
  exact j_iret (pc := 184) d_Nb_judge_184 rfl hr
theorem t_Nb_judge_J52 {G : mG} {r : mR} {v0 v2 v3 s0 : Int} {h : mH}  (hr : f_Nb_judge_J52 v0 v2 v3 s0 h = some r) : mJ G M_Nb_judge 52 [(2, v0), (9, 0), (0, v2), (2, v3), (9, 0), (9, 0), (9, 0), (9, 0)] [(0, s0)] h r := by
  unfold f_Nb_judge_J52 at hr
  refine j_istore (pc := 52) (ls' := [(2, v0), (9, 0), (0, v2), (2, v3), (0, s0), (9, 0), (9, 0), (9, 0)]) d_Nb_judge_52 rfl ?_
  refine j_iconst (pc := 54) d_Nb_judge_54 ?_
  refine j_istore (pc := 55) (ls' := [(2, v0), (9, 0), (0, v2), (2, v3), (0, s0), (0, 0), (9, 0), (9, 0)]) d_Nb_judge_55 rfl ?_
  refine j_iconst (pc := 57) d_Nb_judge_57 ?_
  refine j_istore (pc := 58) (ls' := [(2, v0), (9, 0), (0, v2), (2, v3), (0, s0), (0, 0), (0, (-1)), (9, 0)]) d_Nb_judge_58 rfl ?_
  refine j_iconst (pc := 60) d_Nb_judge_60 ?_
  refine j_istore (pc := 61) (ls' := [(2, v0), (9, 0), (0, v2), (2, v3), (0, s0), (0, 0), (0, (-1)), (0, 0)]) d_Nb_judge_61 rfl ?_
  refine mJ_weak (ls' := [(2, v0), (9, 0), (0, v2), (2, v3), (0, s0), (0, 0), (0, (-1)), (0, 0)]) (mwk_s (mwk_s (mwk_s (mwk_s (mwk_s (mwk_s (mwk_s (mwk_s mwk_n)))))))) (t_Nb_judge_L63 (fun h1 x2 x3 x4 hr => ?_) _ _ _ _ _ _ hr)
  · exact mJ_weak (ls' := [(2, v0), (9, 0), (0, v2), (9, 0), (0, x2), (0, x3), (0, x4), (9, 0)]) (mwk_s (mwk_s (mwk_s (mwk_s (mwk_s (mwk_s (mwk_s (mwk_s mwk_n)))))))) (t_Nb_judge_J131  hr)
theorem t_Nb_judge {G : mG} (h : mH) (v0 v1 v2 : Int) (r : mR) (hr : f_Nb_judge h v0 v1 v2 = some r) : mJM G M_Nb_judge [(2, v0), (0, v1), (0, v2)] h r := by
  refine mJM_of (L := [(2, v0), (0, v1), (0, v2), (9, 0), (9, 0), (9, 0), (9, 0), (9, 0)]) rfl rfl rfl (Nat.le_of_ble_eq_true rfl) ?_
  unfold f_Nb_judge at hr
  refine j_aload_n (pc := 0) d_Nb_judge_0 rfl ?_
  refine j_iload_n (pc := 1) d_Nb_judge_1 rfl ?_
  obtain ⟨ha, hr⟩ := chk_some hr
  refine j_callG (pc := 2) (stk := [(0, v1), (2, v0)]) (as := [(2, v0), (0, v1)]) (P := (fun v9 => ((2 : Nat), v9) :: [])) (tg := 2) (My := M_Nb_needTray) (mRunV (as := [(0, v1)]) (st := []) d_Nb_judge_2 (mc_Nb_needTray (by decide)) rfl (mv_Nb_needTray tb_ml_Nb_228) rfl (Nat.le_of_ble_eq_true rfl) ha) (fun v => rfl) rfl hr (fun r1 h1 => t_Nb_needTray _ _ _ _ h1) (fun x2 h1 hr => ?_)
  refine j_astore_n (pc := 5) (ls' := [(2, v0), (0, v1), (0, v2), (2, x2), (9, 0), (9, 0), (9, 0), (9, 0)]) d_Nb_judge_5 rfl ?_
  refine j_iload_n (pc := 6) d_Nb_judge_6 rfl ?_
  refine j_if_lt (pc := 7) (tgt := 15) d_Nb_judge_7 hr (fun hr => ?_) (fun hr => ?_)
  · exact j_throw (pc := 15) (x9 := 7) (text := "what is 0 to 3") (k := 19) d_Nb_judge_15 d_Nb_judge_18 d_Nb_judge_19 d_Nb_judge_21 d_Nb_judge_24 rfl (by decide +kernel) tb_cl_Nb_109 tb_in_java_lang_IllegalArgumentException (by decide +kernel) rfl (Nat.le_of_ble_eq_true rfl) hr
  · refine j_iload_n (pc := 10) d_Nb_judge_10 rfl ?_
    refine j_iconst (pc := 11) d_Nb_judge_11 ?_
    refine j_icmp_le (pc := 12) (tgt := 25) d_Nb_judge_12 hr (fun hr => ?_) (fun hr => ?_)
    · refine j_aload_n (pc := 25) d_Nb_judge_25 rfl ?_
      refine j_getf (pc := 26) d_Nb_judge_26 (fd_Nb_31 rfl) hr (fun hr => ?_)
      refine j_aload_n (pc := 29) d_Nb_judge_29 rfl ?_
      refine j_getf (pc := 30) d_Nb_judge_30 (fd_Nb_27 rfl) hr (fun hr => ?_)
      obtain ⟨ha, hr⟩ := chk_some hr
      refine j_callG (pc := 33) (stk := [(2, hpV h1 v0 6), (2, hpV h1 v0 7)]) (as := [(2, hpV h1 v0 7), (2, hpV h1 v0 6)]) (P := (fun v9 => [])) (tg := 3) (My := M_Box_become) (mRunV (as := [(2, hpV h1 v0 6)]) (st := []) d_Nb_judge_33 (mc_Box_become (by decide)) rfl (mv_Box_become tb_ml_Nb_135) rfl (Nat.le_of_ble_eq_true rfl) ha) (fun v => rfl) rfl hr (fun r1 h1 => t_Box_become _ _ _ _ h1) (fun x4 h3 hr => ?_)
      refine j_aload_n (pc := 36) d_Nb_judge_36 rfl ?_
      refine j_getf (pc := 37) d_Nb_judge_37 (fd_Nb_31 rfl) hr (fun hr => ?_)
      obtain ⟨ha, hr⟩ := chk_some hr
      refine j_callG (pc := 40) (stk := [(2, hpV h3 v0 7)]) (as := [(2, hpV h3 v0 7)]) (P := (fun v9 => ((0 : Nat), v9) :: [])) (tg := 0) (My := M_Box_isOpened) (mRunV (as := []) (st := []) d_Nb_judge_40 (mc_Box_isOpened (by decide)) rfl (mv_Box_isOpened tb_ml_Nb_212) rfl (Nat.le_of_ble_eq_true rfl) ha) (fun v => rfl) rfl hr (fun r1 h1 => t_Box_isOpened _ _ _ h1) (fun x6 h5 hr => ?_)
      refine j_if_eq (pc := 43) (tgt := 51) d_Nb_judge_43 hr (fun hr => ?_) (fun hr => ?_)
      · refine j_iconst (pc := 51) d_Nb_judge_51 ?_
        exact mJ_weak (ls' := [(2, v0), (9, 0), (0, v2), (2, x2), (9, 0), (9, 0), (9, 0), (9, 0)]) (mwk_s (mwk_d (mwk_s (mwk_s (mwk_s (mwk_s (mwk_s (mwk_s mwk_n)))))))) (t_Nb_judge_J52  hr)
      · refine j_bipush (pc := 46) d_Nb_judge_46 ?_
        refine j_goto (pc := 48) (tgt := 52) d_Nb_judge_48 ?_
        exact mJ_weak (ls' := [(2, v0), (9, 0), (0, v2), (2, x2), (9, 0), (9, 0), (9, 0), (9, 0)]) (mwk_s (mwk_d (mwk_s (mwk_s (mwk_s (mwk_s (mwk_s (mwk_s mwk_n)))))))) (t_Nb_judge_J52  hr)
    · exact j_throw (pc := 15) (x9 := 7) (text := "what is 0 to 3") (k := 19) d_Nb_judge_15 d_Nb_judge_18 d_Nb_judge_19 d_Nb_judge_21 d_Nb_judge_24 rfl (by decide +kernel) tb_cl_Nb_109 tb_in_java_lang_IllegalArgumentException (by decide +kernel) rfl (Nat.le_of_ble_eq_true rfl) hr
def M_Nb_perform : mM := ("NineBars", ⟨"NineBars", "perform", "(I)I"⟩, prog_1_method_14_code, 4, some .int, [], 13)
theorem tb_co_Nb_perform : mTB (Cond.code ⟨"NineBars", "perform", "(I)I"⟩ prog_1_method_14_code 4 (some .int)) := tbq4 214 (by decide +kernel) rfl
theorem mc_Nb_perform {M : mM} (hd : 13 < mDp M) : mCal M M_Nb_perform 1 := ⟨tb_co_Nb_perform, tb_in_NineBars, ⟨by decide +kernel, by decide +kernel⟩, by decide +kernel, hd, by decide⟩
theorem d_Nb_perform_0 : decode prog_1_method_14_code 0 = .ok (.aload_n 0, 1) := by decide +kernel
theorem d_Nb_perform_1 : decode prog_1_method_14_code 1 = .ok (.iload_n 1, 1) := by decide +kernel
theorem d_Nb_perform_2 : decode prog_1_method_14_code 2 = .ok (.invokevirtual 228, 3) := by decide +kernel
theorem d_Nb_perform_5 : decode prog_1_method_14_code 5 = .ok (.astore_n 2, 1) := by decide +kernel
theorem d_Nb_perform_6 : decode prog_1_method_14_code 6 = .ok (.iconst 0, 1) := by decide +kernel
theorem d_Nb_perform_7 : decode prog_1_method_14_code 7 = .ok (.istore_n 3, 1) := by decide +kernel
theorem d_Nb_perform_8 : decode prog_1_method_14_code 8 = .ok (.iload_n 3, 1) := by decide +kernel
theorem d_Nb_perform_9 : decode prog_1_method_14_code 9 = .ok (.aload_n 2, 1) := by decide +kernel
theorem d_Nb_perform_10 : decode prog_1_method_14_code 10 = .ok (.getfield 234, 3) := by decide +kernel
theorem d_Nb_perform_13 : decode prog_1_method_14_code 13 = .ok (.if_icmp .ge 27, 3) := by decide +kernel
theorem d_Nb_perform_40 : decode prog_1_method_14_code 40 = .ok (.aload_n 2, 1) := by decide +kernel
theorem d_Nb_perform_41 : decode prog_1_method_14_code 41 = .ok (.getfield 234, 3) := by decide +kernel
theorem d_Nb_perform_44 : decode prog_1_method_14_code 44 = .ok (.ireturn, 1) := by decide +kernel
theorem d_Nb_perform_16 : decode prog_1_method_14_code 16 = .ok (.aload_n 0, 1) := by decide +kernel
theorem d_Nb_perform_17 : decode prog_1_method_14_code 17 = .ok (.getfield 27, 3) := by decide +kernel
theorem d_Nb_perform_20 : decode prog_1_method_14_code 20 = .ok (.aload_n 2, 1) := by decide +kernel
theorem d_Nb_perform_21 : decode prog_1_method_14_code 21 = .ok (.getfield 237, 3) := by decide +kernel
theorem d_Nb_perform_24 : decode prog_1_method_14_code 24 = .ok (.iload_n 3, 1) := by decide +kernel
theorem d_Nb_perform_25 : decode prog_1_method_14_code 25 = .ok (.laload, 1) := by decide +kernel
theorem d_Nb_perform_26 : decode prog_1_method_14_code 26 = .ok (.invokevirtual 241, 3) := by decide +kernel
theorem d_Nb_perform_29 : decode prog_1_method_14_code 29 = .ok (.ifCond .eq 5, 3) := by decide +kernel
theorem d_Nb_perform_34 : decode prog_1_method_14_code 34 = .ok (.iinc 3 1, 3) := by decide +kernel
theorem d_Nb_perform_37 : decode prog_1_method_14_code 37 = .ok (.goto (-29), 3) := by decide +kernel
theorem d_Nb_perform_32 : decode prog_1_method_14_code 32 = .ok (.iload_n 3, 1) := by decide +kernel
theorem d_Nb_perform_33 : decode prog_1_method_14_code 33 = .ok (.ireturn, 1) := by decide +kernel
theorem t_Nb_perform_L8 {G : mG} {r : mR} {v0 v2 : Int}  : ∀ (n : Nat) (h : mH) (v3 : Int), f_Nb_perform_L8 v0 v2 n h v3 = some r → mJ G M_Nb_perform 8 [(2, v0), (9, 0), (2, v2), (0, v3)] [] h r := by
  intro n
  induction n with
  | zero =>
    intro h v3 hr
    rw [f_Nb_perform_L8] at hr
    cases hr
  | succ n hR8 =>
    intro h v3 hr
    rw [f_Nb_perform_L8] at hr
    refine j_iload_n (pc := 8) d_Nb_perform_8 rfl ?_
    refine j_aload_n (pc := 9) d_Nb_perform_9 rfl ?_
    refine j_getf (pc := 10) d_Nb_perform_10 (fd_Nb_234 rfl) hr (fun hr => ?_)
    refine j_icmp_ge (pc := 13) (tgt := 40) d_Nb_perform_13 hr (fun hr => ?_) (fun hr => ?_)
    · refine j_aload_n (pc := 40) d_Nb_perform_40 rfl ?_
      refine j_getf (pc := 41) d_Nb_perform_41 (fd_Nb_234 rfl) hr (fun hr => ?_)
      exact j_iret (pc := 44) d_Nb_perform_44 rfl hr
    · refine j_aload_n (pc := 16) d_Nb_perform_16 rfl ?_
      refine j_getf (pc := 17) d_Nb_perform_17 (fd_Nb_27 rfl) hr (fun hr => ?_)
      refine j_aload_n (pc := 20) d_Nb_perform_20 rfl ?_
      refine j_getf (pc := 21) d_Nb_perform_21 (fd_Nb_237 rfl) hr (fun hr => ?_)
      refine j_iload_n (pc := 24) d_Nb_perform_24 rfl ?_
      refine j_laload (pc := 25) d_Nb_perform_25 hr (fun hr => ?_)
      obtain ⟨ha, hr⟩ := chk_some hr
      refine j_callG (pc := 26) (stk := [(1, hpV h (hpV h v2 0) v3), (2, hpV h v0 6)]) (as := [(2, hpV h v0 6), (1, hpV h (hpV h v2 0) v3)]) (P := (fun v9 => ((0 : Nat), v9) :: [])) (tg := 0) (My := M_Box_makeNumber) (mRunV (as := [(1, hpV h (hpV h v2 0) v3)]) (st := []) d_Nb_perform_26 (mc_Box_makeNumber (by decide)) rfl (mv_Box_makeNumber tb_ml_Nb_241) rfl (Nat.le_of_ble_eq_true rfl) ha) (fun v => rfl) rfl hr (fun r1 h1 => t_Box_makeNumber _ _ _ _ h1) (fun x2 h1 hr => ?_)
      refine j_if_eq (pc := 29) (tgt := 34) d_Nb_perform_29 hr (fun hr => ?_) (fun hr => ?_)
      · refine j_iincW (pc := 34) (L := fun x3 => [(2, v0), (9, 0), (2, v2), (0, x3)]) d_Nb_perform_34 rfl (fun _ => rfl) hr (fun x3 hr => ?_)
        refine j_goto (pc := 37) (tgt := 8) d_Nb_perform_37 ?_
        exact mJ_weak (ls' := [(2, v0), (9, 0), (2, v2), (0, x3)]) (mwk_s (mwk_s (mwk_s (mwk_s mwk_n)))) (hR8 h1 _ hr)
      · refine j_iload_n (pc := 32) d_Nb_perform_32 rfl ?_
        exact j_iret (pc := 33) d_Nb_perform_33 rfl hr
theorem t_Nb_perform {G : mG} (h : mH) (v0 v1 : Int) (r : mR) (hr : f_Nb_perform h v0 v1 = some r) : mJM G M_Nb_perform [(2, v0), (0, v1)] h r := by
  refine mJM_of (L := [(2, v0), (0, v1), (9, 0), (9, 0)]) rfl rfl rfl (Nat.le_of_ble_eq_true rfl) ?_
  unfold f_Nb_perform at hr
  refine j_aload_n (pc := 0) d_Nb_perform_0 rfl ?_
  refine j_iload_n (pc := 1) d_Nb_perform_1 rfl ?_
  obtain ⟨ha, hr⟩ := chk_some hr
  refine j_callG (pc := 2) (stk := [(0, v1), (2, v0)]) (as := [(2, v0), (0, v1)]) (P := (fun v9 => ((2 : Nat), v9) :: [])) (tg := 2) (My := M_Nb_needTray) (mRunV (as := [(0, v1)]) (st := []) d_Nb_perform_2 (mc_Nb_needTray (by decide)) rfl (mv_Nb_needTray tb_ml_Nb_228) rfl (Nat.le_of_ble_eq_true rfl) ha) (fun v => rfl) rfl hr (fun r1 h1 => t_Nb_needTray _ _ _ _ h1) (fun x2 h1 hr => ?_)
  refine j_astore_n (pc := 5) (ls' := [(2, v0), (0, v1), (2, x2), (9, 0)]) d_Nb_perform_5 rfl ?_
  refine j_iconst (pc := 6) d_Nb_perform_6 ?_
  refine j_istore_n (pc := 7) (ls' := [(2, v0), (0, v1), (2, x2), (0, 0)]) d_Nb_perform_7 rfl ?_
  refine mJ_weak (ls' := [(2, v0), (9, 0), (2, x2), (0, 0)]) (mwk_s (mwk_d (mwk_s (mwk_s mwk_n)))) (t_Nb_perform_L8  _ _ _ hr)
def M_Nb_nextDraw : mM := ("NineBars", ⟨"NineBars", "nextDraw", "(I)I"⟩, prog_1_method_46_code, 1, some .int, [], 1)
theorem tb_co_Nb_nextDraw : mTB (Cond.code ⟨"NineBars", "nextDraw", "(I)I"⟩ prog_1_method_46_code 1 (some .int)) := tbq4 226 (by decide +kernel) rfl
theorem mc_Nb_nextDraw {M : mM} (hd : 1 < mDp M) : mCal M M_Nb_nextDraw 1 := ⟨tb_co_Nb_nextDraw, tb_in_NineBars, ⟨by decide +kernel, by decide +kernel⟩, by decide +kernel, hd, by decide⟩
theorem tb_ci_Nb_439 : mTB (Cond.constant "NineBars" 439 1103515245) := tbq4 227 (by decide +kernel) rfl
theorem d_Nb_nextDraw_0 : decode prog_1_method_46_code 0 = .ok (.ldc_w 439, 3) := by decide +kernel
theorem d_Nb_nextDraw_3 : decode prog_1_method_46_code 3 = .ok (.iload_n 0, 1) := by decide +kernel
theorem d_Nb_nextDraw_4 : decode prog_1_method_46_code 4 = .ok (.imul, 1) := by decide +kernel
theorem d_Nb_nextDraw_5 : decode prog_1_method_46_code 5 = .ok (.sipush 12345, 3) := by decide +kernel
theorem d_Nb_nextDraw_8 : decode prog_1_method_46_code 8 = .ok (.iadd, 1) := by decide +kernel
theorem d_Nb_nextDraw_9 : decode prog_1_method_46_code 9 = .ok (.ireturn, 1) := by decide +kernel
theorem t_Nb_nextDraw {G : mG} (h : mH) (v0 : Int) (r : mR) (hr : f_Nb_nextDraw h v0 = some r) : mJM G M_Nb_nextDraw [(0, v0)] h r := by
  refine mJM_of (L := [(0, v0)]) rfl rfl rfl (Nat.le_of_ble_eq_true rfl) ?_
  unfold f_Nb_nextDraw at hr
  refine j_ldcw (pc := 0) (z := 1103515245) d_Nb_nextDraw_0 tb_ci_Nb_439 rfl ?_
  refine j_iload_n (pc := 3) d_Nb_nextDraw_3 rfl ?_
  refine j_imul (pc := 4) d_Nb_nextDraw_4 ?_
  refine j_sipush (pc := 5) d_Nb_nextDraw_5 ?_
  refine j_iadd (pc := 8) d_Nb_nextDraw_8 ?_
  exact j_iret (pc := 9) d_Nb_nextDraw_9 rfl hr
def M_Nb_thief : mM := ("NineBars", ⟨"NineBars", "thief", "(II)I"⟩, prog_1_method_15_code, 8, some .int, [], 11)
theorem tb_co_Nb_thief : mTB (Cond.code ⟨"NineBars", "thief", "(II)I"⟩ prog_1_method_15_code 8 (some .int)) := tbq4 221 (by decide +kernel) rfl
theorem mc_Nb_thief {M : mM} (hd : 11 < mDp M) : mCal M M_Nb_thief 2 := ⟨tb_co_Nb_thief, tb_in_NineBars, ⟨by decide +kernel, by decide +kernel⟩, by decide +kernel, hd, by decide⟩
theorem d_Nb_thief_0 : decode prog_1_method_15_code 0 = .ok (.iload_n 2, 1) := by decide +kernel
theorem d_Nb_thief_1 : decode prog_1_method_15_code 1 = .ok (.iconst 1, 1) := by decide +kernel
theorem d_Nb_thief_2 : decode prog_1_method_15_code 2 = .ok (.if_icmp .lt 9, 3) := by decide +kernel
theorem d_Nb_thief_11 : decode prog_1_method_15_code 11 = .ok (.new 109, 3) := by decide +kernel
theorem d_Nb_thief_14 : decode prog_1_method_15_code 14 = .ok (.dup, 1) := by decide +kernel
theorem d_Nb_thief_15 : decode prog_1_method_15_code 15 = .ok (.ldc 245, 2) := by decide +kernel
theorem d_Nb_thief_17 : decode prog_1_method_15_code 17 = .ok (.invokespecial 113, 3) := by decide +kernel
theorem d_Nb_thief_20 : decode prog_1_method_15_code 20 = .ok (.athrow, 1) := by decide +kernel
theorem d_Nb_thief_5 : decode prog_1_method_15_code 5 = .ok (.iload_n 2, 1) := by decide +kernel
theorem d_Nb_thief_6 : decode prog_1_method_15_code 6 = .ok (.bipush 60, 2) := by decide +kernel
theorem d_Nb_thief_8 : decode prog_1_method_15_code 8 = .ok (.if_icmp .le 13, 3) := by decide +kernel
theorem d_Nb_thief_21 : decode prog_1_method_15_code 21 = .ok (.aload_n 0, 1) := by decide +kernel
theorem d_Nb_thief_22 : decode prog_1_method_15_code 22 = .ok (.getfield 27, 3) := by decide +kernel
theorem d_Nb_thief_25 : decode prog_1_method_15_code 25 = .ok (.getfield 222, 3) := by decide +kernel
theorem d_Nb_thief_28 : decode prog_1_method_15_code 28 = .ok (.istore_n 3, 1) := by decide +kernel
theorem d_Nb_thief_29 : decode prog_1_method_15_code 29 = .ok (.iload_n 3, 1) := by decide +kernel
theorem d_Nb_thief_30 : decode prog_1_method_15_code 30 = .ok (.ifCond .gt 13, 3) := by decide +kernel
theorem d_Nb_thief_43 : decode prog_1_method_15_code 43 = .ok (.iload_n 1, 1) := by decide +kernel
theorem d_Nb_thief_44 : decode prog_1_method_15_code 44 = .ok (.istore 4, 2) := by decide +kernel
theorem d_Nb_thief_46 : decode prog_1_method_15_code 46 = .ok (.iconst 0, 1) := by decide +kernel
theorem d_Nb_thief_47 : decode prog_1_method_15_code 47 = .ok (.istore 5, 2) := by decide +kernel
theorem d_Nb_thief_49 : decode prog_1_method_15_code 49 = .ok (.iconst 0, 1) := by decide +kernel
theorem d_Nb_thief_50 : decode prog_1_method_15_code 50 = .ok (.istore 6, 2) := by decide +kernel
theorem d_Nb_thief_52 : decode prog_1_method_15_code 52 = .ok (.iload 6, 2) := by decide +kernel
theorem d_Nb_thief_54 : decode prog_1_method_15_code 54 = .ok (.iload_n 2, 1) := by decide +kernel
theorem d_Nb_thief_55 : decode prog_1_method_15_code 55 = .ok (.if_icmp .ge 73, 3) := by decide +kernel
theorem d_Nb_thief_128 : decode prog_1_method_15_code 128 = .ok (.iload 5, 2) := by decide +kernel
theorem d_Nb_thief_130 : decode prog_1_method_15_code 130 = .ok (.ireturn, 1) := by decide +kernel
theorem d_Nb_thief_58 : decode prog_1_method_15_code 58 = .ok (.aload_n 0, 1) := by decide +kernel
theorem d_Nb_thief_59 : decode prog_1_method_15_code 59 = .ok (.getfield 27, 3) := by decide +kernel
theorem d_Nb_thief_62 : decode prog_1_method_15_code 62 = .ok (.invokevirtual 212, 3) := by decide +kernel
theorem d_Nb_thief_65 : decode prog_1_method_15_code 65 = .ok (.ifCond .ne 63, 3) := by decide +kernel
theorem d_Nb_thief_68 : decode prog_1_method_15_code 68 = .ok (.iload 4, 2) := by decide +kernel
theorem d_Nb_thief_70 : decode prog_1_method_15_code 70 = .ok (.invokestatic 252, 3) := by decide +kernel
theorem tb_ml_Nb_252 : mTB (Cond.methodLink "NineBars" 252 ⟨"NineBars", "nextDraw", "(I)I"⟩) := tbq4 224 (by decide +kernel) rfl
theorem tb_sm_Nb_nextDraw : mTB (Cond.static ⟨"NineBars", "nextDraw", "(I)I"⟩) := tbq4 225 (by decide +kernel) rfl
theorem d_Nb_thief_73 : decode prog_1_method_15_code 73 = .ok (.istore 4, 2) := by decide +kernel
theorem d_Nb_thief_75 : decode prog_1_method_15_code 75 = .ok (.iload 4, 2) := by decide +kernel
theorem d_Nb_thief_77 : decode prog_1_method_15_code 77 = .ok (.bipush 16, 2) := by decide +kernel
theorem d_Nb_thief_79 : decode prog_1_method_15_code 79 = .ok (.iushr, 1) := by decide +kernel
theorem d_Nb_thief_80 : decode prog_1_method_15_code 80 = .ok (.iload_n 3, 1) := by decide +kernel
theorem d_Nb_thief_81 : decode prog_1_method_15_code 81 = .ok (.irem, 1) := by decide +kernel
theorem d_Nb_thief_82 : decode prog_1_method_15_code 82 = .ok (.istore 7, 2) := by decide +kernel
theorem d_Nb_thief_84 : decode prog_1_method_15_code 84 = .ok (.iload 4, 2) := by decide +kernel
theorem d_Nb_thief_86 : decode prog_1_method_15_code 86 = .ok (.invokestatic 252, 3) := by decide +kernel
theorem d_Nb_thief_89 : decode prog_1_method_15_code 89 = .ok (.istore 4, 2) := by decide +kernel
theorem d_Nb_thief_91 : decode prog_1_method_15_code 91 = .ok (.aload_n 0, 1) := by decide +kernel
theorem d_Nb_thief_92 : decode prog_1_method_15_code 92 = .ok (.getfield 27, 3) := by decide +kernel
theorem d_Nb_thief_95 : decode prog_1_method_15_code 95 = .ok (.iload 7, 2) := by decide +kernel
theorem d_Nb_thief_97 : decode prog_1_method_15_code 97 = .ok (.iload 4, 2) := by decide +kernel
theorem d_Nb_thief_99 : decode prog_1_method_15_code 99 = .ok (.bipush 16, 2) := by decide +kernel
theorem d_Nb_thief_101 : decode prog_1_method_15_code 101 = .ok (.iushr, 1) := by decide +kernel
theorem d_Nb_thief_102 : decode prog_1_method_15_code 102 = .ok (.iconst 1, 1) := by decide +kernel
theorem d_Nb_thief_103 : decode prog_1_method_15_code 103 = .ok (.iand, 1) := by decide +kernel
theorem d_Nb_thief_104 : decode prog_1_method_15_code 104 = .ok (.iconst 1, 1) := by decide +kernel
theorem d_Nb_thief_105 : decode prog_1_method_15_code 105 = .ok (.if_icmp .ne 7, 3) := by decide +kernel
theorem d_Nb_thief_112 : decode prog_1_method_15_code 112 = .ok (.iconst 0, 1) := by decide +kernel
theorem d_Nb_thief_113 : decode prog_1_method_15_code 113 = .ok (.invokevirtual 219, 3) := by decide +kernel
theorem d_Nb_thief_116 : decode prog_1_method_15_code 116 = .ok (.ifCond .ne 6, 3) := by decide +kernel
theorem d_Nb_thief_122 : decode prog_1_method_15_code 122 = .ok (.iinc 6 1, 3) := by decide +kernel
theorem d_Nb_thief_125 : decode prog_1_method_15_code 125 = .ok (.goto (-73), 3) := by decide +kernel
theorem d_Nb_thief_119 : decode prog_1_method_15_code 119 = .ok (.iinc 5 1, 3) := by decide +kernel
theorem d_Nb_thief_108 : decode prog_1_method_15_code 108 = .ok (.iconst 1, 1) := by decide +kernel
theorem d_Nb_thief_109 : decode prog_1_method_15_code 109 = .ok (.goto 4, 3) := by decide +kernel
theorem d_Nb_thief_33 : decode prog_1_method_15_code 33 = .ok (.new 247, 3) := by decide +kernel
theorem d_Nb_thief_36 : decode prog_1_method_15_code 36 = .ok (.dup, 1) := by decide +kernel
theorem d_Nb_thief_37 : decode prog_1_method_15_code 37 = .ok (.ldc 249, 2) := by decide +kernel
theorem d_Nb_thief_39 : decode prog_1_method_15_code 39 = .ok (.invokespecial 251, 3) := by decide +kernel
theorem d_Nb_thief_42 : decode prog_1_method_15_code 42 = .ok (.athrow, 1) := by decide +kernel
theorem t_Nb_thief_J122 {G : mG} {r : mR} {v0 v2 v3 v4 v5 v6 : Int} {h : mH} {R52 : mH → Int → Int → Int → Option mR} (hR52 : ∀ (h : mH) (w4 w5 w6 : Int) , R52 h w4 w5 w6 = some r → mJ G M_Nb_thief 52 [(2, v0), (9, 0), (0, v2), (0, v3), (0, w4), (0, w5), (0, w6), (9, 0)] [] h r) (hr : f_Nb_thief_J122 R52 v4 v5 v6 h = some r) : mJ G M_Nb_thief 122 [(2, v0), (9, 0), (0, v2), (0, v3), (0, v4), (0, v5), (0, v6), (9, 0)] [] h r := by
  unfold f_Nb_thief_J122 at hr
  refine j_iincW (pc := 122) (L := fun x1 => [(2, v0), (9, 0), (0, v2), (0, v3), (0, v4), (0, v5), (0, x1), (9, 0)]) d_Nb_thief_122 rfl (fun _ => rfl) hr (fun x1 hr => ?_)
  refine j_goto (pc := 125) (tgt := 52) d_Nb_thief_125 ?_
  exact mJ_weak (ls' := [(2, v0), (9, 0), (0, v2), (0, v3), (0, v4), (0, v5), (0, x1), (9, 0)]) (mwk_s (mwk_s (mwk_s (mwk_s (mwk_s (mwk_s (mwk_s (mwk_s mwk_n)))))))) (hR52 h _ _ _ hr)
theorem t_Nb_thief_J113 {G : mG} {r : mR} {v0 v2 v3 v4 v5 v6 s0 s1 s2 : Int} {h : mH} {R52 : mH → Int → Int → Int → Option mR} (hR52 : ∀ (h : mH) (w4 w5 w6 : Int) , R52 h w4 w5 w6 = some r → mJ G M_Nb_thief 52 [(2, v0), (9, 0), (0, v2), (0, v3), (0, w4), (0, w5), (0, w6), (9, 0)] [] h r) (hr : f_Nb_thief_J113 R52 v4 v5 v6 s0 s1 s2 h = some r) : mJ G M_Nb_thief 113 [(2, v0), (9, 0), (0, v2), (0, v3), (0, v4), (0, v5), (0, v6), (9, 0)] [(0, s2), (0, s1), (2, s0)] h r := by
  unfold f_Nb_thief_J113 at hr
  obtain ⟨ha, hr⟩ := chk_some hr
  refine j_callG (pc := 113) (stk := [(0, s2), (0, s1), (2, s0)]) (as := [(2, s0), (0, s1), (0, s2)]) (P := (fun v9 => ((0 : Nat), v9) :: [])) (tg := 0) (My := M_Box_makeStep) (mRunV (as := [(0, s1), (0, s2)]) (st := []) d_Nb_thief_113 (mc_Box_makeStep (by decide)) rfl (mv_Box_makeStep tb_ml_Nb_219) rfl (Nat.le_of_ble_eq_true rfl) ha) (fun v => rfl) rfl hr (fun r1 h1 => t_Box_makeStep _ _ _ _ _ h1) (fun x2 h1 hr => ?_)
  refine j_if_ne (pc := 116) (tgt := 122) d_Nb_thief_116 hr (fun hr => ?_) (fun hr => ?_)
  · exact mJ_weak (ls' := [(2, v0), (9, 0), (0, v2), (0, v3), (0, v4), (0, v5), (0, v6), (9, 0)]) (mwk_s (mwk_s (mwk_s (mwk_s (mwk_s (mwk_s (mwk_s (mwk_s mwk_n)))))))) (t_Nb_thief_J122 hR52 hr)
  · refine j_iincW (pc := 119) (L := fun x3 => [(2, v0), (9, 0), (0, v2), (0, v3), (0, v4), (0, x3), (0, v6), (9, 0)]) d_Nb_thief_119 rfl (fun _ => rfl) hr (fun x3 hr => ?_)
    exact mJ_weak (ls' := [(2, v0), (9, 0), (0, v2), (0, v3), (0, v4), (0, x3), (0, v6), (9, 0)]) (mwk_s (mwk_s (mwk_s (mwk_s (mwk_s (mwk_s (mwk_s (mwk_s mwk_n)))))))) (t_Nb_thief_J122 hR52 hr)
theorem t_Nb_thief_L52 {G : mG} {r : mR} {v0 v2 v3 : Int}  : ∀ (n : Nat) (h : mH) (v4 v5 v6 : Int), f_Nb_thief_L52 v0 v2 v3 n h v4 v5 v6 = some r → mJ G M_Nb_thief 52 [(2, v0), (9, 0), (0, v2), (0, v3), (0, v4), (0, v5), (0, v6), (9, 0)] [] h r := by
  intro n
  induction n with
  | zero =>
    intro h v4 v5 v6 hr
    rw [f_Nb_thief_L52] at hr
    cases hr
  | succ n hR52 =>
    intro h v4 v5 v6 hr
    rw [f_Nb_thief_L52] at hr
    refine j_iload (pc := 52) d_Nb_thief_52 rfl ?_
    refine j_iload_n (pc := 54) d_Nb_thief_54 rfl ?_
    refine j_icmp_ge (pc := 55) (tgt := 128) d_Nb_thief_55 hr (fun hr => ?_) (fun hr => ?_)
    · refine j_iload (pc := 128) d_Nb_thief_128 rfl ?_
      exact j_iret (pc := 130) d_Nb_thief_130 rfl hr
    · refine j_aload_n (pc := 58) d_Nb_thief_58 rfl ?_
      refine j_getf (pc := 59) d_Nb_thief_59 (fd_Nb_27 rfl) hr (fun hr => ?_)
      obtain ⟨ha, hr⟩ := chk_some hr
      refine j_callG (pc := 62) (stk := [(2, hpV h v0 6)]) (as := [(2, hpV h v0 6)]) (P := (fun v9 => ((0 : Nat), v9) :: [])) (tg := 0) (My := M_Box_isOpened) (mRunV (as := []) (st := []) d_Nb_thief_62 (mc_Box_isOpened (by decide)) rfl (mv_Box_isOpened tb_ml_Nb_212) rfl (Nat.le_of_ble_eq_true rfl) ha) (fun v => rfl) rfl hr (fun r1 h1 => t_Box_isOpened _ _ _ h1) (fun x2 h1 hr => ?_)
      refine j_if_ne (pc := 65) (tgt := 128) d_Nb_thief_65 hr (fun hr => ?_) (fun hr => ?_)
      · refine j_iload (pc := 128) d_Nb_thief_128 rfl ?_
        exact j_iret (pc := 130) d_Nb_thief_130 rfl hr
      · refine j_iload (pc := 68) d_Nb_thief_68 rfl ?_
        refine j_callG (pc := 70) (stk := [(0, v4)]) (as := [(0, v4)]) (P := (fun v9 => ((0 : Nat), v9) :: [])) (tg := 0) (My := M_Nb_nextDraw) (mRunS (as := [(0, v4)]) (st := []) d_Nb_thief_70 (mc_Nb_nextDraw (by decide)) rfl ⟨tb_ml_Nb_252, tb_sm_Nb_nextDraw⟩ rfl (Nat.le_of_ble_eq_true rfl)) (fun v => rfl) rfl hr (fun r1 h1 => t_Nb_nextDraw _ _ _ h1) (fun x4 h3 hr => ?_)
        refine j_istore (pc := 73) (ls' := [(2, v0), (9, 0), (0, v2), (0, v3), (0, x4), (0, v5), (0, v6), (9, 0)]) d_Nb_thief_73 rfl ?_
        refine j_iload (pc := 75) d_Nb_thief_75 rfl ?_
        refine j_bipush (pc := 77) d_Nb_thief_77 ?_
        refine j_iushr (pc := 79) d_Nb_thief_79 ?_
        refine j_iload_n (pc := 80) d_Nb_thief_80 rfl ?_
        refine j_irem (pc := 81) d_Nb_thief_81 hr (fun hr => ?_)
        refine j_istoreW (pc := 82) (L := fun x5 => [(2, v0), (9, 0), (0, v2), (0, v3), (0, x4), (0, v5), (0, v6), (0, x5)]) d_Nb_thief_82 (fun _ => rfl) hr (fun x5 hr => ?_)
        refine j_iload (pc := 84) d_Nb_thief_84 rfl ?_
        refine j_callG (pc := 86) (stk := [(0, x4)]) (as := [(0, x4)]) (P := (fun v9 => ((0 : Nat), v9) :: [])) (tg := 0) (My := M_Nb_nextDraw) (mRunS (as := [(0, x4)]) (st := []) d_Nb_thief_86 (mc_Nb_nextDraw (by decide)) rfl ⟨tb_ml_Nb_252, tb_sm_Nb_nextDraw⟩ rfl (Nat.le_of_ble_eq_true rfl)) (fun v => rfl) rfl hr (fun r1 h1 => t_Nb_nextDraw _ _ _ h1) (fun x7 h6 hr => ?_)
        refine j_istore (pc := 89) (ls' := [(2, v0), (9, 0), (0, v2), (0, v3), (0, x7), (0, v5), (0, v6), (0, x5)]) d_Nb_thief_89 rfl ?_
        refine j_aload_n (pc := 91) d_Nb_thief_91 rfl ?_
        refine j_getf (pc := 92) d_Nb_thief_92 (fd_Nb_27 rfl) hr (fun hr => ?_)
        refine j_iload (pc := 95) d_Nb_thief_95 rfl ?_
        refine j_iload (pc := 97) d_Nb_thief_97 rfl ?_
        refine j_bipush (pc := 99) d_Nb_thief_99 ?_
        refine j_iushr (pc := 101) d_Nb_thief_101 ?_
        refine j_iconst (pc := 102) d_Nb_thief_102 ?_
        refine j_iand (pc := 103) d_Nb_thief_103 ?_
        refine j_iconst (pc := 104) d_Nb_thief_104 ?_
        refine j_icmp_ne (pc := 105) (tgt := 112) d_Nb_thief_105 hr (fun hr => ?_) (fun hr => ?_)
        · refine j_iconst (pc := 112) d_Nb_thief_112 ?_
          exact mJ_weak (ls' := [(2, v0), (9, 0), (0, v2), (0, v3), (0, x7), (0, v5), (0, v6), (9, 0)]) (mwk_s (mwk_s (mwk_s (mwk_s (mwk_s (mwk_s (mwk_s (mwk_d mwk_n)))))))) (t_Nb_thief_J113 hR52 hr)
        · refine j_iconst (pc := 108) d_Nb_thief_108 ?_
          refine j_goto (pc := 109) (tgt := 113) d_Nb_thief_109 ?_
          exact mJ_weak (ls' := [(2, v0), (9, 0), (0, v2), (0, v3), (0, x7), (0, v5), (0, v6), (9, 0)]) (mwk_s (mwk_s (mwk_s (mwk_s (mwk_s (mwk_s (mwk_s (mwk_d mwk_n)))))))) (t_Nb_thief_J113 hR52 hr)
theorem t_Nb_thief {G : mG} (h : mH) (v0 v1 v2 : Int) (r : mR) (hr : f_Nb_thief h v0 v1 v2 = some r) : mJM G M_Nb_thief [(2, v0), (0, v1), (0, v2)] h r := by
  refine mJM_of (L := [(2, v0), (0, v1), (0, v2), (9, 0), (9, 0), (9, 0), (9, 0), (9, 0)]) rfl rfl rfl (Nat.le_of_ble_eq_true rfl) ?_
  unfold f_Nb_thief at hr
  refine j_iload_n (pc := 0) d_Nb_thief_0 rfl ?_
  refine j_iconst (pc := 1) d_Nb_thief_1 ?_
  refine j_icmp_lt (pc := 2) (tgt := 11) d_Nb_thief_2 hr (fun hr => ?_) (fun hr => ?_)
  · exact j_throw (pc := 11) (x9 := 7) (text := "times is 1 to 60") (k := 20) d_Nb_thief_11 d_Nb_thief_14 d_Nb_thief_15 d_Nb_thief_17 d_Nb_thief_20 rfl (by decide +kernel) tb_cl_Nb_109 tb_in_java_lang_IllegalArgumentException (by decide +kernel) rfl (Nat.le_of_ble_eq_true rfl) hr
  · refine j_iload_n (pc := 5) d_Nb_thief_5 rfl ?_
    refine j_bipush (pc := 6) d_Nb_thief_6 ?_
    refine j_icmp_le (pc := 8) (tgt := 21) d_Nb_thief_8 hr (fun hr => ?_) (fun hr => ?_)
    · refine j_aload_n (pc := 21) d_Nb_thief_21 rfl ?_
      refine j_getf (pc := 22) d_Nb_thief_22 (fd_Nb_27 rfl) hr (fun hr => ?_)
      refine j_getf (pc := 25) d_Nb_thief_25 (fd_Nb_222 rfl) hr (fun hr => ?_)
      refine j_istoreW_n (pc := 28) (L := fun x1 => [(2, v0), (0, v1), (0, v2), (0, x1), (9, 0), (9, 0), (9, 0), (9, 0)]) d_Nb_thief_28 (fun _ => rfl) hr (fun x1 hr => ?_)
      refine j_iload_n (pc := 29) d_Nb_thief_29 rfl ?_
      refine j_if_gt (pc := 30) (tgt := 43) d_Nb_thief_30 hr (fun hr => ?_) (fun hr => ?_)
      · refine j_iload_n (pc := 43) d_Nb_thief_43 rfl ?_
        refine j_istore (pc := 44) (ls' := [(2, v0), (0, v1), (0, v2), (0, x1), (0, v1), (9, 0), (9, 0), (9, 0)]) d_Nb_thief_44 rfl ?_
        refine j_iconst (pc := 46) d_Nb_thief_46 ?_
        refine j_istore (pc := 47) (ls' := [(2, v0), (0, v1), (0, v2), (0, x1), (0, v1), (0, 0), (9, 0), (9, 0)]) d_Nb_thief_47 rfl ?_
        refine j_iconst (pc := 49) d_Nb_thief_49 ?_
        refine j_istore (pc := 50) (ls' := [(2, v0), (0, v1), (0, v2), (0, x1), (0, v1), (0, 0), (0, 0), (9, 0)]) d_Nb_thief_50 rfl ?_
        refine mJ_weak (ls' := [(2, v0), (9, 0), (0, v2), (0, x1), (0, v1), (0, 0), (0, 0), (9, 0)]) (mwk_s (mwk_d (mwk_s (mwk_s (mwk_s (mwk_s (mwk_s (mwk_s mwk_n)))))))) (t_Nb_thief_L52  _ _ _ _ _ hr)
      · exact j_throw (pc := 33) (x9 := 7) (text := "no bars") (k := 21) d_Nb_thief_33 d_Nb_thief_36 d_Nb_thief_37 d_Nb_thief_39 d_Nb_thief_42 rfl (by decide +kernel) tb_cl_Nb_247 tb_in_java_lang_IllegalStateException (by decide +kernel) rfl (Nat.le_of_ble_eq_true rfl) hr
    · exact j_throw (pc := 11) (x9 := 7) (text := "times is 1 to 60") (k := 20) d_Nb_thief_11 d_Nb_thief_14 d_Nb_thief_15 d_Nb_thief_17 d_Nb_thief_20 rfl (by decide +kernel) tb_cl_Nb_109 tb_in_java_lang_IllegalArgumentException (by decide +kernel) rfl (Nat.le_of_ble_eq_true rfl) hr
def M_Nb_grown : mM := ("NineBars", ⟨"NineBars", "grown", "([III)[I"⟩, prog_1_method_62_code, 3, some (.array .int), [], 1)
theorem tb_co_Nb_grown : mTB (Cond.code ⟨"NineBars", "grown", "([III)[I"⟩ prog_1_method_62_code 3 (some (.array .int))) := tbq3 82 (by decide +kernel) rfl
theorem mc_Nb_grown {M : mM} (hd : 1 < mDp M) : mCal M M_Nb_grown 3 := ⟨tb_co_Nb_grown, tb_in_NineBars, ⟨by decide +kernel, by decide +kernel⟩, by decide +kernel, hd, by decide⟩
theorem d_Nb_grown_0 : decode prog_1_method_62_code 0 = .ok (.aload_n 0, 1) := by decide +kernel
theorem d_Nb_grown_1 : decode prog_1_method_62_code 1 = .ok (.arraylength, 1) := by decide +kernel
theorem d_Nb_grown_2 : decode prog_1_method_62_code 2 = .ok (.iload_n 1, 1) := by decide +kernel
theorem d_Nb_grown_3 : decode prog_1_method_62_code 3 = .ok (.if_icmp .ge 7, 3) := by decide +kernel
theorem d_Nb_grown_10 : decode prog_1_method_62_code 10 = .ok (.aload_n 0, 1) := by decide +kernel
theorem d_Nb_grown_11 : decode prog_1_method_62_code 11 = .ok (.areturn, 1) := by decide +kernel
theorem d_Nb_grown_6 : decode prog_1_method_62_code 6 = .ok (.iload_n 1, 1) := by decide +kernel
theorem d_Nb_grown_7 : decode prog_1_method_62_code 7 = .ok (.ifCond .gt 5, 3) := by decide +kernel
theorem d_Nb_grown_12 : decode prog_1_method_62_code 12 = .ok (.iload_n 1, 1) := by decide +kernel
theorem d_Nb_grown_13 : decode prog_1_method_62_code 13 = .ok (.iconst 2, 1) := by decide +kernel
theorem d_Nb_grown_14 : decode prog_1_method_62_code 14 = .ok (.aload_n 0, 1) := by decide +kernel
theorem d_Nb_grown_15 : decode prog_1_method_62_code 15 = .ok (.arraylength, 1) := by decide +kernel
theorem d_Nb_grown_16 : decode prog_1_method_62_code 16 = .ok (.imul, 1) := by decide +kernel
theorem d_Nb_grown_17 : decode prog_1_method_62_code 17 = .ok (.iload_n 2, 1) := by decide +kernel
theorem d_Nb_grown_18 : decode prog_1_method_62_code 18 = .ok (.invokestatic 416, 3) := by decide +kernel
theorem tb_ml_Nb_416 : mTB (Cond.methodLink "NineBars" 416 ⟨"java/lang/Math", "min", "(II)I"⟩) := tbq3 83 (by decide +kernel) rfl
theorem d_Nb_grown_21 : decode prog_1_method_62_code 21 = .ok (.invokestatic 411, 3) := by decide +kernel
theorem tb_ml_Nb_411 : mTB (Cond.methodLink "NineBars" 411 ⟨"java/lang/Math", "max", "(II)I"⟩) := tbq3 84 (by decide +kernel) rfl
theorem tb_sm_Math_max : mTB (Cond.static ⟨"java/lang/Math", "max", "(II)I"⟩) := tbq3 85 (by decide +kernel) rfl
theorem tb_co_Math_max : mTB (Cond.code ⟨"java/lang/Math", "max", "(II)I"⟩ prog_22_method_65_code 2 (some .int)) := tbq3 86 (by decide +kernel) rfl
theorem d_Nb_grown_24 : decode prog_1_method_62_code 24 = .ok (.newarray .int, 2) := by decide +kernel
theorem d_Nb_grown_26 : decode prog_1_method_62_code 26 = .ok (.areturn, 1) := by decide +kernel
theorem t_Nb_grown {G : mG} (h : mH) (v0 v1 v2 : Int) (r : mR) (hr : f_Nb_grown h v0 v1 v2 = some r) : mJM G M_Nb_grown [(2, v0), (0, v1), (0, v2)] h r := by
  refine mJM_of (L := [(2, v0), (0, v1), (0, v2)]) rfl rfl rfl (Nat.le_of_ble_eq_true rfl) ?_
  unfold f_Nb_grown at hr
  refine j_aload_n (pc := 0) d_Nb_grown_0 rfl ?_
  refine j_alen (pc := 1) d_Nb_grown_1 hr (fun hr => ?_)
  refine j_iload_n (pc := 2) d_Nb_grown_2 rfl ?_
  refine j_icmp_ge (pc := 3) (tgt := 10) d_Nb_grown_3 hr (fun hr => ?_) (fun hr => ?_)
  · refine j_aload_n (pc := 10) d_Nb_grown_10 rfl ?_
    exact j_aret (pc := 11) d_Nb_grown_11 rfl (Or.inr ⟨_, rfl⟩) hr
  · refine j_iload_n (pc := 6) d_Nb_grown_6 rfl ?_
    refine j_if_gt (pc := 7) (tgt := 12) d_Nb_grown_7 hr (fun hr => ?_) (fun hr => ?_)
    · refine j_iload_n (pc := 12) d_Nb_grown_12 rfl ?_
      refine j_iconst (pc := 13) d_Nb_grown_13 ?_
      refine j_aload_n (pc := 14) d_Nb_grown_14 rfl ?_
      refine j_alen (pc := 15) d_Nb_grown_15 hr (fun hr => ?_)
      refine j_imul (pc := 16) d_Nb_grown_16 ?_
      refine j_iload_n (pc := 17) d_Nb_grown_17 rfl ?_
      refine j_min (pc := 18) d_Nb_grown_18 tb_ml_Nb_416 tb_sm_Math_min tb_in_java_lang_Math tb_co_Math_min (Nat.le_of_ble_eq_true rfl) ?_
      refine j_max (pc := 21) d_Nb_grown_21 tb_ml_Nb_411 tb_sm_Math_max tb_in_java_lang_Math tb_co_Math_max (Nat.le_of_ble_eq_true rfl) ?_
      refine j_newI (pc := 24) d_Nb_grown_24 tb_ac_int hr (fun h1 hr => ?_)
      exact j_aret (pc := 26) d_Nb_grown_26 rfl (Or.inr ⟨_, rfl⟩) hr
    · refine j_aload_n (pc := 10) d_Nb_grown_10 rfl ?_
      exact j_aret (pc := 11) d_Nb_grown_11 rfl (Or.inr ⟨_, rfl⟩) hr
def M_Box_wornBits : mM := ("NineBars$Box", ⟨"NineBars$Box", "wornBits", "()I"⟩, prog_2_method_17_code, 3, some .int, [], 3)
theorem tb_co_Box_wornBits : mTB (Cond.code ⟨"NineBars$Box", "wornBits", "()I"⟩ prog_2_method_17_code 3 (some .int)) := tbq3 96 (by decide +kernel) rfl
theorem mc_Box_wornBits {M : mM} (hd : 3 < mDp M) : mCal M M_Box_wornBits 0 := ⟨tb_co_Box_wornBits, tb_in_NineBars_Box, ⟨by decide +kernel, by decide +kernel⟩, by decide +kernel, hd, by decide⟩
theorem d_Box_wornBits_0 : decode prog_2_method_17_code 0 = .ok (.iconst 0, 1) := by decide +kernel
theorem d_Box_wornBits_1 : decode prog_2_method_17_code 1 = .ok (.istore_n 1, 1) := by decide +kernel
theorem d_Box_wornBits_2 : decode prog_2_method_17_code 2 = .ok (.iconst 0, 1) := by decide +kernel
theorem d_Box_wornBits_3 : decode prog_2_method_17_code 3 = .ok (.istore_n 2, 1) := by decide +kernel
theorem d_Box_wornBits_4 : decode prog_2_method_17_code 4 = .ok (.iload_n 2, 1) := by decide +kernel
theorem d_Box_wornBits_5 : decode prog_2_method_17_code 5 = .ok (.aload_n 0, 1) := by decide +kernel
theorem d_Box_wornBits_6 : decode prog_2_method_17_code 6 = .ok (.getfield 52, 3) := by decide +kernel
theorem d_Box_wornBits_9 : decode prog_2_method_17_code 9 = .ok (.if_icmp .ge 29, 3) := by decide +kernel
theorem d_Box_wornBits_38 : decode prog_2_method_17_code 38 = .ok (.iload_n 1, 1) := by decide +kernel
theorem d_Box_wornBits_39 : decode prog_2_method_17_code 39 = .ok (.ireturn, 1) := by decide +kernel
theorem d_Box_wornBits_12 : decode prog_2_method_17_code 12 = .ok (.iload_n 1, 1) := by decide +kernel
theorem d_Box_wornBits_13 : decode prog_2_method_17_code 13 = .ok (.aload_n 0, 1) := by decide +kernel
theorem d_Box_wornBits_14 : decode prog_2_method_17_code 14 = .ok (.iload_n 2, 1) := by decide +kernel
theorem d_Box_wornBits_15 : decode prog_2_method_17_code 15 = .ok (.invokevirtual 73, 3) := by decide +kernel
theorem d_Box_wornBits_18 : decode prog_2_method_17_code 18 = .ok (.ifCond .eq 11, 3) := by decide +kernel
theorem d_Box_wornBits_29 : decode prog_2_method_17_code 29 = .ok (.iconst 0, 1) := by decide +kernel
theorem d_Box_wornBits_30 : decode prog_2_method_17_code 30 = .ok (.ior, 1) := by decide +kernel
theorem d_Box_wornBits_31 : decode prog_2_method_17_code 31 = .ok (.istore_n 1, 1) := by decide +kernel
theorem d_Box_wornBits_32 : decode prog_2_method_17_code 32 = .ok (.iinc 2 1, 3) := by decide +kernel
theorem d_Box_wornBits_35 : decode prog_2_method_17_code 35 = .ok (.goto (-31), 3) := by decide +kernel
theorem d_Box_wornBits_21 : decode prog_2_method_17_code 21 = .ok (.iconst 3, 1) := by decide +kernel
theorem d_Box_wornBits_22 : decode prog_2_method_17_code 22 = .ok (.iconst 2, 1) := by decide +kernel
theorem d_Box_wornBits_23 : decode prog_2_method_17_code 23 = .ok (.iload_n 2, 1) := by decide +kernel
theorem d_Box_wornBits_24 : decode prog_2_method_17_code 24 = .ok (.imul, 1) := by decide +kernel
theorem d_Box_wornBits_25 : decode prog_2_method_17_code 25 = .ok (.ishl, 1) := by decide +kernel
theorem d_Box_wornBits_26 : decode prog_2_method_17_code 26 = .ok (.goto 4, 3) := by decide +kernel
theorem t_Box_wornBits_J30 {G : mG} {r : mR} {v0 v2 s0 s1 : Int} {h : mH} {R4 : mH → Int → Int → Option mR} (hR4 : ∀ (h : mH) (w1 w2 : Int) , R4 h w1 w2 = some r → mJ G M_Box_wornBits 4 [(2, v0), (0, w1), (0, w2)] [] h r) (hr : f_Box_wornBits_J30 R4 v2 s0 s1 h = some r) : mJ G M_Box_wornBits 30 [(2, v0), (9, 0), (0, v2)] [(0, s1), (0, s0)] h r := by
  unfold f_Box_wornBits_J30 at hr
  refine j_ior (pc := 30) d_Box_wornBits_30 ?_
  refine j_istoreW_n (pc := 31) (L := fun x1 => [(2, v0), (0, x1), (0, v2)]) d_Box_wornBits_31 (fun _ => rfl) hr (fun x1 hr => ?_)
  refine j_iincW (pc := 32) (L := fun x2 => [(2, v0), (0, x1), (0, x2)]) d_Box_wornBits_32 rfl (fun _ => rfl) hr (fun x2 hr => ?_)
  refine j_goto (pc := 35) (tgt := 4) d_Box_wornBits_35 ?_
  exact mJ_weak (ls' := [(2, v0), (0, x1), (0, x2)]) (mwk_s (mwk_s (mwk_s mwk_n))) (hR4 h _ _ hr)
theorem t_Box_wornBits_L4 {G : mG} {r : mR} {v0 : Int}  : ∀ (n : Nat) (h : mH) (v1 v2 : Int), f_Box_wornBits_L4 v0 n h v1 v2 = some r → mJ G M_Box_wornBits 4 [(2, v0), (0, v1), (0, v2)] [] h r := by
  intro n
  induction n with
  | zero =>
    intro h v1 v2 hr
    rw [f_Box_wornBits_L4] at hr
    cases hr
  | succ n hR4 =>
    intro h v1 v2 hr
    rw [f_Box_wornBits_L4] at hr
    refine j_iload_n (pc := 4) d_Box_wornBits_4 rfl ?_
    refine j_aload_n (pc := 5) d_Box_wornBits_5 rfl ?_
    refine j_getf (pc := 6) d_Box_wornBits_6 (fd_Box_52 rfl) hr (fun hr => ?_)
    refine j_icmp_ge (pc := 9) (tgt := 38) d_Box_wornBits_9 hr (fun hr => ?_) (fun hr => ?_)
    · refine j_iload_n (pc := 38) d_Box_wornBits_38 rfl ?_
      exact j_iret (pc := 39) d_Box_wornBits_39 rfl hr
    · refine j_iload_n (pc := 12) d_Box_wornBits_12 rfl ?_
      refine j_aload_n (pc := 13) d_Box_wornBits_13 rfl ?_
      refine j_iload_n (pc := 14) d_Box_wornBits_14 rfl ?_
      obtain ⟨ha, hr⟩ := chk_some hr
      refine j_callG (pc := 15) (stk := [(0, v2), (2, v0), (0, v1)]) (as := [(2, v0), (0, v2)]) (P := (fun v9 => ((0 : Nat), v9) :: [(0, v1)])) (tg := 0) (My := M_Box_isWorn) (mRunV (as := [(0, v2)]) (st := [(0, v1)]) d_Box_wornBits_15 (mc_Box_isWorn (by decide)) rfl (mv_Box_isWorn tb_ml_Box_73) rfl (Nat.le_of_ble_eq_true rfl) ha) (fun v => rfl) rfl hr (fun r1 h1 => t_Box_isWorn _ _ _ _ h1) (fun x2 h1 hr => ?_)
      refine j_if_eq (pc := 18) (tgt := 29) d_Box_wornBits_18 hr (fun hr => ?_) (fun hr => ?_)
      · refine j_iconst (pc := 29) d_Box_wornBits_29 ?_
        exact mJ_weak (ls' := [(2, v0), (9, 0), (0, v2)]) (mwk_s (mwk_d (mwk_s mwk_n))) (t_Box_wornBits_J30 hR4 hr)
      · refine j_iconst (pc := 21) d_Box_wornBits_21 ?_
        refine j_iconst (pc := 22) d_Box_wornBits_22 ?_
        refine j_iload_n (pc := 23) d_Box_wornBits_23 rfl ?_
        refine j_imul (pc := 24) d_Box_wornBits_24 ?_
        refine j_ishl (pc := 25) d_Box_wornBits_25 ?_
        refine j_goto (pc := 26) (tgt := 30) d_Box_wornBits_26 ?_
        exact mJ_weak (ls' := [(2, v0), (9, 0), (0, v2)]) (mwk_s (mwk_d (mwk_s mwk_n))) (t_Box_wornBits_J30 hR4 hr)
theorem t_Box_wornBits {G : mG} (h : mH) (v0 : Int) (r : mR) (hr : f_Box_wornBits h v0 = some r) : mJM G M_Box_wornBits [(2, v0)] h r := by
  refine mJM_of (L := [(2, v0), (9, 0), (9, 0)]) rfl rfl rfl (Nat.le_of_ble_eq_true rfl) ?_
  unfold f_Box_wornBits at hr
  refine j_iconst (pc := 0) d_Box_wornBits_0 ?_
  refine j_istore_n (pc := 1) (ls' := [(2, v0), (0, 0), (9, 0)]) d_Box_wornBits_1 rfl ?_
  refine j_iconst (pc := 2) d_Box_wornBits_2 ?_
  refine j_istore_n (pc := 3) (ls' := [(2, v0), (0, 0), (0, 0)]) d_Box_wornBits_3 rfl ?_
  refine mJ_weak (ls' := [(2, v0), (0, 0), (0, 0)]) (mwk_s (mwk_s (mwk_s mwk_n))) (t_Box_wornBits_L4  _ _ _ _ hr)
def M_Box_advance : mM := ("NineBars$Box", ⟨"NineBars$Box", "advance", "([I)V"⟩, prog_2_method_14_code, 3, none, [], 1)
theorem tb_co_Box_advance : mTB (Cond.code ⟨"NineBars$Box", "advance", "([I)V"⟩ prog_2_method_14_code 3 (none)) := tbq3 92 (by decide +kernel) rfl
theorem mc_Box_advance {M : mM} (hd : 1 < mDp M) : mCal M M_Box_advance 1 := ⟨tb_co_Box_advance, tb_in_NineBars_Box, ⟨by decide +kernel, by decide +kernel⟩, by decide +kernel, hd, by decide⟩
theorem d_Box_advance_0 : decode prog_2_method_14_code 0 = .ok (.iconst 0, 1) := by decide +kernel
theorem d_Box_advance_1 : decode prog_2_method_14_code 1 = .ok (.istore_n 2, 1) := by decide +kernel
theorem d_Box_advance_2 : decode prog_2_method_14_code 2 = .ok (.iload_n 2, 1) := by decide +kernel
theorem d_Box_advance_3 : decode prog_2_method_14_code 3 = .ok (.aload_n 0, 1) := by decide +kernel
theorem d_Box_advance_4 : decode prog_2_method_14_code 4 = .ok (.getfield 52, 3) := by decide +kernel
theorem d_Box_advance_7 : decode prog_2_method_14_code 7 = .ok (.if_icmp .ge 35, 3) := by decide +kernel
theorem d_Box_advance_42 : decode prog_2_method_14_code 42 = .ok (.return_, 1) := by decide +kernel
theorem d_Box_advance_10 : decode prog_2_method_14_code 10 = .ok (.aload_n 1, 1) := by decide +kernel
theorem d_Box_advance_11 : decode prog_2_method_14_code 11 = .ok (.iload_n 2, 1) := by decide +kernel
theorem d_Box_advance_12 : decode prog_2_method_14_code 12 = .ok (.iaload, 1) := by decide +kernel
theorem d_Box_advance_13 : decode prog_2_method_14_code 13 = .ok (.aload_n 0, 1) := by decide +kernel
theorem d_Box_advance_14 : decode prog_2_method_14_code 14 = .ok (.getfield 9, 3) := by decide +kernel
theorem d_Box_advance_17 : decode prog_2_method_14_code 17 = .ok (.iload_n 2, 1) := by decide +kernel
theorem d_Box_advance_18 : decode prog_2_method_14_code 18 = .ok (.iaload, 1) := by decide +kernel
theorem d_Box_advance_19 : decode prog_2_method_14_code 19 = .ok (.iconst 1, 1) := by decide +kernel
theorem d_Box_advance_20 : decode prog_2_method_14_code 20 = .ok (.isub, 1) := by decide +kernel
theorem d_Box_advance_21 : decode prog_2_method_14_code 21 = .ok (.if_icmp .ge 11, 3) := by decide +kernel
theorem d_Box_advance_32 : decode prog_2_method_14_code 32 = .ok (.aload_n 1, 1) := by decide +kernel
theorem d_Box_advance_33 : decode prog_2_method_14_code 33 = .ok (.iload_n 2, 1) := by decide +kernel
theorem d_Box_advance_34 : decode prog_2_method_14_code 34 = .ok (.iconst 0, 1) := by decide +kernel
theorem d_Box_advance_35 : decode prog_2_method_14_code 35 = .ok (.iastore, 1) := by decide +kernel
theorem d_Box_advance_36 : decode prog_2_method_14_code 36 = .ok (.iinc 2 1, 3) := by decide +kernel
theorem d_Box_advance_39 : decode prog_2_method_14_code 39 = .ok (.goto (-37), 3) := by decide +kernel
theorem d_Box_advance_24 : decode prog_2_method_14_code 24 = .ok (.aload_n 1, 1) := by decide +kernel
theorem d_Box_advance_25 : decode prog_2_method_14_code 25 = .ok (.iload_n 2, 1) := by decide +kernel
theorem d_Box_advance_26 : decode prog_2_method_14_code 26 = .ok (.dup2, 1) := by decide +kernel
theorem d_Box_advance_27 : decode prog_2_method_14_code 27 = .ok (.iaload, 1) := by decide +kernel
theorem d_Box_advance_28 : decode prog_2_method_14_code 28 = .ok (.iconst 1, 1) := by decide +kernel
theorem d_Box_advance_29 : decode prog_2_method_14_code 29 = .ok (.iadd, 1) := by decide +kernel
theorem d_Box_advance_30 : decode prog_2_method_14_code 30 = .ok (.iastore, 1) := by decide +kernel
theorem d_Box_advance_31 : decode prog_2_method_14_code 31 = .ok (.return_, 1) := by decide +kernel
theorem t_Box_advance_L2 {G : mG} {r : mR} {v0 v1 : Int} {K24 : mH → Int → Option mR} (hK24 : ∀ (h : mH) (w2 : Int) , K24 h w2 = some r → mJ G M_Box_advance 24 [(9, 0), (2, v1), (0, w2)] [] h r) : ∀ (n : Nat) (h : mH) (v2 : Int), f_Box_advance_L2 K24 v0 v1 n h v2 = some r → mJ G M_Box_advance 2 [(2, v0), (2, v1), (0, v2)] [] h r := by
  intro n
  induction n with
  | zero =>
    intro h v2 hr
    rw [f_Box_advance_L2] at hr
    cases hr
  | succ n hR2 =>
    intro h v2 hr
    rw [f_Box_advance_L2] at hr
    refine j_iload_n (pc := 2) d_Box_advance_2 rfl ?_
    refine j_aload_n (pc := 3) d_Box_advance_3 rfl ?_
    refine j_getf (pc := 4) d_Box_advance_4 (fd_Box_52 rfl) hr (fun hr => ?_)
    refine j_icmp_ge (pc := 7) (tgt := 42) d_Box_advance_7 hr (fun hr => ?_) (fun hr => ?_)
    · exact j_vret (pc := 42) d_Box_advance_42 rfl hr
    · refine j_aload_n (pc := 10) d_Box_advance_10 rfl ?_
      refine j_iload_n (pc := 11) d_Box_advance_11 rfl ?_
      refine j_iaload (pc := 12) d_Box_advance_12 hr (fun hr => ?_)
      refine j_aload_n (pc := 13) d_Box_advance_13 rfl ?_
      refine j_getf (pc := 14) d_Box_advance_14 (fd_Box_9 rfl) hr (fun hr => ?_)
      refine j_iload_n (pc := 17) d_Box_advance_17 rfl ?_
      refine j_iaload (pc := 18) d_Box_advance_18 hr (fun hr => ?_)
      refine j_iconst (pc := 19) d_Box_advance_19 ?_
      refine j_isub (pc := 20) d_Box_advance_20 ?_
      refine j_icmp_ge (pc := 21) (tgt := 32) d_Box_advance_21 hr (fun hr => ?_) (fun hr => ?_)
      · refine j_aload_n (pc := 32) d_Box_advance_32 rfl ?_
        refine j_iload_n (pc := 33) d_Box_advance_33 rfl ?_
        refine j_iconst (pc := 34) d_Box_advance_34 ?_
        refine j_iastore (pc := 35) d_Box_advance_35 hr (fun h1 hr => ?_)
        refine j_iincW (pc := 36) (L := fun x2 => [(2, v0), (2, v1), (0, x2)]) d_Box_advance_36 rfl (fun _ => rfl) hr (fun x2 hr => ?_)
        refine j_goto (pc := 39) (tgt := 2) d_Box_advance_39 ?_
        exact mJ_weak (ls' := [(2, v0), (2, v1), (0, x2)]) (mwk_s (mwk_s (mwk_s mwk_n))) (hR2 h1 _ hr)
      · exact mJ_weak (ls' := [(9, 0), (2, v1), (0, v2)]) (mwk_d (mwk_s (mwk_s mwk_n))) (hK24 h _ hr)
theorem t_Box_advance {G : mG} (h : mH) (v0 v1 : Int) (r : mR) (hr : f_Box_advance h v0 v1 = some r) : mJM G M_Box_advance [(2, v0), (2, v1)] h r := by
  refine mJM_of (L := [(2, v0), (2, v1), (9, 0)]) rfl rfl rfl (Nat.le_of_ble_eq_true rfl) ?_
  unfold f_Box_advance at hr
  refine j_iconst (pc := 0) d_Box_advance_0 ?_
  refine j_istore_n (pc := 1) (ls' := [(2, v0), (2, v1), (0, 0)]) d_Box_advance_1 rfl ?_
  refine mJ_weak (ls' := [(2, v0), (2, v1), (0, 0)]) (mwk_s (mwk_s (mwk_s mwk_n))) (t_Box_advance_L2 (fun h1 x2 hr => ?_) _ _ _ hr)
  · refine j_aload_n (pc := 24) d_Box_advance_24 rfl ?_
    refine j_iload_n (pc := 25) d_Box_advance_25 rfl ?_
    refine j_dup2 (pc := 26) d_Box_advance_26 ?_
    refine j_iaload (pc := 27) d_Box_advance_27 hr (fun hr => ?_)
    refine j_iconst (pc := 28) d_Box_advance_28 ?_
    refine j_iadd (pc := 29) d_Box_advance_29 ?_
    refine j_iastore (pc := 30) d_Box_advance_30 hr (fun h3 hr => ?_)
    exact j_vret (pc := 31) d_Box_advance_31 rfl hr
def M_Graph_build : mM := ("NineBars$Graph", ⟨"NineBars$Graph", "build", "(LNineBars$Box;)V"⟩, prog_6_method_3_code, 4, none, [], 7)
theorem tb_co_Graph_build : mTB (Cond.code ⟨"NineBars$Graph", "build", "(LNineBars$Box;)V"⟩ prog_6_method_3_code 4 (none)) := tbq3 74 (by decide +kernel) rfl
theorem mc_Graph_build {M : mM} (hd : 7 < mDp M) : mCal M M_Graph_build 1 := ⟨tb_co_Graph_build, tb_in_NineBars_Graph, ⟨by decide +kernel, by decide +kernel⟩, by decide +kernel, hd, by decide⟩
theorem d_Graph_build_0 : decode prog_6_method_3_code 0 = .ok (.aload_n 0, 1) := by decide +kernel
theorem d_Graph_build_1 : decode prog_6_method_3_code 1 = .ok (.aload_n 1, 1) := by decide +kernel
theorem d_Graph_build_2 : decode prog_6_method_3_code 2 = .ok (.invokevirtual 58, 3) := by decide +kernel
theorem tb_ml_Graph_58 : mTB (Cond.methodLink "NineBars$Graph" 58 ⟨"NineBars$Box", "standCount", "()I"⟩) := tbq3 75 (by decide +kernel) rfl
theorem d_Graph_build_5 : decode prog_6_method_3_code 5 = .ok (.sipush 20000, 3) := by decide +kernel
theorem d_Graph_build_8 : decode prog_6_method_3_code 8 = .ok (.invokestatic 61, 3) := by decide +kernel
theorem tb_ml_Graph_61 : mTB (Cond.methodLink "NineBars$Graph" 61 ⟨"java/lang/Math", "min", "(II)I"⟩) := tbq3 76 (by decide +kernel) rfl
theorem tb_fl_Graph_40 : mTB (Cond.fieldLink "NineBars$Graph" 40 "NineBars$Graph" "stands" "I") := tbq1 198 (by decide +kernel) rfl
theorem fd_Graph_40 {M : mM} (h : mO M = "NineBars$Graph") : mFld M 40 4 2 0 := ⟨_, _, _, tyX4, rfl, by decide, by decide, rfl, uw_4, tyX4_ok, nmX4, by rw [h]; exact Or.inl tb_fl_Graph_40⟩
theorem d_Graph_build_11 : decode prog_6_method_3_code 11 = .ok (.putfield 40, 3) := by decide +kernel
theorem d_Graph_build_14 : decode prog_6_method_3_code 14 = .ok (.aload_n 0, 1) := by decide +kernel
theorem d_Graph_build_15 : decode prog_6_method_3_code 15 = .ok (.iconst 2, 1) := by decide +kernel
theorem d_Graph_build_16 : decode prog_6_method_3_code 16 = .ok (.aload_n 1, 1) := by decide +kernel
theorem tb_fl_Graph_67 : mTN (Cond.fieldLinkNest "NineBars$Graph" 67 "NineBars$Box" "bars" "I" "NineBars") := tbqn1 84 (by decide +kernel) rfl
theorem fd_Graph_67 {M : mM} (h : mO M = "NineBars$Graph") : mFld M 67 0 2 0 := ⟨_, _, _, tyX0, rfl, by decide, by decide, rfl, uw_0, tyX0_ok, nmX0, by rw [h]; exact Or.inr ⟨_, tb_fl_Graph_67⟩⟩
theorem d_Graph_build_17 : decode prog_6_method_3_code 17 = .ok (.getfield 67, 3) := by decide +kernel
theorem d_Graph_build_20 : decode prog_6_method_3_code 20 = .ok (.imul, 1) := by decide +kernel
theorem tb_fl_Graph_70 : mTB (Cond.fieldLink "NineBars$Graph" 70 "NineBars$Graph" "steps" "I") := tbq1 201 (by decide +kernel) rfl
theorem fd_Graph_70 {M : mM} (h : mO M = "NineBars$Graph") : mFld M 70 4 3 0 := ⟨_, _, _, tyX4, rfl, by decide, by decide, rfl, uw_4, tyX4_ok, nmX4, by rw [h]; exact Or.inl tb_fl_Graph_70⟩
theorem d_Graph_build_21 : decode prog_6_method_3_code 21 = .ok (.putfield 70, 3) := by decide +kernel
theorem d_Graph_build_24 : decode prog_6_method_3_code 24 = .ok (.aload_n 0, 1) := by decide +kernel
theorem d_Graph_build_25 : decode prog_6_method_3_code 25 = .ok (.aload_n 1, 1) := by decide +kernel
theorem d_Graph_build_26 : decode prog_6_method_3_code 26 = .ok (.aload_n 1, 1) := by decide +kernel
theorem tb_fl_Graph_73 : mTN (Cond.fieldLinkNest "NineBars$Graph" 73 "NineBars$Box" "opens" "[I" "NineBars") := tbqn1 104 (by decide +kernel) rfl
theorem fd_Graph_73 {M : mM} (h : mO M = "NineBars$Graph") : mFld M 73 0 8 2 := ⟨_, _, _, tyX0, rfl, by decide, by decide, rfl, uw_0, tyX0_ok, nmX0, by rw [h]; exact Or.inr ⟨_, tb_fl_Graph_73⟩⟩
theorem d_Graph_build_27 : decode prog_6_method_3_code 27 = .ok (.getfield 73, 3) := by decide +kernel
theorem d_Graph_build_30 : decode prog_6_method_3_code 30 = .ok (.invokevirtual 76, 3) := by decide +kernel
theorem tb_ml_Graph_76 : mTB (Cond.methodLink "NineBars$Graph" 76 ⟨"NineBars$Box", "standOf", "([I)I"⟩) := tbq3 79 (by decide +kernel) rfl
theorem tb_fl_Graph_80 : mTB (Cond.fieldLink "NineBars$Graph" 80 "NineBars$Graph" "openStand" "I") := tbq1 206 (by decide +kernel) rfl
theorem fd_Graph_80 {M : mM} (h : mO M = "NineBars$Graph") : mFld M 80 4 4 0 := ⟨_, _, _, tyX4, rfl, by decide, by decide, rfl, uw_4, tyX4_ok, nmX4, by rw [h]; exact Or.inl tb_fl_Graph_80⟩
theorem d_Graph_build_33 : decode prog_6_method_3_code 33 = .ok (.putfield 80, 3) := by decide +kernel
theorem d_Graph_build_36 : decode prog_6_method_3_code 36 = .ok (.iconst 1, 1) := by decide +kernel
theorem d_Graph_build_37 : decode prog_6_method_3_code 37 = .ok (.istore_n 2, 1) := by decide +kernel
theorem d_Graph_build_38 : decode prog_6_method_3_code 38 = .ok (.iconst 0, 1) := by decide +kernel
theorem d_Graph_build_39 : decode prog_6_method_3_code 39 = .ok (.istore_n 3, 1) := by decide +kernel
theorem d_Graph_build_40 : decode prog_6_method_3_code 40 = .ok (.iload_n 3, 1) := by decide +kernel
theorem d_Graph_build_41 : decode prog_6_method_3_code 41 = .ok (.aload_n 1, 1) := by decide +kernel
theorem d_Graph_build_42 : decode prog_6_method_3_code 42 = .ok (.getfield 67, 3) := by decide +kernel
theorem d_Graph_build_45 : decode prog_6_method_3_code 45 = .ok (.if_icmp .ge 46, 3) := by decide +kernel
theorem d_Graph_build_48 : decode prog_6_method_3_code 48 = .ok (.aload_n 0, 1) := by decide +kernel
theorem d_Graph_build_49 : decode prog_6_method_3_code 49 = .ok (.getfield 18, 3) := by decide +kernel
theorem d_Graph_build_52 : decode prog_6_method_3_code 52 = .ok (.iconst 2, 1) := by decide +kernel
theorem d_Graph_build_53 : decode prog_6_method_3_code 53 = .ok (.iload_n 3, 1) := by decide +kernel
theorem d_Graph_build_54 : decode prog_6_method_3_code 54 = .ok (.imul, 1) := by decide +kernel
theorem d_Graph_build_55 : decode prog_6_method_3_code 55 = .ok (.iload_n 2, 1) := by decide +kernel
theorem d_Graph_build_56 : decode prog_6_method_3_code 56 = .ok (.ineg, 1) := by decide +kernel
theorem d_Graph_build_57 : decode prog_6_method_3_code 57 = .ok (.iastore, 1) := by decide +kernel
theorem d_Graph_build_58 : decode prog_6_method_3_code 58 = .ok (.aload_n 0, 1) := by decide +kernel
theorem d_Graph_build_59 : decode prog_6_method_3_code 59 = .ok (.getfield 18, 3) := by decide +kernel
theorem d_Graph_build_62 : decode prog_6_method_3_code 62 = .ok (.iconst 2, 1) := by decide +kernel
theorem d_Graph_build_63 : decode prog_6_method_3_code 63 = .ok (.iload_n 3, 1) := by decide +kernel
theorem d_Graph_build_64 : decode prog_6_method_3_code 64 = .ok (.imul, 1) := by decide +kernel
theorem d_Graph_build_65 : decode prog_6_method_3_code 65 = .ok (.iconst 1, 1) := by decide +kernel
theorem d_Graph_build_66 : decode prog_6_method_3_code 66 = .ok (.iadd, 1) := by decide +kernel
theorem d_Graph_build_67 : decode prog_6_method_3_code 67 = .ok (.iload_n 2, 1) := by decide +kernel
theorem d_Graph_build_68 : decode prog_6_method_3_code 68 = .ok (.iastore, 1) := by decide +kernel
theorem d_Graph_build_69 : decode prog_6_method_3_code 69 = .ok (.iload_n 2, 1) := by decide +kernel
theorem d_Graph_build_70 : decode prog_6_method_3_code 70 = .ok (.aload_n 1, 1) := by decide +kernel
theorem tb_fl_Graph_83 : mTN (Cond.fieldLinkNest "NineBars$Graph" 83 "NineBars$Box" "places" "[I" "NineBars") := tbqn1 99 (by decide +kernel) rfl
theorem fd_Graph_83 {M : mM} (h : mO M = "NineBars$Graph") : mFld M 83 0 6 2 := ⟨_, _, _, tyX0, rfl, by decide, by decide, rfl, uw_0, tyX0_ok, nmX0, by rw [h]; exact Or.inr ⟨_, tb_fl_Graph_83⟩⟩
theorem d_Graph_build_71 : decode prog_6_method_3_code 71 = .ok (.getfield 83, 3) := by decide +kernel
theorem d_Graph_build_74 : decode prog_6_method_3_code 74 = .ok (.iload_n 3, 1) := by decide +kernel
theorem d_Graph_build_75 : decode prog_6_method_3_code 75 = .ok (.iaload, 1) := by decide +kernel
theorem d_Graph_build_76 : decode prog_6_method_3_code 76 = .ok (.imul, 1) := by decide +kernel
theorem d_Graph_build_77 : decode prog_6_method_3_code 77 = .ok (.istore_n 2, 1) := by decide +kernel
theorem d_Graph_build_78 : decode prog_6_method_3_code 78 = .ok (.aload_n 0, 1) := by decide +kernel
theorem d_Graph_build_79 : decode prog_6_method_3_code 79 = .ok (.getfield 22, 3) := by decide +kernel
theorem d_Graph_build_82 : decode prog_6_method_3_code 82 = .ok (.iload_n 3, 1) := by decide +kernel
theorem d_Graph_build_83 : decode prog_6_method_3_code 83 = .ok (.iconst 0, 1) := by decide +kernel
theorem d_Graph_build_84 : decode prog_6_method_3_code 84 = .ok (.iastore, 1) := by decide +kernel
theorem d_Graph_build_85 : decode prog_6_method_3_code 85 = .ok (.iinc 3 1, 3) := by decide +kernel
theorem d_Graph_build_88 : decode prog_6_method_3_code 88 = .ok (.goto (-48), 3) := by decide +kernel
theorem d_Graph_build_91 : decode prog_6_method_3_code 91 = .ok (.aload_n 0, 1) := by decide +kernel
theorem d_Graph_build_92 : decode prog_6_method_3_code 92 = .ok (.aload_n 0, 1) := by decide +kernel
theorem d_Graph_build_93 : decode prog_6_method_3_code 93 = .ok (.getfield 25, 3) := by decide +kernel
theorem d_Graph_build_96 : decode prog_6_method_3_code 96 = .ok (.aload_n 0, 1) := by decide +kernel
theorem d_Graph_build_97 : decode prog_6_method_3_code 97 = .ok (.getfield 40, 3) := by decide +kernel
theorem d_Graph_build_100 : decode prog_6_method_3_code 100 = .ok (.sipush 20000, 3) := by decide +kernel
theorem d_Graph_build_103 : decode prog_6_method_3_code 103 = .ok (.invokestatic 50, 3) := by decide +kernel
theorem tb_mn_Graph_50 : mTN (Cond.methodLinkNest "NineBars$Graph" 50 ⟨"NineBars", "grown", "([III)[I"⟩ "NineBars") := tbqn3 80 (by decide +kernel) rfl
theorem tb_sm_Nb_grown : mTB (Cond.static ⟨"NineBars", "grown", "([III)[I"⟩) := tbq3 81 (by decide +kernel) rfl
theorem d_Graph_build_106 : decode prog_6_method_3_code 106 = .ok (.putfield 25, 3) := by decide +kernel
theorem d_Graph_build_109 : decode prog_6_method_3_code 109 = .ok (.aload_n 0, 1) := by decide +kernel
theorem d_Graph_build_110 : decode prog_6_method_3_code 110 = .ok (.aload_n 0, 1) := by decide +kernel
theorem d_Graph_build_111 : decode prog_6_method_3_code 111 = .ok (.getfield 28, 3) := by decide +kernel
theorem d_Graph_build_114 : decode prog_6_method_3_code 114 = .ok (.aload_n 0, 1) := by decide +kernel
theorem d_Graph_build_115 : decode prog_6_method_3_code 115 = .ok (.getfield 40, 3) := by decide +kernel
theorem d_Graph_build_118 : decode prog_6_method_3_code 118 = .ok (.sipush 20000, 3) := by decide +kernel
theorem d_Graph_build_121 : decode prog_6_method_3_code 121 = .ok (.invokestatic 50, 3) := by decide +kernel
theorem d_Graph_build_124 : decode prog_6_method_3_code 124 = .ok (.putfield 28, 3) := by decide +kernel
theorem d_Graph_build_127 : decode prog_6_method_3_code 127 = .ok (.iconst 0, 1) := by decide +kernel
theorem d_Graph_build_128 : decode prog_6_method_3_code 128 = .ok (.istore_n 3, 1) := by decide +kernel
theorem d_Graph_build_129 : decode prog_6_method_3_code 129 = .ok (.iload_n 3, 1) := by decide +kernel
theorem d_Graph_build_130 : decode prog_6_method_3_code 130 = .ok (.aload_n 0, 1) := by decide +kernel
theorem d_Graph_build_131 : decode prog_6_method_3_code 131 = .ok (.getfield 40, 3) := by decide +kernel
theorem d_Graph_build_134 : decode prog_6_method_3_code 134 = .ok (.if_icmp .ge 45, 3) := by decide +kernel
theorem d_Graph_build_179 : decode prog_6_method_3_code 179 = .ok (.return_, 1) := by decide +kernel
theorem d_Graph_build_137 : decode prog_6_method_3_code 137 = .ok (.aload_n 0, 1) := by decide +kernel
theorem d_Graph_build_138 : decode prog_6_method_3_code 138 = .ok (.getfield 25, 3) := by decide +kernel
theorem d_Graph_build_141 : decode prog_6_method_3_code 141 = .ok (.iload_n 3, 1) := by decide +kernel
theorem d_Graph_build_142 : decode prog_6_method_3_code 142 = .ok (.aload_n 1, 1) := by decide +kernel
theorem d_Graph_build_143 : decode prog_6_method_3_code 143 = .ok (.aload_n 0, 1) := by decide +kernel
theorem d_Graph_build_144 : decode prog_6_method_3_code 144 = .ok (.getfield 22, 3) := by decide +kernel
theorem d_Graph_build_147 : decode prog_6_method_3_code 147 = .ok (.invokevirtual 86, 3) := by decide +kernel
theorem tb_ml_Graph_86 : mTB (Cond.methodLink "NineBars$Graph" 86 ⟨"NineBars$Box", "ableIn", "([I)I"⟩) := tbq3 87 (by decide +kernel) rfl
theorem d_Graph_build_150 : decode prog_6_method_3_code 150 = .ok (.iastore, 1) := by decide +kernel
theorem d_Graph_build_151 : decode prog_6_method_3_code 151 = .ok (.aload_n 0, 1) := by decide +kernel
theorem d_Graph_build_152 : decode prog_6_method_3_code 152 = .ok (.getfield 28, 3) := by decide +kernel
theorem d_Graph_build_155 : decode prog_6_method_3_code 155 = .ok (.iload_n 3, 1) := by decide +kernel
theorem d_Graph_build_156 : decode prog_6_method_3_code 156 = .ok (.aload_n 1, 1) := by decide +kernel
theorem d_Graph_build_157 : decode prog_6_method_3_code 157 = .ok (.aload_n 0, 1) := by decide +kernel
theorem d_Graph_build_158 : decode prog_6_method_3_code 158 = .ok (.getfield 22, 3) := by decide +kernel
theorem d_Graph_build_161 : decode prog_6_method_3_code 161 = .ok (.invokevirtual 89, 3) := by decide +kernel
theorem tb_ml_Graph_89 : mTB (Cond.methodLink "NineBars$Graph" 89 ⟨"NineBars$Box", "shutIn", "([I)I"⟩) := tbq3 88 (by decide +kernel) rfl
theorem d_Graph_build_164 : decode prog_6_method_3_code 164 = .ok (.iastore, 1) := by decide +kernel
theorem d_Graph_build_165 : decode prog_6_method_3_code 165 = .ok (.aload_n 1, 1) := by decide +kernel
theorem d_Graph_build_166 : decode prog_6_method_3_code 166 = .ok (.aload_n 0, 1) := by decide +kernel
theorem d_Graph_build_167 : decode prog_6_method_3_code 167 = .ok (.getfield 22, 3) := by decide +kernel
theorem d_Graph_build_170 : decode prog_6_method_3_code 170 = .ok (.invokevirtual 92, 3) := by decide +kernel
theorem tb_ml_Graph_92 : mTB (Cond.methodLink "NineBars$Graph" 92 ⟨"NineBars$Box", "advance", "([I)V"⟩) := tbq3 89 (by decide +kernel) rfl
theorem tb_im_Box_advance : mTB (Cond.instanceMethod ⟨"NineBars$Box", "advance", "([I)V"⟩) := tbq3 90 (by decide +kernel) rfl
theorem tb_se_Box_advance : mTB (Cond.selects "NineBars$Box" ⟨"NineBars$Box", "advance", "([I)V"⟩ ⟨"NineBars$Box", "advance", "([I)V"⟩) := tbq3 91 (by decide +kernel) rfl
theorem mv_Box_advance {M : mM} {idx : Nat} (h : mTB (Cond.methodLink (mO M) idx ⟨"NineBars$Box", "advance", "([I)V"⟩)) : mCaV M M_Box_advance idx 0 := ⟨h, tb_im_Box_advance, tb_se_Box_advance, by decide, TX0, 18, rfl⟩
theorem d_Graph_build_173 : decode prog_6_method_3_code 173 = .ok (.iinc 3 1, 3) := by decide +kernel
theorem d_Graph_build_176 : decode prog_6_method_3_code 176 = .ok (.goto (-47), 3) := by decide +kernel
theorem t_Graph_build_L40 {G : mG} {r : mR} {v0 v1 : Int} {K91 : mH → Option mR} (hK91 : ∀ (h : mH) , K91 h  = some r → mJ G M_Graph_build 91 [(2, v0), (2, v1), (9, 0), (9, 0)] [] h r) : ∀ (n : Nat) (h : mH) (v2 v3 : Int), f_Graph_build_L40 K91 v0 v1 n h v2 v3 = some r → mJ G M_Graph_build 40 [(2, v0), (2, v1), (0, v2), (0, v3)] [] h r := by
  intro n
  induction n with
  | zero =>
    intro h v2 v3 hr
    rw [f_Graph_build_L40] at hr
    cases hr
  | succ n hR40 =>
    intro h v2 v3 hr
    rw [f_Graph_build_L40] at hr
    refine j_iload_n (pc := 40) d_Graph_build_40 rfl ?_
    refine j_aload_n (pc := 41) d_Graph_build_41 rfl ?_
    refine j_getf (pc := 42) d_Graph_build_42 (fd_Graph_67 rfl) hr (fun hr => ?_)
    refine j_icmp_ge (pc := 45) (tgt := 91) d_Graph_build_45 hr (fun hr => ?_) (fun hr => ?_)
    · exact mJ_weak (ls' := [(2, v0), (2, v1), (9, 0), (9, 0)]) (mwk_s (mwk_s (mwk_d (mwk_d mwk_n)))) (hK91 h  hr)
    · refine j_aload_n (pc := 48) d_Graph_build_48 rfl ?_
      refine j_getf (pc := 49) d_Graph_build_49 (fd_Graph_18 rfl) hr (fun hr => ?_)
      refine j_iconst (pc := 52) d_Graph_build_52 ?_
      refine j_iload_n (pc := 53) d_Graph_build_53 rfl ?_
      refine j_imul (pc := 54) d_Graph_build_54 ?_
      refine j_iload_n (pc := 55) d_Graph_build_55 rfl ?_
      refine j_ineg (pc := 56) d_Graph_build_56 ?_
      refine j_iastore (pc := 57) d_Graph_build_57 hr (fun h1 hr => ?_)
      refine j_aload_n (pc := 58) d_Graph_build_58 rfl ?_
      refine j_getf (pc := 59) d_Graph_build_59 (fd_Graph_18 rfl) hr (fun hr => ?_)
      refine j_iconst (pc := 62) d_Graph_build_62 ?_
      refine j_iload_n (pc := 63) d_Graph_build_63 rfl ?_
      refine j_imul (pc := 64) d_Graph_build_64 ?_
      refine j_iconst (pc := 65) d_Graph_build_65 ?_
      refine j_iadd (pc := 66) d_Graph_build_66 ?_
      refine j_iload_n (pc := 67) d_Graph_build_67 rfl ?_
      refine j_iastore (pc := 68) d_Graph_build_68 hr (fun h2 hr => ?_)
      refine j_iload_n (pc := 69) d_Graph_build_69 rfl ?_
      refine j_aload_n (pc := 70) d_Graph_build_70 rfl ?_
      refine j_getf (pc := 71) d_Graph_build_71 (fd_Graph_83 rfl) hr (fun hr => ?_)
      refine j_iload_n (pc := 74) d_Graph_build_74 rfl ?_
      refine j_iaload (pc := 75) d_Graph_build_75 hr (fun hr => ?_)
      refine j_imul (pc := 76) d_Graph_build_76 ?_
      refine j_istoreW_n (pc := 77) (L := fun x3 => [(2, v0), (2, v1), (0, x3), (0, v3)]) d_Graph_build_77 (fun _ => rfl) hr (fun x3 hr => ?_)
      refine j_aload_n (pc := 78) d_Graph_build_78 rfl ?_
      refine j_getf (pc := 79) d_Graph_build_79 (fd_Graph_22 rfl) hr (fun hr => ?_)
      refine j_iload_n (pc := 82) d_Graph_build_82 rfl ?_
      refine j_iconst (pc := 83) d_Graph_build_83 ?_
      refine j_iastore (pc := 84) d_Graph_build_84 hr (fun h4 hr => ?_)
      refine j_iincW (pc := 85) (L := fun x5 => [(2, v0), (2, v1), (0, x3), (0, x5)]) d_Graph_build_85 rfl (fun _ => rfl) hr (fun x5 hr => ?_)
      refine j_goto (pc := 88) (tgt := 40) d_Graph_build_88 ?_
      exact mJ_weak (ls' := [(2, v0), (2, v1), (0, x3), (0, x5)]) (mwk_s (mwk_s (mwk_s (mwk_s mwk_n)))) (hR40 h4 _ _ hr)
theorem t_Graph_build_L129 {G : mG} {r : mR} {v0 v1 : Int}  : ∀ (n : Nat) (h : mH) (v3 : Int), f_Graph_build_L129 v0 v1 n h v3 = some r → mJ G M_Graph_build 129 [(2, v0), (2, v1), (9, 0), (0, v3)] [] h r := by
  intro n
  induction n with
  | zero =>
    intro h v3 hr
    rw [f_Graph_build_L129] at hr
    cases hr
  | succ n hR129 =>
    intro h v3 hr
    rw [f_Graph_build_L129] at hr
    refine j_iload_n (pc := 129) d_Graph_build_129 rfl ?_
    refine j_aload_n (pc := 130) d_Graph_build_130 rfl ?_
    refine j_getf (pc := 131) d_Graph_build_131 (fd_Graph_40 rfl) hr (fun hr => ?_)
    refine j_icmp_ge (pc := 134) (tgt := 179) d_Graph_build_134 hr (fun hr => ?_) (fun hr => ?_)
    · exact j_vret (pc := 179) d_Graph_build_179 rfl hr
    · refine j_aload_n (pc := 137) d_Graph_build_137 rfl ?_
      refine j_getf (pc := 138) d_Graph_build_138 (fd_Graph_25 rfl) hr (fun hr => ?_)
      refine j_iload_n (pc := 141) d_Graph_build_141 rfl ?_
      refine j_aload_n (pc := 142) d_Graph_build_142 rfl ?_
      refine j_aload_n (pc := 143) d_Graph_build_143 rfl ?_
      refine j_getf (pc := 144) d_Graph_build_144 (fd_Graph_22 rfl) hr (fun hr => ?_)
      obtain ⟨ha, hr⟩ := chk_some hr
      refine j_callG (pc := 147) (stk := [(2, hpV h v0 6), (2, v1), (0, v3), (2, hpV h v0 7)]) (as := [(2, v1), (2, hpV h v0 6)]) (P := (fun v9 => ((0 : Nat), v9) :: [(0, v3), (2, hpV h v0 7)])) (tg := 0) (My := M_Box_ableIn) (mRunV (as := [(2, hpV h v0 6)]) (st := [(0, v3), (2, hpV h v0 7)]) d_Graph_build_147 (mc_Box_ableIn (by decide)) rfl (mv_Box_ableIn tb_ml_Graph_86) rfl (Nat.le_of_ble_eq_true rfl) ha) (fun v => rfl) rfl hr (fun r1 h1 => t_Box_ableIn _ _ _ _ h1) (fun x2 h1 hr => ?_)
      refine j_iastore (pc := 150) d_Graph_build_150 hr (fun h3 hr => ?_)
      refine j_aload_n (pc := 151) d_Graph_build_151 rfl ?_
      refine j_getf (pc := 152) d_Graph_build_152 (fd_Graph_28 rfl) hr (fun hr => ?_)
      refine j_iload_n (pc := 155) d_Graph_build_155 rfl ?_
      refine j_aload_n (pc := 156) d_Graph_build_156 rfl ?_
      refine j_aload_n (pc := 157) d_Graph_build_157 rfl ?_
      refine j_getf (pc := 158) d_Graph_build_158 (fd_Graph_22 rfl) hr (fun hr => ?_)
      obtain ⟨ha, hr⟩ := chk_some hr
      refine j_callG (pc := 161) (stk := [(2, hpV h3 v0 6), (2, v1), (0, v3), (2, hpV h3 v0 8)]) (as := [(2, v1), (2, hpV h3 v0 6)]) (P := (fun v9 => ((0 : Nat), v9) :: [(0, v3), (2, hpV h3 v0 8)])) (tg := 0) (My := M_Box_shutIn) (mRunV (as := [(2, hpV h3 v0 6)]) (st := [(0, v3), (2, hpV h3 v0 8)]) d_Graph_build_161 (mc_Box_shutIn (by decide)) rfl (mv_Box_shutIn tb_ml_Graph_89) rfl (Nat.le_of_ble_eq_true rfl) ha) (fun v => rfl) rfl hr (fun r1 h1 => t_Box_shutIn _ _ _ _ h1) (fun x5 h4 hr => ?_)
      refine j_iastore (pc := 164) d_Graph_build_164 hr (fun h6 hr => ?_)
      refine j_aload_n (pc := 165) d_Graph_build_165 rfl ?_
      refine j_aload_n (pc := 166) d_Graph_build_166 rfl ?_
      refine j_getf (pc := 167) d_Graph_build_167 (fd_Graph_22 rfl) hr (fun hr => ?_)
      obtain ⟨ha, hr⟩ := chk_some hr
      refine j_callG (pc := 170) (stk := [(2, hpV h6 v0 6), (2, v1)]) (as := [(2, v1), (2, hpV h6 v0 6)]) (P := (fun v9 => [])) (tg := 3) (My := M_Box_advance) (mRunV (as := [(2, hpV h6 v0 6)]) (st := []) d_Graph_build_170 (mc_Box_advance (by decide)) rfl (mv_Box_advance tb_ml_Graph_92) rfl (Nat.le_of_ble_eq_true rfl) ha) (fun v => rfl) rfl hr (fun r1 h1 => t_Box_advance _ _ _ _ h1) (fun x8 h7 hr => ?_)
      refine j_iincW (pc := 173) (L := fun x9 => [(2, v0), (2, v1), (9, 0), (0, x9)]) d_Graph_build_173 rfl (fun _ => rfl) hr (fun x9 hr => ?_)
      refine j_goto (pc := 176) (tgt := 129) d_Graph_build_176 ?_
      exact mJ_weak (ls' := [(2, v0), (2, v1), (9, 0), (0, x9)]) (mwk_s (mwk_s (mwk_s (mwk_s mwk_n)))) (hR129 h7 _ hr)
theorem t_Graph_build {G : mG} (h : mH) (v0 v1 : Int) (r : mR) (hr : f_Graph_build h v0 v1 = some r) : mJM G M_Graph_build [(2, v0), (2, v1)] h r := by
  refine mJM_of (L := [(2, v0), (2, v1), (9, 0), (9, 0)]) rfl rfl rfl (Nat.le_of_ble_eq_true rfl) ?_
  unfold f_Graph_build at hr
  refine j_aload_n (pc := 0) d_Graph_build_0 rfl ?_
  refine j_aload_n (pc := 1) d_Graph_build_1 rfl ?_
  obtain ⟨ha, hr⟩ := chk_some hr
  refine j_callG (pc := 2) (stk := [(2, v1), (2, v0)]) (as := [(2, v1)]) (P := (fun v9 => ((0 : Nat), v9) :: [(2, v0)])) (tg := 0) (My := M_Box_standCount) (mRunV (as := []) (st := [(2, v0)]) d_Graph_build_2 (mc_Box_standCount (by decide)) rfl (mv_Box_standCount tb_ml_Graph_58) rfl (Nat.le_of_ble_eq_true rfl) ha) (fun v => rfl) rfl hr (fun r1 h1 => t_Box_standCount _ _ _ h1) (fun x2 h1 hr => ?_)
  refine j_sipush (pc := 5) d_Graph_build_5 ?_
  refine j_min (pc := 8) d_Graph_build_8 tb_ml_Graph_61 tb_sm_Math_min tb_in_java_lang_Math tb_co_Math_min (Nat.le_of_ble_eq_true rfl) ?_
  refine j_puti (pc := 11) d_Graph_build_11 (fd_Graph_40 rfl) (⟨_, _, _, rfl, Or.inl rfl, rfl⟩ : mFldW M_Graph_build 40 4 2 .int) hr (fun h3 hr => ?_)
  refine j_aload_n (pc := 14) d_Graph_build_14 rfl ?_
  refine j_iconst (pc := 15) d_Graph_build_15 ?_
  refine j_aload_n (pc := 16) d_Graph_build_16 rfl ?_
  refine j_getf (pc := 17) d_Graph_build_17 (fd_Graph_67 rfl) hr (fun hr => ?_)
  refine j_imul (pc := 20) d_Graph_build_20 ?_
  refine j_puti (pc := 21) d_Graph_build_21 (fd_Graph_70 rfl) (⟨_, _, _, rfl, Or.inl rfl, rfl⟩ : mFldW M_Graph_build 70 4 3 .int) hr (fun h4 hr => ?_)
  refine j_aload_n (pc := 24) d_Graph_build_24 rfl ?_
  refine j_aload_n (pc := 25) d_Graph_build_25 rfl ?_
  refine j_aload_n (pc := 26) d_Graph_build_26 rfl ?_
  refine j_getf (pc := 27) d_Graph_build_27 (fd_Graph_73 rfl) hr (fun hr => ?_)
  obtain ⟨ha, hr⟩ := chk_some hr
  refine j_callG (pc := 30) (stk := [(2, hpV h4 v1 8), (2, v1), (2, v0)]) (as := [(2, v1), (2, hpV h4 v1 8)]) (P := (fun v9 => ((0 : Nat), v9) :: [(2, v0)])) (tg := 0) (My := M_Box_standOf) (mRunV (as := [(2, hpV h4 v1 8)]) (st := [(2, v0)]) d_Graph_build_30 (mc_Box_standOf (by decide)) rfl (mv_Box_standOf tb_ml_Graph_76) rfl (Nat.le_of_ble_eq_true rfl) ha) (fun v => rfl) rfl hr (fun r1 h1 => t_Box_standOf _ _ _ _ h1) (fun x6 h5 hr => ?_)
  refine j_puti (pc := 33) d_Graph_build_33 (fd_Graph_80 rfl) (⟨_, _, _, rfl, Or.inl rfl, rfl⟩ : mFldW M_Graph_build 80 4 4 .int) hr (fun h7 hr => ?_)
  refine j_iconst (pc := 36) d_Graph_build_36 ?_
  refine j_istore_n (pc := 37) (ls' := [(2, v0), (2, v1), (0, 1), (9, 0)]) d_Graph_build_37 rfl ?_
  refine j_iconst (pc := 38) d_Graph_build_38 ?_
  refine j_istore_n (pc := 39) (ls' := [(2, v0), (2, v1), (0, 1), (0, 0)]) d_Graph_build_39 rfl ?_
  refine mJ_weak (ls' := [(2, v0), (2, v1), (0, 1), (0, 0)]) (mwk_s (mwk_s (mwk_s (mwk_s mwk_n)))) (t_Graph_build_L40 (fun h8  hr => ?_) _ _ _ _ hr)
  · refine j_aload_n (pc := 91) d_Graph_build_91 rfl ?_
    refine j_aload_n (pc := 92) d_Graph_build_92 rfl ?_
    refine j_getf (pc := 93) d_Graph_build_93 (fd_Graph_25 rfl) hr (fun hr => ?_)
    refine j_aload_n (pc := 96) d_Graph_build_96 rfl ?_
    refine j_getf (pc := 97) d_Graph_build_97 (fd_Graph_40 rfl) hr (fun hr => ?_)
    refine j_sipush (pc := 100) d_Graph_build_100 ?_
    refine j_callR (pc := 103) (stk := [(0, 20000), (0, hpV h8 v0 2), (2, hpV h8 v0 7), (2, v0)]) (as := [(2, hpV h8 v0 7), (0, hpV h8 v0 2), (0, 20000)]) (P := (fun v9 => ((2 : Nat), v9) :: [(2, v0)])) (tg := 2) (My := M_Nb_grown) (by decide) (mRunN (as := [(2, hpV h8 v0 7), (0, hpV h8 v0 2), (0, 20000)]) (st := [(2, v0)]) d_Graph_build_103 (mc_Nb_grown (by decide)) rfl ⟨⟨_, tb_mn_Graph_50⟩, tb_sm_Nb_grown⟩ rfl (Nat.le_of_ble_eq_true rfl)) (fun v => rfl) hr (fun r1 h1 => t_Nb_grown _ _ _ _ _ h1) (fun x10 h9 hr => ?_)
    refine j_puta (pc := 106) d_Graph_build_106 (fd_Graph_25 rfl) (⟨_, _, _, rfl, Or.inl rfl, rfl⟩ : mFldW M_Graph_build 25 4 7 (.array .int)) (Or.inr ⟨_, rfl⟩) hr (fun h11 hr => ?_)
    refine j_aload_n (pc := 109) d_Graph_build_109 rfl ?_
    refine j_aload_n (pc := 110) d_Graph_build_110 rfl ?_
    refine j_getf (pc := 111) d_Graph_build_111 (fd_Graph_28 rfl) hr (fun hr => ?_)
    refine j_aload_n (pc := 114) d_Graph_build_114 rfl ?_
    refine j_getf (pc := 115) d_Graph_build_115 (fd_Graph_40 rfl) hr (fun hr => ?_)
    refine j_sipush (pc := 118) d_Graph_build_118 ?_
    refine j_callR (pc := 121) (stk := [(0, 20000), (0, hpV h11 v0 2), (2, hpV h11 v0 8), (2, v0)]) (as := [(2, hpV h11 v0 8), (0, hpV h11 v0 2), (0, 20000)]) (P := (fun v9 => ((2 : Nat), v9) :: [(2, v0)])) (tg := 2) (My := M_Nb_grown) (by decide) (mRunN (as := [(2, hpV h11 v0 8), (0, hpV h11 v0 2), (0, 20000)]) (st := [(2, v0)]) d_Graph_build_121 (mc_Nb_grown (by decide)) rfl ⟨⟨_, tb_mn_Graph_50⟩, tb_sm_Nb_grown⟩ rfl (Nat.le_of_ble_eq_true rfl)) (fun v => rfl) hr (fun r1 h1 => t_Nb_grown _ _ _ _ _ h1) (fun x13 h12 hr => ?_)
    refine j_puta (pc := 124) d_Graph_build_124 (fd_Graph_28 rfl) (⟨_, _, _, rfl, Or.inl rfl, rfl⟩ : mFldW M_Graph_build 28 4 8 (.array .int)) (Or.inr ⟨_, rfl⟩) hr (fun h14 hr => ?_)
    refine j_iconst (pc := 127) d_Graph_build_127 ?_
    refine j_istore_n (pc := 128) (ls' := [(2, v0), (2, v1), (9, 0), (0, 0)]) d_Graph_build_128 rfl ?_
    refine mJ_weak (ls' := [(2, v0), (2, v1), (9, 0), (0, 0)]) (mwk_s (mwk_s (mwk_s (mwk_s mwk_n)))) (t_Graph_build_L129  _ _ _ hr)
def M_Graph_fill : mM := ("NineBars$Graph", ⟨"NineBars$Graph", "fill", "([II)V"⟩, prog_6_method_4_code, 4, none, [], 1)
theorem tb_co_Graph_fill : mTB (Cond.code ⟨"NineBars$Graph", "fill", "([II)V"⟩ prog_6_method_4_code 4 (none)) := tbq3 100 (by decide +kernel) rfl
theorem mc_Graph_fill {M : mM} (hd : 1 < mDp M) : mCal M M_Graph_fill 2 := ⟨tb_co_Graph_fill, tb_in_NineBars_Graph, ⟨by decide +kernel, by decide +kernel⟩, by decide +kernel, hd, by decide⟩
theorem d_Graph_fill_0 : decode prog_6_method_4_code 0 = .ok (.iconst 0, 1) := by decide +kernel
theorem d_Graph_fill_1 : decode prog_6_method_4_code 1 = .ok (.istore_n 3, 1) := by decide +kernel
theorem d_Graph_fill_2 : decode prog_6_method_4_code 2 = .ok (.iload_n 3, 1) := by decide +kernel
theorem d_Graph_fill_3 : decode prog_6_method_4_code 3 = .ok (.aload_n 0, 1) := by decide +kernel
theorem d_Graph_fill_4 : decode prog_6_method_4_code 4 = .ok (.getfield 40, 3) := by decide +kernel
theorem d_Graph_fill_7 : decode prog_6_method_4_code 7 = .ok (.if_icmp .ge 35, 3) := by decide +kernel
theorem d_Graph_fill_42 : decode prog_6_method_4_code 42 = .ok (.return_, 1) := by decide +kernel
theorem d_Graph_fill_10 : decode prog_6_method_4_code 10 = .ok (.iload_n 3, 1) := by decide +kernel
theorem d_Graph_fill_11 : decode prog_6_method_4_code 11 = .ok (.aload_n 1, 1) := by decide +kernel
theorem d_Graph_fill_12 : decode prog_6_method_4_code 12 = .ok (.arraylength, 1) := by decide +kernel
theorem d_Graph_fill_13 : decode prog_6_method_4_code 13 = .ok (.if_icmp .ge 29, 3) := by decide +kernel
theorem d_Graph_fill_16 : decode prog_6_method_4_code 16 = .ok (.aload_n 1, 1) := by decide +kernel
theorem d_Graph_fill_17 : decode prog_6_method_4_code 17 = .ok (.iload_n 3, 1) := by decide +kernel
theorem d_Graph_fill_18 : decode prog_6_method_4_code 18 = .ok (.aload_n 0, 1) := by decide +kernel
theorem d_Graph_fill_19 : decode prog_6_method_4_code 19 = .ok (.getfield 25, 3) := by decide +kernel
theorem d_Graph_fill_22 : decode prog_6_method_4_code 22 = .ok (.iload_n 3, 1) := by decide +kernel
theorem d_Graph_fill_23 : decode prog_6_method_4_code 23 = .ok (.iaload, 1) := by decide +kernel
theorem d_Graph_fill_24 : decode prog_6_method_4_code 24 = .ok (.aload_n 0, 1) := by decide +kernel
theorem d_Graph_fill_25 : decode prog_6_method_4_code 25 = .ok (.getfield 28, 3) := by decide +kernel
theorem d_Graph_fill_28 : decode prog_6_method_4_code 28 = .ok (.iload_n 3, 1) := by decide +kernel
theorem d_Graph_fill_29 : decode prog_6_method_4_code 29 = .ok (.iaload, 1) := by decide +kernel
theorem d_Graph_fill_30 : decode prog_6_method_4_code 30 = .ok (.iconst (-1), 1) := by decide +kernel
theorem d_Graph_fill_31 : decode prog_6_method_4_code 31 = .ok (.ixor, 1) := by decide +kernel
theorem d_Graph_fill_32 : decode prog_6_method_4_code 32 = .ok (.iload_n 2, 1) := by decide +kernel
theorem d_Graph_fill_33 : decode prog_6_method_4_code 33 = .ok (.ior, 1) := by decide +kernel
theorem d_Graph_fill_34 : decode prog_6_method_4_code 34 = .ok (.iand, 1) := by decide +kernel
theorem d_Graph_fill_35 : decode prog_6_method_4_code 35 = .ok (.iastore, 1) := by decide +kernel
theorem d_Graph_fill_36 : decode prog_6_method_4_code 36 = .ok (.iinc 3 1, 3) := by decide +kernel
theorem d_Graph_fill_39 : decode prog_6_method_4_code 39 = .ok (.goto (-37), 3) := by decide +kernel
theorem t_Graph_fill_L2 {G : mG} {r : mR} {v0 v1 v2 : Int}  : ∀ (n : Nat) (h : mH) (v3 : Int), f_Graph_fill_L2 v0 v1 v2 n h v3 = some r → mJ G M_Graph_fill 2 [(2, v0), (2, v1), (0, v2), (0, v3)] [] h r := by
  intro n
  induction n with
  | zero =>
    intro h v3 hr
    rw [f_Graph_fill_L2] at hr
    cases hr
  | succ n hR2 =>
    intro h v3 hr
    rw [f_Graph_fill_L2] at hr
    refine j_iload_n (pc := 2) d_Graph_fill_2 rfl ?_
    refine j_aload_n (pc := 3) d_Graph_fill_3 rfl ?_
    refine j_getf (pc := 4) d_Graph_fill_4 (fd_Graph_40 rfl) hr (fun hr => ?_)
    refine j_icmp_ge (pc := 7) (tgt := 42) d_Graph_fill_7 hr (fun hr => ?_) (fun hr => ?_)
    · exact j_vret (pc := 42) d_Graph_fill_42 rfl hr
    · refine j_iload_n (pc := 10) d_Graph_fill_10 rfl ?_
      refine j_aload_n (pc := 11) d_Graph_fill_11 rfl ?_
      refine j_alen (pc := 12) d_Graph_fill_12 hr (fun hr => ?_)
      refine j_icmp_ge (pc := 13) (tgt := 42) d_Graph_fill_13 hr (fun hr => ?_) (fun hr => ?_)
      · exact j_vret (pc := 42) d_Graph_fill_42 rfl hr
      · refine j_aload_n (pc := 16) d_Graph_fill_16 rfl ?_
        refine j_iload_n (pc := 17) d_Graph_fill_17 rfl ?_
        refine j_aload_n (pc := 18) d_Graph_fill_18 rfl ?_
        refine j_getf (pc := 19) d_Graph_fill_19 (fd_Graph_25 rfl) hr (fun hr => ?_)
        refine j_iload_n (pc := 22) d_Graph_fill_22 rfl ?_
        refine j_iaload (pc := 23) d_Graph_fill_23 hr (fun hr => ?_)
        refine j_aload_n (pc := 24) d_Graph_fill_24 rfl ?_
        refine j_getf (pc := 25) d_Graph_fill_25 (fd_Graph_28 rfl) hr (fun hr => ?_)
        refine j_iload_n (pc := 28) d_Graph_fill_28 rfl ?_
        refine j_iaload (pc := 29) d_Graph_fill_29 hr (fun hr => ?_)
        refine j_iconst (pc := 30) d_Graph_fill_30 ?_
        refine j_ixor (pc := 31) d_Graph_fill_31 ?_
        refine j_iload_n (pc := 32) d_Graph_fill_32 rfl ?_
        refine j_ior (pc := 33) d_Graph_fill_33 ?_
        refine j_iand (pc := 34) d_Graph_fill_34 ?_
        refine j_iastore (pc := 35) d_Graph_fill_35 hr (fun h1 hr => ?_)
        refine j_iincW (pc := 36) (L := fun x2 => [(2, v0), (2, v1), (0, v2), (0, x2)]) d_Graph_fill_36 rfl (fun _ => rfl) hr (fun x2 hr => ?_)
        refine j_goto (pc := 39) (tgt := 2) d_Graph_fill_39 ?_
        exact mJ_weak (ls' := [(2, v0), (2, v1), (0, v2), (0, x2)]) (mwk_s (mwk_s (mwk_s (mwk_s mwk_n)))) (hR2 h1 _ hr)
theorem t_Graph_fill {G : mG} (h : mH) (v0 v1 v2 : Int) (r : mR) (hr : f_Graph_fill h v0 v1 v2 = some r) : mJM G M_Graph_fill [(2, v0), (2, v1), (0, v2)] h r := by
  refine mJM_of (L := [(2, v0), (2, v1), (0, v2), (9, 0)]) rfl rfl rfl (Nat.le_of_ble_eq_true rfl) ?_
  unfold f_Graph_fill at hr
  refine j_iconst (pc := 0) d_Graph_fill_0 ?_
  refine j_istore_n (pc := 1) (ls' := [(2, v0), (2, v1), (0, v2), (0, 0)]) d_Graph_fill_1 rfl ?_
  refine mJ_weak (ls' := [(2, v0), (2, v1), (0, v2), (0, 0)]) (mwk_s (mwk_s (mwk_s (mwk_s mwk_n)))) (t_Graph_fill_L2  _ _ _ hr)
