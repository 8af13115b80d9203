def M_Graph_prepare : mM := ("NineBars$Graph", ⟨"NineBars$Graph", "prepare", "(LNineBars$Box;)V"⟩, prog_6_method_2_code, 3, none, [], 9)
theorem tb_co_Graph_prepare : mTB (Cond.code ⟨"NineBars$Graph", "prepare", "(LNineBars$Box;)V"⟩ prog_6_method_2_code 3 (none)) := tbq3 70 (by decide +kernel) rfl
theorem mc_Graph_prepare {M : mM} (hd : 9 < mDp M) : mCal M M_Graph_prepare 1 := ⟨tb_co_Graph_prepare, tb_in_NineBars_Graph, ⟨by decide +kernel, by decide +kernel⟩, by decide +kernel, hd, by decide⟩
theorem d_Graph_prepare_0 : decode prog_6_method_2_code 0 = .ok (.aload_n 0, 1) := by decide +kernel
theorem d_Graph_prepare_1 : decode prog_6_method_2_code 1 = .ok (.getfield 9, 3) := by decide +kernel
theorem d_Graph_prepare_4 : decode prog_6_method_2_code 4 = .ok (.aload_n 1, 1) := by decide +kernel
theorem tb_fl_Graph_37 : mTN (Cond.fieldLinkNest "NineBars$Graph" 37 "NineBars$Box" "edition" "I" "NineBars") := tbqn1 75 (by decide +kernel) rfl
theorem fd_Graph_37 {M : mM} (h : mO M = "NineBars$Graph") : mFld M 37 0 0 0 := ⟨_, _, _, tyX0, rfl, by decide, by decide, rfl, uw_0, tyX0_ok, nmX0, by rw [h]; exact Or.inr ⟨_, tb_fl_Graph_37⟩⟩
theorem d_Graph_prepare_5 : decode prog_6_method_2_code 5 = .ok (.getfield 37, 3) := by decide +kernel
theorem d_Graph_prepare_8 : decode prog_6_method_2_code 8 = .ok (.if_icmp .ne 10, 3) := by decide +kernel
theorem d_Graph_prepare_18 : decode prog_6_method_2_code 18 = .ok (.aload_n 0, 1) := by decide +kernel
theorem d_Graph_prepare_19 : decode prog_6_method_2_code 19 = .ok (.aload_n 1, 1) := by decide +kernel
theorem d_Graph_prepare_20 : decode prog_6_method_2_code 20 = .ok (.invokevirtual 43, 3) := by decide +kernel
theorem tb_ml_Graph_43 : mTB (Cond.methodLink "NineBars$Graph" 43 ⟨"NineBars$Graph", "build", "(LNineBars$Box;)V"⟩) := tbq3 71 (by decide +kernel) rfl
theorem tb_im_Graph_build : mTB (Cond.instanceMethod ⟨"NineBars$Graph", "build", "(LNineBars$Box;)V"⟩) := tbq3 73 (by decide +kernel) rfl
theorem tb_se_Graph_build : mTB (Cond.selects "NineBars$Graph" ⟨"NineBars$Graph", "build", "(LNineBars$Box;)V"⟩ ⟨"NineBars$Graph", "build", "(LNineBars$Box;)V"⟩) := tbqp 4 (by decide +kernel) rfl
theorem mv_Graph_build {M : mM} {idx : Nat} (h : mTB (Cond.methodLink (mO M) idx ⟨"NineBars$Graph", "build", "(LNineBars$Box;)V"⟩)) : mCaV M M_Graph_build idx 4 := ⟨h, tb_im_Graph_build, tb_se_Graph_build, by decide, TX4, 11, rfl⟩
theorem d_Graph_prepare_23 : decode prog_6_method_2_code 23 = .ok (.aload_n 0, 1) := by decide +kernel
theorem d_Graph_prepare_24 : decode prog_6_method_2_code 24 = .ok (.aload_n 1, 1) := by decide +kernel
theorem d_Graph_prepare_25 : decode prog_6_method_2_code 25 = .ok (.getfield 37, 3) := by decide +kernel
theorem d_Graph_prepare_28 : decode prog_6_method_2_code 28 = .ok (.putfield 9, 3) := by decide +kernel
theorem d_Graph_prepare_31 : decode prog_6_method_2_code 31 = .ok (.aload_n 0, 1) := by decide +kernel
theorem d_Graph_prepare_32 : decode prog_6_method_2_code 32 = .ok (.iconst (-1), 1) := by decide +kernel
theorem d_Graph_prepare_33 : decode prog_6_method_2_code 33 = .ok (.putfield 15, 3) := by decide +kernel
theorem d_Graph_prepare_36 : decode prog_6_method_2_code 36 = .ok (.aload_n 1, 1) := by decide +kernel
theorem d_Graph_prepare_37 : decode prog_6_method_2_code 37 = .ok (.invokevirtual 47, 3) := by decide +kernel
theorem tb_ml_Graph_47 : mTB (Cond.methodLink "NineBars$Graph" 47 ⟨"NineBars$Box", "wornBits", "()I"⟩) := tbq3 93 (by decide +kernel) rfl
theorem tb_im_Box_wornBits : mTB (Cond.instanceMethod ⟨"NineBars$Box", "wornBits", "()I"⟩) := tbq3 94 (by decide +kernel) rfl
theorem tb_se_Box_wornBits : mTB (Cond.selects "NineBars$Box" ⟨"NineBars$Box", "wornBits", "()I"⟩ ⟨"NineBars$Box", "wornBits", "()I"⟩) := tbq3 95 (by decide +kernel) rfl
theorem mv_Box_wornBits {M : mM} {idx : Nat} (h : mTB (Cond.methodLink (mO M) idx ⟨"NineBars$Box", "wornBits", "()I"⟩)) : mCaV M M_Box_wornBits idx 0 := ⟨h, tb_im_Box_wornBits, tb_se_Box_wornBits, by decide, TX0, 18, rfl⟩
theorem d_Graph_prepare_40 : decode prog_6_method_2_code 40 = .ok (.istore_n 2, 1) := by decide +kernel
theorem d_Graph_prepare_41 : decode prog_6_method_2_code 41 = .ok (.aload_n 0, 1) := by decide +kernel
theorem d_Graph_prepare_42 : decode prog_6_method_2_code 42 = .ok (.getfield 15, 3) := by decide +kernel
theorem d_Graph_prepare_45 : decode prog_6_method_2_code 45 = .ok (.iload_n 2, 1) := by decide +kernel
theorem d_Graph_prepare_46 : decode prog_6_method_2_code 46 = .ok (.if_icmp .eq 35, 3) := by decide +kernel
theorem d_Graph_prepare_81 : decode prog_6_method_2_code 81 = .ok (.return_, 1) := by decide +kernel
theorem d_Graph_prepare_49 : decode prog_6_method_2_code 49 = .ok (.aload_n 0, 1) := by decide +kernel
theorem d_Graph_prepare_50 : decode prog_6_method_2_code 50 = .ok (.iload_n 2, 1) := by decide +kernel
theorem d_Graph_prepare_51 : decode prog_6_method_2_code 51 = .ok (.putfield 15, 3) := by decide +kernel
theorem d_Graph_prepare_54 : decode prog_6_method_2_code 54 = .ok (.aload_n 0, 1) := by decide +kernel
theorem d_Graph_prepare_55 : decode prog_6_method_2_code 55 = .ok (.aload_n 0, 1) := by decide +kernel
theorem d_Graph_prepare_56 : decode prog_6_method_2_code 56 = .ok (.getfield 31, 3) := by decide +kernel
theorem d_Graph_prepare_59 : decode prog_6_method_2_code 59 = .ok (.aload_n 0, 1) := by decide +kernel
theorem d_Graph_prepare_60 : decode prog_6_method_2_code 60 = .ok (.getfield 40, 3) := by decide +kernel
theorem d_Graph_prepare_63 : decode prog_6_method_2_code 63 = .ok (.sipush 20000, 3) := by decide +kernel
theorem d_Graph_prepare_66 : decode prog_6_method_2_code 66 = .ok (.invokestatic 50, 3) := by decide +kernel
theorem d_Graph_prepare_69 : decode prog_6_method_2_code 69 = .ok (.putfield 31, 3) := by decide +kernel
theorem d_Graph_prepare_72 : decode prog_6_method_2_code 72 = .ok (.aload_n 0, 1) := by decide +kernel
theorem d_Graph_prepare_73 : decode prog_6_method_2_code 73 = .ok (.aload_n 0, 1) := by decide +kernel
theorem d_Graph_prepare_74 : decode prog_6_method_2_code 74 = .ok (.getfield 31, 3) := by decide +kernel
theorem d_Graph_prepare_77 : decode prog_6_method_2_code 77 = .ok (.iload_n 2, 1) := by decide +kernel
theorem d_Graph_prepare_78 : decode prog_6_method_2_code 78 = .ok (.invokevirtual 54, 3) := by decide +kernel
theorem tb_ml_Graph_54 : mTB (Cond.methodLink "NineBars$Graph" 54 ⟨"NineBars$Graph", "fill", "([II)V"⟩) := tbq3 97 (by decide +kernel) rfl
theorem tb_im_Graph_fill : mTB (Cond.instanceMethod ⟨"NineBars$Graph", "fill", "([II)V"⟩) := tbq3 99 (by decide +kernel) rfl
theorem tb_se_Graph_fill : mTB (Cond.selects "NineBars$Graph" ⟨"NineBars$Graph", "fill", "([II)V"⟩ ⟨"NineBars$Graph", "fill", "([II)V"⟩) := tbqp 5 (by decide +kernel) rfl
theorem mv_Graph_fill {M : mM} {idx : Nat} (h : mTB (Cond.methodLink (mO M) idx ⟨"NineBars$Graph", "fill", "([II)V"⟩)) : mCaV M M_Graph_fill idx 4 := ⟨h, tb_im_Graph_fill, tb_se_Graph_fill, by decide, TX4, 11, rfl⟩
theorem d_Graph_prepare_11 : decode prog_6_method_2_code 11 = .ok (.aload_n 0, 1) := by decide +kernel
theorem d_Graph_prepare_12 : decode prog_6_method_2_code 12 = .ok (.getfield 40, 3) := by decide +kernel
theorem d_Graph_prepare_15 : decode prog_6_method_2_code 15 = .ok (.ifCond .ne 21, 3) := by decide +kernel
theorem t_Graph_prepare_J36 {G : mG} {r : mR} {v0 v1 : Int} {h : mH}  (hr : f_Graph_prepare_J36 v0 v1 h = some r) : mJ G M_Graph_prepare 36 [(2, v0), (2, v1), (9, 0)] [] h r := by
  unfold f_Graph_prepare_J36 at hr
  refine j_aload_n (pc := 36) d_Graph_prepare_36 rfl ?_
  obtain ⟨ha, hr⟩ := chk_some hr
  refine j_callG (pc := 37) (stk := [(2, v1)]) (as := [(2, v1)]) (P := (fun v9 => ((0 : Nat), v9) :: [])) (tg := 0) (My := M_Box_wornBits) (mRunV (as := []) (st := []) d_Graph_prepare_37 (mc_Box_wornBits (by decide)) rfl (mv_Box_wornBits tb_ml_Graph_47) rfl (Nat.le_of_ble_eq_true rfl) ha) (fun v => rfl) rfl hr (fun r1 h1 => t_Box_wornBits _ _ _ h1) (fun x2 h1 hr => ?_)
  refine j_istore_n (pc := 40) (ls' := [(2, v0), (2, v1), (0, x2)]) d_Graph_prepare_40 rfl ?_
  refine j_aload_n (pc := 41) d_Graph_prepare_41 rfl ?_
  refine j_getf (pc := 42) d_Graph_prepare_42 (fd_Graph_15 rfl) hr (fun hr => ?_)
  refine j_iload_n (pc := 45) d_Graph_prepare_45 rfl ?_
  refine j_icmp_eq (pc := 46) (tgt := 81) d_Graph_prepare_46 hr (fun hr => ?_) (fun hr => ?_)
  · exact j_vret (pc := 81) d_Graph_prepare_81 rfl hr
  · refine j_aload_n (pc := 49) d_Graph_prepare_49 rfl ?_
    refine j_iload_n (pc := 50) d_Graph_prepare_50 rfl ?_
    refine j_puti (pc := 51) d_Graph_prepare_51 (fd_Graph_15 rfl) (⟨_, _, _, rfl, Or.inl rfl, rfl⟩ : mFldW M_Graph_prepare 15 4 1 .int) hr (fun h3 hr => ?_)
    refine j_aload_n (pc := 54) d_Graph_prepare_54 rfl ?_
    refine j_aload_n (pc := 55) d_Graph_prepare_55 rfl ?_
    refine j_getf (pc := 56) d_Graph_prepare_56 (fd_Graph_31 rfl) hr (fun hr => ?_)
    refine j_aload_n (pc := 59) d_Graph_prepare_59 rfl ?_
    refine j_getf (pc := 60) d_Graph_prepare_60 (fd_Graph_40 rfl) hr (fun hr => ?_)
    refine j_sipush (pc := 63) d_Graph_prepare_63 ?_
    refine j_callR (pc := 66) (stk := [(0, 20000), (0, hpV h3 v0 2), (2, hpV h3 v0 9), (2, v0)]) (as := [(2, hpV h3 v0 9), (0, hpV h3 v0 2), (0, 20000)]) (P := (fun v9 => ((2 : Nat), v9) :: [(2, v0)])) (tg := 2) (My := M_Nb_grown) (by decide) (mRunN (as := [(2, hpV h3 v0 9), (0, hpV h3 v0 2), (0, 20000)]) (st := [(2, v0)]) d_Graph_prepare_66 (mc_Nb_grown (by decide)) rfl ⟨⟨_, tb_mn_Graph_50⟩, tb_sm_Nb_grown⟩ rfl (Nat.le_of_ble_eq_true rfl)) (fun v => rfl) hr (fun r1 h1 => t_Nb_grown _ _ _ _ _ h1) (fun x5 h4 hr => ?_)
    refine j_puta (pc := 69) d_Graph_prepare_69 (fd_Graph_31 rfl) (⟨_, _, _, rfl, Or.inl rfl, rfl⟩ : mFldW M_Graph_prepare 31 4 9 (.array .int)) (Or.inr ⟨_, rfl⟩) hr (fun h6 hr => ?_)
    refine j_aload_n (pc := 72) d_Graph_prepare_72 rfl ?_
    refine j_aload_n (pc := 73) d_Graph_prepare_73 rfl ?_
    refine j_getf (pc := 74) d_Graph_prepare_74 (fd_Graph_31 rfl) hr (fun hr => ?_)
    refine j_iload_n (pc := 77) d_Graph_prepare_77 rfl ?_
    obtain ⟨ha, hr⟩ := chk_some hr
    refine j_callG (pc := 78) (stk := [(0, x2), (2, hpV h6 v0 9), (2, v0)]) (as := [(2, v0), (2, hpV h6 v0 9), (0, x2)]) (P := (fun v9 => [])) (tg := 3) (My := M_Graph_fill) (mRunV (as := [(2, hpV h6 v0 9), (0, x2)]) (st := []) d_Graph_prepare_78 (mc_Graph_fill (by decide)) rfl (mv_Graph_fill tb_ml_Graph_54) rfl (Nat.le_of_ble_eq_true rfl) ha) (fun v => rfl) rfl hr (fun r1 h1 => t_Graph_fill _ _ _ _ _ h1) (fun x8 h7 hr => ?_)
    exact j_vret (pc := 81) d_Graph_prepare_81 rfl hr
theorem t_Graph_prepare_J18 {G : mG} {r : mR} {v0 v1 : Int} {h : mH}  (hr : f_Graph_prepare_J18 v0 v1 h = some r) : mJ G M_Graph_prepare 18 [(2, v0), (2, v1), (9, 0)] [] h r := by
  unfold f_Graph_prepare_J18 at hr
  refine j_aload_n (pc := 18) d_Graph_prepare_18 rfl ?_
  refine j_aload_n (pc := 19) d_Graph_prepare_19 rfl ?_
  obtain ⟨ha, hr⟩ := chk_some hr
  refine j_callG (pc := 20) (stk := [(2, v1), (2, v0)]) (as := [(2, v0), (2, v1)]) (P := (fun v9 => [])) (tg := 3) (My := M_Graph_build) (mRunV (as := [(2, v1)]) (st := []) d_Graph_prepare_20 (mc_Graph_build (by decide)) rfl (mv_Graph_build tb_ml_Graph_43) rfl (Nat.le_of_ble_eq_true rfl) ha) (fun v => rfl) rfl hr (fun r1 h1 => t_Graph_build _ _ _ _ h1) (fun x2 h1 hr => ?_)
  refine j_aload_n (pc := 23) d_Graph_prepare_23 rfl ?_
  refine j_aload_n (pc := 24) d_Graph_prepare_24 rfl ?_
  refine j_getf (pc := 25) d_Graph_prepare_25 (fd_Graph_37 rfl) hr (fun hr => ?_)
  refine j_puti (pc := 28) d_Graph_prepare_28 (fd_Graph_9 rfl) (⟨_, _, _, rfl, Or.inl rfl, rfl⟩ : mFldW M_Graph_prepare 9 4 0 .int) hr (fun h3 hr => ?_)
  refine j_aload_n (pc := 31) d_Graph_prepare_31 rfl ?_
  refine j_iconst (pc := 32) d_Graph_prepare_32 ?_
  refine j_puti (pc := 33) d_Graph_prepare_33 (fd_Graph_15 rfl) (⟨_, _, _, rfl, Or.inl rfl, rfl⟩ : mFldW M_Graph_prepare 15 4 1 .int) hr (fun h4 hr => ?_)
  exact mJ_weak (ls' := [(2, v0), (2, v1), (9, 0)]) (mwk_s (mwk_s (mwk_s mwk_n))) (t_Graph_prepare_J36  hr)
theorem t_Graph_prepare {G : mG} (h : mH) (v0 v1 : Int) (r : mR) (hr : f_Graph_prepare h v0 v1 = some r) : mJM G M_Graph_prepare [(2, v0), (2, v1)] h r := by
  refine mJM_of (L := [(2, v0), (2, v1), (9, 0)]) rfl rfl rfl (Nat.le_of_ble_eq_true rfl) ?_
  unfold f_Graph_prepare at hr
  refine j_aload_n (pc := 0) d_Graph_prepare_0 rfl ?_
  refine j_getf (pc := 1) d_Graph_prepare_1 (fd_Graph_9 rfl) hr (fun hr => ?_)
  refine j_aload_n (pc := 4) d_Graph_prepare_4 rfl ?_
  refine j_getf (pc := 5) d_Graph_prepare_5 (fd_Graph_37 rfl) hr (fun hr => ?_)
  refine j_icmp_ne (pc := 8) (tgt := 18) d_Graph_prepare_8 hr (fun hr => ?_) (fun hr => ?_)
  · exact mJ_weak (ls' := [(2, v0), (2, v1), (9, 0)]) (mwk_s (mwk_s (mwk_s mwk_n))) (t_Graph_prepare_J18  hr)
  · refine j_aload_n (pc := 11) d_Graph_prepare_11 rfl ?_
    refine j_getf (pc := 12) d_Graph_prepare_12 (fd_Graph_40 rfl) hr (fun hr => ?_)
    refine j_if_ne (pc := 15) (tgt := 36) d_Graph_prepare_15 hr (fun hr => ?_) (fun hr => ?_)
    · exact mJ_weak (ls' := [(2, v0), (2, v1), (9, 0)]) (mwk_s (mwk_s (mwk_s mwk_n))) (t_Graph_prepare_J36  hr)
    · exact mJ_weak (ls' := [(2, v0), (2, v1), (9, 0)]) (mwk_s (mwk_s (mwk_s mwk_n))) (t_Graph_prepare_J18  hr)
def M_Paths_take : mM := ("NineBars$Paths", ⟨"NineBars$Paths", "take", "(II)V"⟩, prog_9_method_6_code, 3, none, [], 1)
theorem tb_co_Paths_take : mTB (Cond.code ⟨"NineBars$Paths", "take", "(II)V"⟩ prog_9_method_6_code 3 (none)) := tbq3 117 (by decide +kernel) rfl
theorem mc_Paths_take {M : mM} (hd : 1 < mDp M) : mCal M M_Paths_take 2 := ⟨tb_co_Paths_take, tb_in_NineBars_Paths, ⟨by decide +kernel, by decide +kernel⟩, by decide +kernel, hd, by decide⟩
theorem d_Paths_take_0 : decode prog_9_method_6_code 0 = .ok (.iload_n 1, 1) := by decide +kernel
theorem d_Paths_take_1 : decode prog_9_method_6_code 1 = .ok (.ifCond .lt 61, 3) := by decide +kernel
theorem d_Paths_take_62 : decode prog_9_method_6_code 62 = .ok (.return_, 1) := by decide +kernel
theorem d_Paths_take_4 : decode prog_9_method_6_code 4 = .ok (.iload_n 1, 1) := by decide +kernel
theorem d_Paths_take_5 : decode prog_9_method_6_code 5 = .ok (.aload_n 0, 1) := by decide +kernel
theorem d_Paths_take_6 : decode prog_9_method_6_code 6 = .ok (.getfield 21, 3) := by decide +kernel
theorem d_Paths_take_9 : decode prog_9_method_6_code 9 = .ok (.arraylength, 1) := by decide +kernel
theorem d_Paths_take_10 : decode prog_9_method_6_code 10 = .ok (.if_icmp .ge 52, 3) := by decide +kernel
theorem d_Paths_take_13 : decode prog_9_method_6_code 13 = .ok (.aload_n 0, 1) := by decide +kernel
theorem d_Paths_take_14 : decode prog_9_method_6_code 14 = .ok (.getfield 21, 3) := by decide +kernel
theorem d_Paths_take_17 : decode prog_9_method_6_code 17 = .ok (.iload_n 1, 1) := by decide +kernel
theorem d_Paths_take_18 : decode prog_9_method_6_code 18 = .ok (.iaload, 1) := by decide +kernel
theorem d_Paths_take_19 : decode prog_9_method_6_code 19 = .ok (.iconst (-1), 1) := by decide +kernel
theorem d_Paths_take_20 : decode prog_9_method_6_code 20 = .ok (.if_icmp .ne 42, 3) := by decide +kernel
theorem d_Paths_take_23 : decode prog_9_method_6_code 23 = .ok (.aload_n 0, 1) := by decide +kernel
theorem tb_fl_Paths_50 : mTB (Cond.fieldLink "NineBars$Paths" 50 "NineBars$Paths" "many" "I") := tbq2 17 (by decide +kernel) rfl
theorem fd_Paths_50 {M : mM} (h : mO M = "NineBars$Paths") : mFld M 50 7 4 0 := ⟨_, _, _, tyX7, rfl, by decide, by decide, rfl, uw_7, tyX7_ok, nmX7, by rw [h]; exact Or.inl tb_fl_Paths_50⟩
theorem d_Paths_take_24 : decode prog_9_method_6_code 24 = .ok (.getfield 50, 3) := by decide +kernel
theorem d_Paths_take_27 : decode prog_9_method_6_code 27 = .ok (.aload_n 0, 1) := by decide +kernel
theorem d_Paths_take_28 : decode prog_9_method_6_code 28 = .ok (.getfield 25, 3) := by decide +kernel
theorem d_Paths_take_31 : decode prog_9_method_6_code 31 = .ok (.arraylength, 1) := by decide +kernel
theorem d_Paths_take_32 : decode prog_9_method_6_code 32 = .ok (.if_icmp .ge 30, 3) := by decide +kernel
theorem d_Paths_take_35 : decode prog_9_method_6_code 35 = .ok (.aload_n 0, 1) := by decide +kernel
theorem d_Paths_take_36 : decode prog_9_method_6_code 36 = .ok (.getfield 21, 3) := by decide +kernel
theorem d_Paths_take_39 : decode prog_9_method_6_code 39 = .ok (.iload_n 1, 1) := by decide +kernel
theorem d_Paths_take_40 : decode prog_9_method_6_code 40 = .ok (.iload_n 2, 1) := by decide +kernel
theorem d_Paths_take_41 : decode prog_9_method_6_code 41 = .ok (.iastore, 1) := by decide +kernel
theorem d_Paths_take_42 : decode prog_9_method_6_code 42 = .ok (.aload_n 0, 1) := by decide +kernel
theorem d_Paths_take_43 : decode prog_9_method_6_code 43 = .ok (.getfield 25, 3) := by decide +kernel
theorem d_Paths_take_46 : decode prog_9_method_6_code 46 = .ok (.aload_n 0, 1) := by decide +kernel
theorem d_Paths_take_47 : decode prog_9_method_6_code 47 = .ok (.getfield 50, 3) := by decide +kernel
theorem d_Paths_take_50 : decode prog_9_method_6_code 50 = .ok (.iload_n 1, 1) := by decide +kernel
theorem d_Paths_take_51 : decode prog_9_method_6_code 51 = .ok (.iastore, 1) := by decide +kernel
theorem d_Paths_take_52 : decode prog_9_method_6_code 52 = .ok (.aload_n 0, 1) := by decide +kernel
theorem d_Paths_take_53 : decode prog_9_method_6_code 53 = .ok (.dup, 1) := by decide +kernel
theorem d_Paths_take_54 : decode prog_9_method_6_code 54 = .ok (.getfield 50, 3) := by decide +kernel
theorem d_Paths_take_57 : decode prog_9_method_6_code 57 = .ok (.iconst 1, 1) := by decide +kernel
theorem d_Paths_take_58 : decode prog_9_method_6_code 58 = .ok (.iadd, 1) := by decide +kernel
theorem d_Paths_take_59 : decode prog_9_method_6_code 59 = .ok (.putfield 50, 3) := by decide +kernel
theorem t_Paths_take {G : mG} (h : mH) (v0 v1 v2 : Int) (r : mR) (hr : f_Paths_take h v0 v1 v2 = some r) : mJM G M_Paths_take [(2, v0), (0, v1), (0, v2)] h r := by
  refine mJM_of (L := [(2, v0), (0, v1), (0, v2)]) rfl rfl rfl (Nat.le_of_ble_eq_true rfl) ?_
  unfold f_Paths_take at hr
  refine j_iload_n (pc := 0) d_Paths_take_0 rfl ?_
  refine j_if_lt (pc := 1) (tgt := 62) d_Paths_take_1 hr (fun hr => ?_) (fun hr => ?_)
  · exact j_vret (pc := 62) d_Paths_take_62 rfl hr
  · refine j_iload_n (pc := 4) d_Paths_take_4 rfl ?_
    refine j_aload_n (pc := 5) d_Paths_take_5 rfl ?_
    refine j_getf (pc := 6) d_Paths_take_6 (fd_Paths_21 rfl) hr (fun hr => ?_)
    refine j_alen (pc := 9) d_Paths_take_9 hr (fun hr => ?_)
    refine j_icmp_ge (pc := 10) (tgt := 62) d_Paths_take_10 hr (fun hr => ?_) (fun hr => ?_)
    · exact j_vret (pc := 62) d_Paths_take_62 rfl hr
    · refine j_aload_n (pc := 13) d_Paths_take_13 rfl ?_
      refine j_getf (pc := 14) d_Paths_take_14 (fd_Paths_21 rfl) hr (fun hr => ?_)
      refine j_iload_n (pc := 17) d_Paths_take_17 rfl ?_
      refine j_iaload (pc := 18) d_Paths_take_18 hr (fun hr => ?_)
      refine j_iconst (pc := 19) d_Paths_take_19 ?_
      refine j_icmp_ne (pc := 20) (tgt := 62) d_Paths_take_20 hr (fun hr => ?_) (fun hr => ?_)
      · exact j_vret (pc := 62) d_Paths_take_62 rfl hr
      · refine j_aload_n (pc := 23) d_Paths_take_23 rfl ?_
        refine j_getf (pc := 24) d_Paths_take_24 (fd_Paths_50 rfl) hr (fun hr => ?_)
        refine j_aload_n (pc := 27) d_Paths_take_27 rfl ?_
        refine j_getf (pc := 28) d_Paths_take_28 (fd_Paths_25 rfl) hr (fun hr => ?_)
        refine j_alen (pc := 31) d_Paths_take_31 hr (fun hr => ?_)
        refine j_icmp_ge (pc := 32) (tgt := 62) d_Paths_take_32 hr (fun hr => ?_) (fun hr => ?_)
        · exact j_vret (pc := 62) d_Paths_take_62 rfl hr
        · refine j_aload_n (pc := 35) d_Paths_take_35 rfl ?_
          refine j_getf (pc := 36) d_Paths_take_36 (fd_Paths_21 rfl) hr (fun hr => ?_)
          refine j_iload_n (pc := 39) d_Paths_take_39 rfl ?_
          refine j_iload_n (pc := 40) d_Paths_take_40 rfl ?_
          refine j_iastore (pc := 41) d_Paths_take_41 hr (fun h1 hr => ?_)
          refine j_aload_n (pc := 42) d_Paths_take_42 rfl ?_
          refine j_getf (pc := 43) d_Paths_take_43 (fd_Paths_25 rfl) hr (fun hr => ?_)
          refine j_aload_n (pc := 46) d_Paths_take_46 rfl ?_
          refine j_getf (pc := 47) d_Paths_take_47 (fd_Paths_50 rfl) hr (fun hr => ?_)
          refine j_iload_n (pc := 50) d_Paths_take_50 rfl ?_
          refine j_iastore (pc := 51) d_Paths_take_51 hr (fun h2 hr => ?_)
          refine j_aload_n (pc := 52) d_Paths_take_52 rfl ?_
          refine j_dup (pc := 53) d_Paths_take_53 ?_
          refine j_getf (pc := 54) d_Paths_take_54 (fd_Paths_50 rfl) hr (fun hr => ?_)
          refine j_iconst (pc := 57) d_Paths_take_57 ?_
          refine j_iadd (pc := 58) d_Paths_take_58 ?_
          refine j_puti (pc := 59) d_Paths_take_59 (fd_Paths_50 rfl) (⟨_, _, _, rfl, Or.inl rfl, rfl⟩ : mFldW M_Paths_take 50 7 4 .int) hr (fun h3 hr => ?_)
          exact j_vret (pc := 62) d_Paths_take_62 rfl hr
def M_Paths_begin : mM := ("NineBars$Paths", ⟨"NineBars$Paths", "begin", "(LNineBars$Graph;I)V"⟩, prog_9_method_5_code, 4, none, [], 3)
theorem tb_co_Paths_begin : mTB (Cond.code ⟨"NineBars$Paths", "begin", "(LNineBars$Graph;I)V"⟩ prog_9_method_5_code 4 (none)) := tbq3 112 (by decide +kernel) rfl
theorem mc_Paths_begin {M : mM} (hd : 3 < mDp M) : mCal M M_Paths_begin 2 := ⟨tb_co_Paths_begin, tb_in_NineBars_Paths, ⟨by decide +kernel, by decide +kernel⟩, by decide +kernel, hd, by decide⟩
theorem d_Paths_begin_0 : decode prog_9_method_5_code 0 = .ok (.aload_n 0, 1) := by decide +kernel
theorem d_Paths_begin_1 : decode prog_9_method_5_code 1 = .ok (.iconst (-1), 1) := by decide +kernel
theorem d_Paths_begin_2 : decode prog_9_method_5_code 2 = .ok (.putfield 18, 3) := by decide +kernel
theorem d_Paths_begin_5 : decode prog_9_method_5_code 5 = .ok (.aload_n 0, 1) := by decide +kernel
theorem d_Paths_begin_6 : decode prog_9_method_5_code 6 = .ok (.iconst 0, 1) := by decide +kernel
theorem d_Paths_begin_7 : decode prog_9_method_5_code 7 = .ok (.putfield 50, 3) := by decide +kernel
theorem d_Paths_begin_10 : decode prog_9_method_5_code 10 = .ok (.aload_n 0, 1) := by decide +kernel
theorem d_Paths_begin_11 : decode prog_9_method_5_code 11 = .ok (.aload_n 0, 1) := by decide +kernel
theorem d_Paths_begin_12 : decode prog_9_method_5_code 12 = .ok (.getfield 21, 3) := by decide +kernel
theorem d_Paths_begin_15 : decode prog_9_method_5_code 15 = .ok (.aload_n 1, 1) := by decide +kernel
theorem tb_fl_Paths_47 : mTN (Cond.fieldLinkNest "NineBars$Paths" 47 "NineBars$Graph" "stands" "I" "NineBars") := tbqn1 200 (by decide +kernel) rfl
theorem fd_Paths_47 {M : mM} (h : mO M = "NineBars$Paths") : mFld M 47 4 2 0 := ⟨_, _, _, tyX4, rfl, by decide, by decide, rfl, uw_4, tyX4_ok, nmX4, by rw [h]; exact Or.inr ⟨_, tb_fl_Paths_47⟩⟩
theorem d_Paths_begin_16 : decode prog_9_method_5_code 16 = .ok (.getfield 47, 3) := by decide +kernel
theorem d_Paths_begin_19 : decode prog_9_method_5_code 19 = .ok (.sipush 20000, 3) := by decide +kernel
theorem d_Paths_begin_22 : decode prog_9_method_5_code 22 = .ok (.invokestatic 69, 3) := by decide +kernel
theorem tb_mn_Paths_69 : mTN (Cond.methodLinkNest "NineBars$Paths" 69 ⟨"NineBars", "grown", "([III)[I"⟩ "NineBars") := tbqn3 113 (by decide +kernel) rfl
theorem d_Paths_begin_25 : decode prog_9_method_5_code 25 = .ok (.putfield 21, 3) := by decide +kernel
theorem d_Paths_begin_28 : decode prog_9_method_5_code 28 = .ok (.aload_n 0, 1) := by decide +kernel
theorem d_Paths_begin_29 : decode prog_9_method_5_code 29 = .ok (.aload_n 0, 1) := by decide +kernel
theorem d_Paths_begin_30 : decode prog_9_method_5_code 30 = .ok (.getfield 25, 3) := by decide +kernel
theorem d_Paths_begin_33 : decode prog_9_method_5_code 33 = .ok (.aload_n 1, 1) := by decide +kernel
theorem d_Paths_begin_34 : decode prog_9_method_5_code 34 = .ok (.getfield 47, 3) := by decide +kernel
theorem d_Paths_begin_37 : decode prog_9_method_5_code 37 = .ok (.sipush 20000, 3) := by decide +kernel
theorem d_Paths_begin_40 : decode prog_9_method_5_code 40 = .ok (.invokestatic 69, 3) := by decide +kernel
theorem d_Paths_begin_43 : decode prog_9_method_5_code 43 = .ok (.putfield 25, 3) := by decide +kernel
theorem d_Paths_begin_46 : decode prog_9_method_5_code 46 = .ok (.iconst 0, 1) := by decide +kernel
theorem d_Paths_begin_47 : decode prog_9_method_5_code 47 = .ok (.istore_n 3, 1) := by decide +kernel
theorem d_Paths_begin_48 : decode prog_9_method_5_code 48 = .ok (.iload_n 3, 1) := by decide +kernel
theorem d_Paths_begin_49 : decode prog_9_method_5_code 49 = .ok (.aload_n 0, 1) := by decide +kernel
theorem d_Paths_begin_50 : decode prog_9_method_5_code 50 = .ok (.getfield 21, 3) := by decide +kernel
theorem d_Paths_begin_53 : decode prog_9_method_5_code 53 = .ok (.arraylength, 1) := by decide +kernel
theorem d_Paths_begin_54 : decode prog_9_method_5_code 54 = .ok (.if_icmp .ge 24, 3) := by decide +kernel
theorem d_Paths_begin_57 : decode prog_9_method_5_code 57 = .ok (.iload_n 3, 1) := by decide +kernel
theorem d_Paths_begin_58 : decode prog_9_method_5_code 58 = .ok (.aload_n 1, 1) := by decide +kernel
theorem d_Paths_begin_59 : decode prog_9_method_5_code 59 = .ok (.getfield 47, 3) := by decide +kernel
theorem d_Paths_begin_62 : decode prog_9_method_5_code 62 = .ok (.if_icmp .ge 16, 3) := by decide +kernel
theorem d_Paths_begin_65 : decode prog_9_method_5_code 65 = .ok (.aload_n 0, 1) := by decide +kernel
theorem d_Paths_begin_66 : decode prog_9_method_5_code 66 = .ok (.getfield 21, 3) := by decide +kernel
theorem d_Paths_begin_69 : decode prog_9_method_5_code 69 = .ok (.iload_n 3, 1) := by decide +kernel
theorem d_Paths_begin_70 : decode prog_9_method_5_code 70 = .ok (.iconst (-1), 1) := by decide +kernel
theorem d_Paths_begin_71 : decode prog_9_method_5_code 71 = .ok (.iastore, 1) := by decide +kernel
theorem d_Paths_begin_72 : decode prog_9_method_5_code 72 = .ok (.iinc 3 1, 3) := by decide +kernel
theorem d_Paths_begin_75 : decode prog_9_method_5_code 75 = .ok (.goto (-27), 3) := by decide +kernel
theorem d_Paths_begin_78 : decode prog_9_method_5_code 78 = .ok (.aload_n 0, 1) := by decide +kernel
theorem d_Paths_begin_79 : decode prog_9_method_5_code 79 = .ok (.iload_n 2, 1) := by decide +kernel
theorem d_Paths_begin_80 : decode prog_9_method_5_code 80 = .ok (.iconst 0, 1) := by decide +kernel
theorem d_Paths_begin_81 : decode prog_9_method_5_code 81 = .ok (.invokevirtual 73, 3) := by decide +kernel
theorem tb_ml_Paths_73 : mTB (Cond.methodLink "NineBars$Paths" 73 ⟨"NineBars$Paths", "take", "(II)V"⟩) := tbq3 114 (by decide +kernel) rfl
theorem tb_im_Paths_take : mTB (Cond.instanceMethod ⟨"NineBars$Paths", "take", "(II)V"⟩) := tbq3 116 (by decide +kernel) rfl
theorem tb_se_Paths_take : mTB (Cond.selects "NineBars$Paths" ⟨"NineBars$Paths", "take", "(II)V"⟩ ⟨"NineBars$Paths", "take", "(II)V"⟩) := tbqp 7 (by decide +kernel) rfl
theorem mv_Paths_take {M : mM} {idx : Nat} (h : mTB (Cond.methodLink (mO M) idx ⟨"NineBars$Paths", "take", "(II)V"⟩)) : mCaV M M_Paths_take idx 7 := ⟨h, tb_im_Paths_take, tb_se_Paths_take, by decide, TX7, 7, rfl⟩
theorem d_Paths_begin_84 : decode prog_9_method_5_code 84 = .ok (.return_, 1) := by decide +kernel
theorem t_Paths_begin_L48 {G : mG} {r : mR} {v0 v1 v2 : Int} {K78 : mH → Option mR} (hK78 : ∀ (h : mH) , K78 h  = some r → mJ G M_Paths_begin 78 [(2, v0), (9, 0), (0, v2), (9, 0)] [] h r) : ∀ (n : Nat) (h : mH) (v3 : Int), f_Paths_begin_L48 K78 v0 v1 n h v3 = some r → mJ G M_Paths_begin 48 [(2, v0), (2, v1), (0, v2), (0, v3)] [] h r := by
  intro n
  induction n with
  | zero =>
    intro h v3 hr
    rw [f_Paths_begin_L48] at hr
    cases hr
  | succ n hR48 =>
    intro h v3 hr
    rw [f_Paths_begin_L48] at hr
    refine j_iload_n (pc := 48) d_Paths_begin_48 rfl ?_
    refine j_aload_n (pc := 49) d_Paths_begin_49 rfl ?_
    refine j_getf (pc := 50) d_Paths_begin_50 (fd_Paths_21 rfl) hr (fun hr => ?_)
    refine j_alen (pc := 53) d_Paths_begin_53 hr (fun hr => ?_)
    refine j_icmp_ge (pc := 54) (tgt := 78) d_Paths_begin_54 hr (fun hr => ?_) (fun hr => ?_)
    · exact mJ_weak (ls' := [(2, v0), (9, 0), (0, v2), (9, 0)]) (mwk_s (mwk_d (mwk_s (mwk_d mwk_n)))) (hK78 h  hr)
    · refine j_iload_n (pc := 57) d_Paths_begin_57 rfl ?_
      refine j_aload_n (pc := 58) d_Paths_begin_58 rfl ?_
      refine j_getf (pc := 59) d_Paths_begin_59 (fd_Paths_47 rfl) hr (fun hr => ?_)
      refine j_icmp_ge (pc := 62) (tgt := 78) d_Paths_begin_62 hr (fun hr => ?_) (fun hr => ?_)
      · exact mJ_weak (ls' := [(2, v0), (9, 0), (0, v2), (9, 0)]) (mwk_s (mwk_d (mwk_s (mwk_d mwk_n)))) (hK78 h  hr)
      · refine j_aload_n (pc := 65) d_Paths_begin_65 rfl ?_
        refine j_getf (pc := 66) d_Paths_begin_66 (fd_Paths_21 rfl) hr (fun hr => ?_)
        refine j_iload_n (pc := 69) d_Paths_begin_69 rfl ?_
        refine j_iconst (pc := 70) d_Paths_begin_70 ?_
        refine j_iastore (pc := 71) d_Paths_begin_71 hr (fun h1 hr => ?_)
        refine j_iincW (pc := 72) (L := fun x2 => [(2, v0), (2, v1), (0, v2), (0, x2)]) d_Paths_begin_72 rfl (fun _ => rfl) hr (fun x2 hr => ?_)
        refine j_goto (pc := 75) (tgt := 48) d_Paths_begin_75 ?_
        exact mJ_weak (ls' := [(2, v0), (2, v1), (0, v2), (0, x2)]) (mwk_s (mwk_s (mwk_s (mwk_s mwk_n)))) (hR48 h1 _ hr)
theorem t_Paths_begin_J78 {G : mG} {r : mR} {v0 v2 : Int} {h : mH}  (hr : f_Paths_begin_J78 v0 v2 h = some r) : mJ G M_Paths_begin 78 [(2, v0), (9, 0), (0, v2), (9, 0)] [] h r := by
  unfold f_Paths_begin_J78 at hr
  refine j_aload_n (pc := 78) d_Paths_begin_78 rfl ?_
  refine j_iload_n (pc := 79) d_Paths_begin_79 rfl ?_
  refine j_iconst (pc := 80) d_Paths_begin_80 ?_
  obtain ⟨ha, hr⟩ := chk_some hr
  refine j_callG (pc := 81) (stk := [(0, 0), (0, v2), (2, v0)]) (as := [(2, v0), (0, v2), (0, 0)]) (P := (fun v9 => [])) (tg := 3) (My := M_Paths_take) (mRunV (as := [(0, v2), (0, 0)]) (st := []) d_Paths_begin_81 (mc_Paths_take (by decide)) rfl (mv_Paths_take tb_ml_Paths_73) rfl (Nat.le_of_ble_eq_true rfl) ha) (fun v => rfl) rfl hr (fun r1 h1 => t_Paths_take _ _ _ _ _ h1) (fun x2 h1 hr => ?_)
  exact j_vret (pc := 84) d_Paths_begin_84 rfl hr
theorem t_Paths_begin {G : mG} (h : mH) (v0 v1 v2 : Int) (r : mR) (hr : f_Paths_begin h v0 v1 v2 = some r) : mJM G M_Paths_begin [(2, v0), (2, v1), (0, v2)] h r := by
  refine mJM_of (L := [(2, v0), (2, v1), (0, v2), (9, 0)]) rfl rfl rfl (Nat.le_of_ble_eq_true rfl) ?_
  unfold f_Paths_begin at hr
  refine j_aload_n (pc := 0) d_Paths_begin_0 rfl ?_
  refine j_iconst (pc := 1) d_Paths_begin_1 ?_
  refine j_puti (pc := 2) d_Paths_begin_2 (fd_Paths_18 rfl) (⟨_, _, _, rfl, Or.inl rfl, rfl⟩ : mFldW M_Paths_begin 18 7 3 .int) hr (fun h1 hr => ?_)
  refine j_aload_n (pc := 5) d_Paths_begin_5 rfl ?_
  refine j_iconst (pc := 6) d_Paths_begin_6 ?_
  refine j_puti (pc := 7) d_Paths_begin_7 (fd_Paths_50 rfl) (⟨_, _, _, rfl, Or.inl rfl, rfl⟩ : mFldW M_Paths_begin 50 7 4 .int) hr (fun h2 hr => ?_)
  refine j_aload_n (pc := 10) d_Paths_begin_10 rfl ?_
  refine j_aload_n (pc := 11) d_Paths_begin_11 rfl ?_
  refine j_getf (pc := 12) d_Paths_begin_12 (fd_Paths_21 rfl) hr (fun hr => ?_)
  refine j_aload_n (pc := 15) d_Paths_begin_15 rfl ?_
  refine j_getf (pc := 16) d_Paths_begin_16 (fd_Paths_47 rfl) hr (fun hr => ?_)
  refine j_sipush (pc := 19) d_Paths_begin_19 ?_
  refine j_callR (pc := 22) (stk := [(0, 20000), (0, hpV h2 v1 2), (2, hpV h2 v0 5), (2, v0)]) (as := [(2, hpV h2 v0 5), (0, hpV h2 v1 2), (0, 20000)]) (P := (fun v9 => ((2 : Nat), v9) :: [(2, v0)])) (tg := 2) (My := M_Nb_grown) (by decide) (mRunN (as := [(2, hpV h2 v0 5), (0, hpV h2 v1 2), (0, 20000)]) (st := [(2, v0)]) d_Paths_begin_22 (mc_Nb_grown (by decide)) rfl ⟨⟨_, tb_mn_Paths_69⟩, tb_sm_Nb_grown⟩ rfl (Nat.le_of_ble_eq_true rfl)) (fun v => rfl) hr (fun r1 h1 => t_Nb_grown _ _ _ _ _ h1) (fun x4 h3 hr => ?_)
  refine j_puta (pc := 25) d_Paths_begin_25 (fd_Paths_21 rfl) (⟨_, _, _, rfl, Or.inl rfl, rfl⟩ : mFldW M_Paths_begin 21 7 5 (.array .int)) (Or.inr ⟨_, rfl⟩) hr (fun h5 hr => ?_)
  refine j_aload_n (pc := 28) d_Paths_begin_28 rfl ?_
  refine j_aload_n (pc := 29) d_Paths_begin_29 rfl ?_
  refine j_getf (pc := 30) d_Paths_begin_30 (fd_Paths_25 rfl) hr (fun hr => ?_)
  refine j_aload_n (pc := 33) d_Paths_begin_33 rfl ?_
  refine j_getf (pc := 34) d_Paths_begin_34 (fd_Paths_47 rfl) hr (fun hr => ?_)
  refine j_sipush (pc := 37) d_Paths_begin_37 ?_
  refine j_callR (pc := 40) (stk := [(0, 20000), (0, hpV h5 v1 2), (2, hpV h5 v0 6), (2, v0)]) (as := [(2, hpV h5 v0 6), (0, hpV h5 v1 2), (0, 20000)]) (P := (fun v9 => ((2 : Nat), v9) :: [(2, v0)])) (tg := 2) (My := M_Nb_grown) (by decide) (mRunN (as := [(2, hpV h5 v0 6), (0, hpV h5 v1 2), (0, 20000)]) (st := [(2, v0)]) d_Paths_begin_40 (mc_Nb_grown (by decide)) rfl ⟨⟨_, tb_mn_Paths_69⟩, tb_sm_Nb_grown⟩ rfl (Nat.le_of_ble_eq_true rfl)) (fun v => rfl) hr (fun r1 h1 => t_Nb_grown _ _ _ _ _ h1) (fun x7 h6 hr => ?_)
  refine j_puta (pc := 43) d_Paths_begin_43 (fd_Paths_25 rfl) (⟨_, _, _, rfl, Or.inl rfl, rfl⟩ : mFldW M_Paths_begin 25 7 6 (.array .int)) (Or.inr ⟨_, rfl⟩) hr (fun h8 hr => ?_)
  refine j_iconst (pc := 46) d_Paths_begin_46 ?_
  refine j_istore_n (pc := 47) (ls' := [(2, v0), (2, v1), (0, v2), (0, 0)]) d_Paths_begin_47 rfl ?_
  refine mJ_weak (ls' := [(2, v0), (2, v1), (0, v2), (0, 0)]) (mwk_s (mwk_s (mwk_s (mwk_s mwk_n)))) (t_Paths_begin_L48 (fun h9  hr => ?_) _ _ _ hr)
  · exact mJ_weak (ls' := [(2, v0), (9, 0), (0, v2), (9, 0)]) (mwk_s (mwk_s (mwk_s (mwk_s mwk_n)))) (t_Paths_begin_J78  hr)
def M_Paths_farOf : mM := ("NineBars$Paths", ⟨"NineBars$Paths", "farOf", "(I)I"⟩, prog_9_method_9_code, 2, some .int, [], 1)
theorem tb_co_Paths_farOf : mTB (Cond.code ⟨"NineBars$Paths", "farOf", "(I)I"⟩ prog_9_method_9_code 2 (some .int)) := tbq3 121 (by decide +kernel) rfl
theorem mc_Paths_farOf {M : mM} (hd : 1 < mDp M) : mCal M M_Paths_farOf 1 := ⟨tb_co_Paths_farOf, tb_in_NineBars_Paths, ⟨by decide +kernel, by decide +kernel⟩, by decide +kernel, hd, by decide⟩
theorem d_Paths_farOf_0 : decode prog_9_method_9_code 0 = .ok (.iload_n 1, 1) := by decide +kernel
theorem d_Paths_farOf_1 : decode prog_9_method_9_code 1 = .ok (.ifCond .lt 21, 3) := by decide +kernel
theorem d_Paths_farOf_22 : decode prog_9_method_9_code 22 = .ok (.iconst (-1), 1) := by decide +kernel
theorem d_Paths_farOf_23 : decode prog_9_method_9_code 23 = .ok (.ireturn, 1) := by decide +kernel
theorem d_Paths_farOf_4 : decode prog_9_method_9_code 4 = .ok (.iload_n 1, 1) := by decide +kernel
theorem d_Paths_farOf_5 : decode prog_9_method_9_code 5 = .ok (.aload_n 0, 1) := by decide +kernel
theorem d_Paths_farOf_6 : decode prog_9_method_9_code 6 = .ok (.getfield 21, 3) := by decide +kernel
theorem d_Paths_farOf_9 : decode prog_9_method_9_code 9 = .ok (.arraylength, 1) := by decide +kernel
theorem d_Paths_farOf_10 : decode prog_9_method_9_code 10 = .ok (.if_icmp .ge 12, 3) := by decide +kernel
theorem d_Paths_farOf_13 : decode prog_9_method_9_code 13 = .ok (.aload_n 0, 1) := by decide +kernel
theorem d_Paths_farOf_14 : decode prog_9_method_9_code 14 = .ok (.getfield 21, 3) := by decide +kernel
theorem d_Paths_farOf_17 : decode prog_9_method_9_code 17 = .ok (.iload_n 1, 1) := by decide +kernel
theorem d_Paths_farOf_18 : decode prog_9_method_9_code 18 = .ok (.iaload, 1) := by decide +kernel
theorem d_Paths_farOf_19 : decode prog_9_method_9_code 19 = .ok (.goto 4, 3) := by decide +kernel
theorem t_Paths_farOf_J22 {G : mG} {r : mR} {h : mH}  (hr : f_Paths_farOf_J22 h = some r) : mJ G M_Paths_farOf 22 [(9, 0), (9, 0)] [] h r := by
  unfold f_Paths_farOf_J22 at hr
  refine j_iconst (pc := 22) d_Paths_farOf_22 ?_
  exact j_iret (pc := 23) d_Paths_farOf_23 rfl hr
theorem t_Paths_farOf {G : mG} (h : mH) (v0 v1 : Int) (r : mR) (hr : f_Paths_farOf h v0 v1 = some r) : mJM G M_Paths_farOf [(2, v0), (0, v1)] h r := by
  refine mJM_of (L := [(2, v0), (0, v1)]) rfl rfl rfl (Nat.le_of_ble_eq_true rfl) ?_
  unfold f_Paths_farOf at hr
  refine j_iload_n (pc := 0) d_Paths_farOf_0 rfl ?_
  refine j_if_lt (pc := 1) (tgt := 22) d_Paths_farOf_1 hr (fun hr => ?_) (fun hr => ?_)
  · exact mJ_weak (ls' := [(9, 0), (9, 0)]) (mwk_d (mwk_d mwk_n)) (t_Paths_farOf_J22  hr)
  · refine j_iload_n (pc := 4) d_Paths_farOf_4 rfl ?_
    refine j_aload_n (pc := 5) d_Paths_farOf_5 rfl ?_
    refine j_getf (pc := 6) d_Paths_farOf_6 (fd_Paths_21 rfl) hr (fun hr => ?_)
    refine j_alen (pc := 9) d_Paths_farOf_9 hr (fun hr => ?_)
    refine j_icmp_ge (pc := 10) (tgt := 22) d_Paths_farOf_10 hr (fun hr => ?_) (fun hr => ?_)
    · exact mJ_weak (ls' := [(9, 0), (9, 0)]) (mwk_d (mwk_d mwk_n)) (t_Paths_farOf_J22  hr)
    · refine j_aload_n (pc := 13) d_Paths_farOf_13 rfl ?_
      refine j_getf (pc := 14) d_Paths_farOf_14 (fd_Paths_21 rfl) hr (fun hr => ?_)
      refine j_iload_n (pc := 17) d_Paths_farOf_17 rfl ?_
      refine j_iaload (pc := 18) d_Paths_farOf_18 hr (fun hr => ?_)
      refine j_goto (pc := 19) (tgt := 23) d_Paths_farOf_19 ?_
      exact j_iret (pc := 23) d_Paths_farOf_23 rfl hr
def M_Paths_maskOf : mM := ("NineBars$Paths", ⟨"NineBars$Paths", "maskOf", "(LNineBars$Graph;[II)I"⟩, prog_9_method_4_code, 3, some .int, [], 1)
theorem tb_co_Paths_maskOf : mTB (Cond.code ⟨"NineBars$Paths", "maskOf", "(LNineBars$Graph;[II)I"⟩ prog_9_method_4_code 3 (some .int)) := tbq3 128 (by decide +kernel) rfl
theorem mc_Paths_maskOf {M : mM} (hd : 1 < mDp M) : mCal M M_Paths_maskOf 3 := ⟨tb_co_Paths_maskOf, tb_in_NineBars_Paths, ⟨by decide +kernel, by decide +kernel⟩, by decide +kernel, hd, by decide⟩
theorem d_Paths_maskOf_0 : decode prog_9_method_4_code 0 = .ok (.iload_n 2, 1) := by decide +kernel
theorem d_Paths_maskOf_1 : decode prog_9_method_4_code 1 = .ok (.ifCond .lt 23, 3) := by decide +kernel
theorem d_Paths_maskOf_24 : decode prog_9_method_4_code 24 = .ok (.iconst 0, 1) := by decide +kernel
theorem d_Paths_maskOf_25 : decode prog_9_method_4_code 25 = .ok (.ireturn, 1) := by decide +kernel
theorem d_Paths_maskOf_4 : decode prog_9_method_4_code 4 = .ok (.iload_n 2, 1) := by decide +kernel
theorem d_Paths_maskOf_5 : decode prog_9_method_4_code 5 = .ok (.aload_n 0, 1) := by decide +kernel
theorem d_Paths_maskOf_6 : decode prog_9_method_4_code 6 = .ok (.getfield 47, 3) := by decide +kernel
theorem d_Paths_maskOf_9 : decode prog_9_method_4_code 9 = .ok (.if_icmp .ge 15, 3) := by decide +kernel
theorem d_Paths_maskOf_12 : decode prog_9_method_4_code 12 = .ok (.iload_n 2, 1) := by decide +kernel
theorem d_Paths_maskOf_13 : decode prog_9_method_4_code 13 = .ok (.aload_n 1, 1) := by decide +kernel
theorem d_Paths_maskOf_14 : decode prog_9_method_4_code 14 = .ok (.arraylength, 1) := by decide +kernel
theorem d_Paths_maskOf_15 : decode prog_9_method_4_code 15 = .ok (.if_icmp .ge 9, 3) := by decide +kernel
theorem d_Paths_maskOf_18 : decode prog_9_method_4_code 18 = .ok (.aload_n 1, 1) := by decide +kernel
theorem d_Paths_maskOf_19 : decode prog_9_method_4_code 19 = .ok (.iload_n 2, 1) := by decide +kernel
theorem d_Paths_maskOf_20 : decode prog_9_method_4_code 20 = .ok (.iaload, 1) := by decide +kernel
theorem d_Paths_maskOf_21 : decode prog_9_method_4_code 21 = .ok (.goto 4, 3) := by decide +kernel
theorem t_Paths_maskOf_J24 {G : mG} {r : mR} {h : mH}  (hr : f_Paths_maskOf_J24 h = some r) : mJ G M_Paths_maskOf 24 [(9, 0), (9, 0), (9, 0)] [] h r := by
  unfold f_Paths_maskOf_J24 at hr
  refine j_iconst (pc := 24) d_Paths_maskOf_24 ?_
  exact j_iret (pc := 25) d_Paths_maskOf_25 rfl hr
theorem t_Paths_maskOf {G : mG} (h : mH) (v0 v1 v2 : Int) (r : mR) (hr : f_Paths_maskOf h v0 v1 v2 = some r) : mJM G M_Paths_maskOf [(2, v0), (2, v1), (0, v2)] h r := by
  refine mJM_of (L := [(2, v0), (2, v1), (0, v2)]) rfl rfl rfl (Nat.le_of_ble_eq_true rfl) ?_
  unfold f_Paths_maskOf at hr
  refine j_iload_n (pc := 0) d_Paths_maskOf_0 rfl ?_
  refine j_if_lt (pc := 1) (tgt := 24) d_Paths_maskOf_1 hr (fun hr => ?_) (fun hr => ?_)
  · exact mJ_weak (ls' := [(9, 0), (9, 0), (9, 0)]) (mwk_d (mwk_d (mwk_d mwk_n))) (t_Paths_maskOf_J24  hr)
  · refine j_iload_n (pc := 4) d_Paths_maskOf_4 rfl ?_
    refine j_aload_n (pc := 5) d_Paths_maskOf_5 rfl ?_
    refine j_getf (pc := 6) d_Paths_maskOf_6 (fd_Paths_47 rfl) hr (fun hr => ?_)
    refine j_icmp_ge (pc := 9) (tgt := 24) d_Paths_maskOf_9 hr (fun hr => ?_) (fun hr => ?_)
    · exact mJ_weak (ls' := [(9, 0), (9, 0), (9, 0)]) (mwk_d (mwk_d (mwk_d mwk_n))) (t_Paths_maskOf_J24  hr)
    · refine j_iload_n (pc := 12) d_Paths_maskOf_12 rfl ?_
      refine j_aload_n (pc := 13) d_Paths_maskOf_13 rfl ?_
      refine j_alen (pc := 14) d_Paths_maskOf_14 hr (fun hr => ?_)
      refine j_icmp_ge (pc := 15) (tgt := 24) d_Paths_maskOf_15 hr (fun hr => ?_) (fun hr => ?_)
      · exact mJ_weak (ls' := [(9, 0), (9, 0), (9, 0)]) (mwk_d (mwk_d (mwk_d mwk_n))) (t_Paths_maskOf_J24  hr)
      · refine j_aload_n (pc := 18) d_Paths_maskOf_18 rfl ?_
        refine j_iload_n (pc := 19) d_Paths_maskOf_19 rfl ?_
        refine j_iaload (pc := 20) d_Paths_maskOf_20 hr (fun hr => ?_)
        refine j_goto (pc := 21) (tgt := 25) d_Paths_maskOf_21 ?_
        exact j_iret (pc := 25) d_Paths_maskOf_25 rfl hr
def M_Paths_visit : mM := ("NineBars$Paths", ⟨"NineBars$Paths", "visit", "(LNineBars$Graph;III)V"⟩, prog_9_method_7_code, 6, none, [], 3)
theorem tb_co_Paths_visit : mTB (Cond.code ⟨"NineBars$Paths", "visit", "(LNineBars$Graph;III)V"⟩ prog_9_method_7_code 6 (none)) := tbq3 132 (by decide +kernel) rfl
theorem mc_Paths_visit {M : mM} (hd : 3 < mDp M) : mCal M M_Paths_visit 4 := ⟨tb_co_Paths_visit, tb_in_NineBars_Paths, ⟨by decide +kernel, by decide +kernel⟩, by decide +kernel, hd, by decide⟩
theorem d_Paths_visit_0 : decode prog_9_method_7_code 0 = .ok (.iconst 0, 1) := by decide +kernel
theorem d_Paths_visit_1 : decode prog_9_method_7_code 1 = .ok (.istore 5, 2) := by decide +kernel
theorem d_Paths_visit_3 : decode prog_9_method_7_code 3 = .ok (.iload 5, 2) := by decide +kernel
theorem d_Paths_visit_5 : decode prog_9_method_7_code 5 = .ok (.aload_n 1, 1) := by decide +kernel
theorem tb_fl_Paths_77 : mTN (Cond.fieldLinkNest "NineBars$Paths" 77 "NineBars$Graph" "steps" "I" "NineBars") := tbqn1 204 (by decide +kernel) rfl
theorem fd_Paths_77 {M : mM} (h : mO M = "NineBars$Paths") : mFld M 77 4 3 0 := ⟨_, _, _, tyX4, rfl, by decide, by decide, rfl, uw_4, tyX4_ok, nmX4, by rw [h]; exact Or.inr ⟨_, tb_fl_Paths_77⟩⟩
theorem d_Paths_visit_6 : decode prog_9_method_7_code 6 = .ok (.getfield 77, 3) := by decide +kernel
theorem d_Paths_visit_9 : decode prog_9_method_7_code 9 = .ok (.if_icmp .ge 41, 3) := by decide +kernel
theorem d_Paths_visit_50 : decode prog_9_method_7_code 50 = .ok (.return_, 1) := by decide +kernel
theorem d_Paths_visit_12 : decode prog_9_method_7_code 12 = .ok (.iload_n 3, 1) := by decide +kernel
theorem d_Paths_visit_13 : decode prog_9_method_7_code 13 = .ok (.iload 5, 2) := by decide +kernel
theorem d_Paths_visit_15 : decode prog_9_method_7_code 15 = .ok (.ishr, 1) := by decide +kernel
theorem d_Paths_visit_16 : decode prog_9_method_7_code 16 = .ok (.ifCond .eq 34, 3) := by decide +kernel
theorem d_Paths_visit_19 : decode prog_9_method_7_code 19 = .ok (.iload_n 3, 1) := by decide +kernel
theorem d_Paths_visit_20 : decode prog_9_method_7_code 20 = .ok (.iload 5, 2) := by decide +kernel
theorem d_Paths_visit_22 : decode prog_9_method_7_code 22 = .ok (.ishr, 1) := by decide +kernel
theorem d_Paths_visit_23 : decode prog_9_method_7_code 23 = .ok (.iconst 1, 1) := by decide +kernel
theorem d_Paths_visit_24 : decode prog_9_method_7_code 24 = .ok (.iand, 1) := by decide +kernel
theorem d_Paths_visit_25 : decode prog_9_method_7_code 25 = .ok (.iconst 1, 1) := by decide +kernel
theorem d_Paths_visit_26 : decode prog_9_method_7_code 26 = .ok (.if_icmp .ne 18, 3) := by decide +kernel
theorem d_Paths_visit_44 : decode prog_9_method_7_code 44 = .ok (.iinc 5 1, 3) := by decide +kernel
theorem d_Paths_visit_47 : decode prog_9_method_7_code 47 = .ok (.goto (-44), 3) := by decide +kernel
theorem d_Paths_visit_29 : decode prog_9_method_7_code 29 = .ok (.aload_n 0, 1) := by decide +kernel
theorem d_Paths_visit_30 : decode prog_9_method_7_code 30 = .ok (.iload_n 2, 1) := by decide +kernel
theorem d_Paths_visit_31 : decode prog_9_method_7_code 31 = .ok (.aload_n 1, 1) := by decide +kernel
theorem tb_fl_Paths_80 : mTN (Cond.fieldLinkNest "NineBars$Paths" 80 "NineBars$Graph" "shift" "[I" "NineBars") := tbqn1 214 (by decide +kernel) rfl
theorem fd_Paths_80 {M : mM} (h : mO M = "NineBars$Paths") : mFld M 80 4 5 2 := ⟨_, _, _, tyX4, rfl, by decide, by decide, rfl, uw_4, tyX4_ok, nmX4, by rw [h]; exact Or.inr ⟨_, tb_fl_Paths_80⟩⟩
theorem d_Paths_visit_32 : decode prog_9_method_7_code 32 = .ok (.getfield 80, 3) := by decide +kernel
theorem d_Paths_visit_35 : decode prog_9_method_7_code 35 = .ok (.iload 5, 2) := by decide +kernel
theorem d_Paths_visit_37 : decode prog_9_method_7_code 37 = .ok (.iaload, 1) := by decide +kernel
theorem d_Paths_visit_38 : decode prog_9_method_7_code 38 = .ok (.iadd, 1) := by decide +kernel
theorem d_Paths_visit_39 : decode prog_9_method_7_code 39 = .ok (.iload 4, 2) := by decide +kernel
theorem d_Paths_visit_41 : decode prog_9_method_7_code 41 = .ok (.invokevirtual 73, 3) := by decide +kernel
theorem t_Paths_visit_J44 {G : mG} {r : mR} {v0 v1 v2 v3 v4 v5 : Int} {h : mH} {R3 : mH → Int → Option mR} (hR3 : ∀ (h : mH) (w5 : Int) , R3 h w5 = some r → mJ G M_Paths_visit 3 [(2, v0), (2, v1), (0, v2), (0, v3), (0, v4), (0, w5)] [] h r) (hr : f_Paths_visit_J44 R3 v5 h = some r) : mJ G M_Paths_visit 44 [(2, v0), (2, v1), (0, v2), (0, v3), (0, v4), (0, v5)] [] h r := by
  unfold f_Paths_visit_J44 at hr
  refine j_iincW (pc := 44) (L := fun x1 => [(2, v0), (2, v1), (0, v2), (0, v3), (0, v4), (0, x1)]) d_Paths_visit_44 rfl (fun _ => rfl) hr (fun x1 hr => ?_)
  refine j_goto (pc := 47) (tgt := 3) d_Paths_visit_47 ?_
  exact mJ_weak (ls' := [(2, v0), (2, v1), (0, v2), (0, v3), (0, v4), (0, x1)]) (mwk_s (mwk_s (mwk_s (mwk_s (mwk_s (mwk_s mwk_n)))))) (hR3 h _ hr)
theorem t_Paths_visit_L3 {G : mG} {r : mR} {v0 v1 v2 v3 v4 : Int}  : ∀ (n : Nat) (h : mH) (v5 : Int), f_Paths_visit_L3 v0 v1 v2 v3 v4 n h v5 = some r → mJ G M_Paths_visit 3 [(2, v0), (2, v1), (0, v2), (0, v3), (0, v4), (0, v5)] [] h r := by
  intro n
  induction n with
  | zero =>
    intro h v5 hr
    rw [f_Paths_visit_L3] at hr
    cases hr
  | succ n hR3 =>
    intro h v5 hr
    rw [f_Paths_visit_L3] at hr
    refine j_iload (pc := 3) d_Paths_visit_3 rfl ?_
    refine j_aload_n (pc := 5) d_Paths_visit_5 rfl ?_
    refine j_getf (pc := 6) d_Paths_visit_6 (fd_Paths_77 rfl) hr (fun hr => ?_)
    refine j_icmp_ge (pc := 9) (tgt := 50) d_Paths_visit_9 hr (fun hr => ?_) (fun hr => ?_)
    · exact j_vret (pc := 50) d_Paths_visit_50 rfl hr
    · refine j_iload_n (pc := 12) d_Paths_visit_12 rfl ?_
      refine j_iload (pc := 13) d_Paths_visit_13 rfl ?_
      refine j_ishr (pc := 15) d_Paths_visit_15 ?_
      refine j_if_eq (pc := 16) (tgt := 50) d_Paths_visit_16 hr (fun hr => ?_) (fun hr => ?_)
      · exact j_vret (pc := 50) d_Paths_visit_50 rfl hr
      · refine j_iload_n (pc := 19) d_Paths_visit_19 rfl ?_
        refine j_iload (pc := 20) d_Paths_visit_20 rfl ?_
        refine j_ishr (pc := 22) d_Paths_visit_22 ?_
        refine j_iconst (pc := 23) d_Paths_visit_23 ?_
        refine j_iand (pc := 24) d_Paths_visit_24 ?_
        refine j_iconst (pc := 25) d_Paths_visit_25 ?_
        refine j_icmp_ne (pc := 26) (tgt := 44) d_Paths_visit_26 hr (fun hr => ?_) (fun hr => ?_)
        · exact mJ_weak (ls' := [(2, v0), (2, v1), (0, v2), (0, v3), (0, v4), (0, v5)]) (mwk_s (mwk_s (mwk_s (mwk_s (mwk_s (mwk_s mwk_n)))))) (t_Paths_visit_J44 hR3 hr)
        · refine j_aload_n (pc := 29) d_Paths_visit_29 rfl ?_
          refine j_iload_n (pc := 30) d_Paths_visit_30 rfl ?_
          refine j_aload_n (pc := 31) d_Paths_visit_31 rfl ?_
          refine j_getf (pc := 32) d_Paths_visit_32 (fd_Paths_80 rfl) hr (fun hr => ?_)
          refine j_iload (pc := 35) d_Paths_visit_35 rfl ?_
          refine j_iaload (pc := 37) d_Paths_visit_37 hr (fun hr => ?_)
          refine j_iadd (pc := 38) d_Paths_visit_38 ?_
          refine j_iload (pc := 39) d_Paths_visit_39 rfl ?_
          obtain ⟨ha, hr⟩ := chk_some hr
          refine j_callG (pc := 41) (stk := [(0, v4), (0, w32 (v2 + (hpV h (hpV h v1 5) v5))), (2, v0)]) (as := [(2, v0), (0, w32 (v2 + (hpV h (hpV h v1 5) v5))), (0, v4)]) (P := (fun v9 => [])) (tg := 3) (My := M_Paths_take) (mRunV (as := [(0, w32 (v2 + (hpV h (hpV h v1 5) v5))), (0, v4)]) (st := []) d_Paths_visit_41 (mc_Paths_take (by decide)) rfl (mv_Paths_take tb_ml_Paths_73) rfl (Nat.le_of_ble_eq_true rfl) ha) (fun v => rfl) rfl hr (fun r1 h1 => t_Paths_take _ _ _ _ _ h1) (fun x2 h1 hr => ?_)
          exact mJ_weak (ls' := [(2, v0), (2, v1), (0, v2), (0, v3), (0, v4), (0, v5)]) (mwk_s (mwk_s (mwk_s (mwk_s (mwk_s (mwk_s mwk_n)))))) (t_Paths_visit_J44 hR3 hr)
theorem t_Paths_visit {G : mG} (h : mH) (v0 v1 v2 v3 v4 : Int) (r : mR) (hr : f_Paths_visit h v0 v1 v2 v3 v4 = some r) : mJM G M_Paths_visit [(2, v0), (2, v1), (0, v2), (0, v3), (0, v4)] h r := by
  refine mJM_of (L := [(2, v0), (2, v1), (0, v2), (0, v3), (0, v4), (9, 0)]) rfl rfl rfl (Nat.le_of_ble_eq_true rfl) ?_
  unfold f_Paths_visit at hr
  refine j_iconst (pc := 0) d_Paths_visit_0 ?_
  refine j_istore (pc := 1) (ls' := [(2, v0), (2, v1), (0, v2), (0, v3), (0, v4), (0, 0)]) d_Paths_visit_1 rfl ?_
  refine mJ_weak (ls' := [(2, v0), (2, v1), (0, v2), (0, v3), (0, v4), (0, 0)]) (mwk_s (mwk_s (mwk_s (mwk_s (mwk_s (mwk_s mwk_n)))))) (t_Paths_visit_L3  _ _ _ hr)
def M_Paths_visitAhead : mM := ("NineBars$Paths", ⟨"NineBars$Paths", "visitAhead", "(LNineBars$Graph;[II)V"⟩, prog_9_method_8_code, 6, none, [], 3)
theorem tb_co_Paths_visitAhead : mTB (Cond.code ⟨"NineBars$Paths", "visitAhead", "(LNineBars$Graph;[II)V"⟩ prog_9_method_8_code 6 (none)) := tbq3 125 (by decide +kernel) rfl
theorem mc_Paths_visitAhead {M : mM} (hd : 3 < mDp M) : mCal M M_Paths_visitAhead 3 := ⟨tb_co_Paths_visitAhead, tb_in_NineBars_Paths, ⟨by decide +kernel, by decide +kernel⟩, by decide +kernel, hd, by decide⟩
theorem d_Paths_visitAhead_0 : decode prog_9_method_8_code 0 = .ok (.iconst 0, 1) := by decide +kernel
theorem d_Paths_visitAhead_1 : decode prog_9_method_8_code 1 = .ok (.istore 4, 2) := by decide +kernel
theorem d_Paths_visitAhead_3 : decode prog_9_method_8_code 3 = .ok (.iload 4, 2) := by decide +kernel
theorem d_Paths_visitAhead_5 : decode prog_9_method_8_code 5 = .ok (.aload_n 1, 1) := by decide +kernel
theorem d_Paths_visitAhead_6 : decode prog_9_method_8_code 6 = .ok (.getfield 77, 3) := by decide +kernel
theorem d_Paths_visitAhead_9 : decode prog_9_method_8_code 9 = .ok (.if_icmp .ge 49, 3) := by decide +kernel
theorem d_Paths_visitAhead_58 : decode prog_9_method_8_code 58 = .ok (.return_, 1) := by decide +kernel
theorem d_Paths_visitAhead_12 : decode prog_9_method_8_code 12 = .ok (.iload_n 3, 1) := by decide +kernel
theorem d_Paths_visitAhead_13 : decode prog_9_method_8_code 13 = .ok (.aload_n 1, 1) := by decide +kernel
theorem d_Paths_visitAhead_14 : decode prog_9_method_8_code 14 = .ok (.getfield 80, 3) := by decide +kernel
theorem d_Paths_visitAhead_17 : decode prog_9_method_8_code 17 = .ok (.iload 4, 2) := by decide +kernel
theorem d_Paths_visitAhead_19 : decode prog_9_method_8_code 19 = .ok (.iaload, 1) := by decide +kernel
theorem d_Paths_visitAhead_20 : decode prog_9_method_8_code 20 = .ok (.isub, 1) := by decide +kernel
theorem d_Paths_visitAhead_21 : decode prog_9_method_8_code 21 = .ok (.istore 5, 2) := by decide +kernel
theorem d_Paths_visitAhead_23 : decode prog_9_method_8_code 23 = .ok (.aload_n 1, 1) := by decide +kernel
theorem d_Paths_visitAhead_24 : decode prog_9_method_8_code 24 = .ok (.aload_n 2, 1) := by decide +kernel
theorem d_Paths_visitAhead_25 : decode prog_9_method_8_code 25 = .ok (.iload 5, 2) := by decide +kernel
theorem d_Paths_visitAhead_27 : decode prog_9_method_8_code 27 = .ok (.invokestatic 61, 3) := by decide +kernel
theorem tb_ml_Paths_61 : mTB (Cond.methodLink "NineBars$Paths" 61 ⟨"NineBars$Paths", "maskOf", "(LNineBars$Graph;[II)I"⟩) := tbq3 126 (by decide +kernel) rfl
theorem tb_sm_Paths_maskOf : mTB (Cond.static ⟨"NineBars$Paths", "maskOf", "(LNineBars$Graph;[II)I"⟩) := tbq3 127 (by decide +kernel) rfl
theorem d_Paths_visitAhead_30 : decode prog_9_method_8_code 30 = .ok (.iload 4, 2) := by decide +kernel
theorem d_Paths_visitAhead_32 : decode prog_9_method_8_code 32 = .ok (.ishr, 1) := by decide +kernel
theorem d_Paths_visitAhead_33 : decode prog_9_method_8_code 33 = .ok (.iconst 1, 1) := by decide +kernel
theorem d_Paths_visitAhead_34 : decode prog_9_method_8_code 34 = .ok (.iand, 1) := by decide +kernel
theorem d_Paths_visitAhead_35 : decode prog_9_method_8_code 35 = .ok (.iconst 1, 1) := by decide +kernel
theorem d_Paths_visitAhead_36 : decode prog_9_method_8_code 36 = .ok (.if_icmp .ne 16, 3) := by decide +kernel
theorem d_Paths_visitAhead_52 : decode prog_9_method_8_code 52 = .ok (.iinc 4 1, 3) := by decide +kernel
theorem d_Paths_visitAhead_55 : decode prog_9_method_8_code 55 = .ok (.goto (-52), 3) := by decide +kernel
theorem d_Paths_visitAhead_39 : decode prog_9_method_8_code 39 = .ok (.aload_n 0, 1) := by decide +kernel
theorem d_Paths_visitAhead_40 : decode prog_9_method_8_code 40 = .ok (.iload 5, 2) := by decide +kernel
theorem d_Paths_visitAhead_42 : decode prog_9_method_8_code 42 = .ok (.aload_n 0, 1) := by decide +kernel
theorem d_Paths_visitAhead_43 : decode prog_9_method_8_code 43 = .ok (.iload_n 3, 1) := by decide +kernel
theorem d_Paths_visitAhead_44 : decode prog_9_method_8_code 44 = .ok (.invokevirtual 53, 3) := by decide +kernel
theorem tb_ml_Paths_53 : mTB (Cond.methodLink "NineBars$Paths" 53 ⟨"NineBars$Paths", "farOf", "(I)I"⟩) := tbq3 118 (by decide +kernel) rfl
theorem tb_im_Paths_farOf : mTB (Cond.instanceMethod ⟨"NineBars$Paths", "farOf", "(I)I"⟩) := tbq3 119 (by decide +kernel) rfl
theorem tb_se_Paths_farOf : mTB (Cond.selects "NineBars$Paths" ⟨"NineBars$Paths", "farOf", "(I)I"⟩ ⟨"NineBars$Paths", "farOf", "(I)I"⟩) := tbq3 120 (by decide +kernel) rfl
theorem mv_Paths_farOf {M : mM} {idx : Nat} (h : mTB (Cond.methodLink (mO M) idx ⟨"NineBars$Paths", "farOf", "(I)I"⟩)) : mCaV M M_Paths_farOf idx 7 := ⟨h, tb_im_Paths_farOf, tb_se_Paths_farOf, by decide, TX7, 7, rfl⟩
theorem d_Paths_visitAhead_47 : decode prog_9_method_8_code 47 = .ok (.iconst 1, 1) := by decide +kernel
theorem d_Paths_visitAhead_48 : decode prog_9_method_8_code 48 = .ok (.iadd, 1) := by decide +kernel
theorem d_Paths_visitAhead_49 : decode prog_9_method_8_code 49 = .ok (.invokevirtual 73, 3) := by decide +kernel
theorem t_Paths_visitAhead_J52 {G : mG} {r : mR} {v0 v1 v2 v3 v4 : Int} {h : mH} {R3 : mH → Int → Option mR} (hR3 : ∀ (h : mH) (w4 : Int) , R3 h w4 = some r → mJ G M_Paths_visitAhead 3 [(2, v0), (2, v1), (2, v2), (0, v3), (0, w4), (9, 0)] [] h r) (hr : f_Paths_visitAhead_J52 R3 v4 h = some r) : mJ G M_Paths_visitAhead 52 [(2, v0), (2, v1), (2, v2), (0, v3), (0, v4), (9, 0)] [] h r := by
  unfold f_Paths_visitAhead_J52 at hr
  refine j_iincW (pc := 52) (L := fun x1 => [(2, v0), (2, v1), (2, v2), (0, v3), (0, x1), (9, 0)]) d_Paths_visitAhead_52 rfl (fun _ => rfl) hr (fun x1 hr => ?_)
  refine j_goto (pc := 55) (tgt := 3) d_Paths_visitAhead_55 ?_
  exact mJ_weak (ls' := [(2, v0), (2, v1), (2, v2), (0, v3), (0, x1), (9, 0)]) (mwk_s (mwk_s (mwk_s (mwk_s (mwk_s (mwk_s mwk_n)))))) (hR3 h _ hr)
theorem t_Paths_visitAhead_L3 {G : mG} {r : mR} {v0 v1 v2 v3 : Int}  : ∀ (n : Nat) (h : mH) (v4 : Int), f_Paths_visitAhead_L3 v0 v1 v2 v3 n h v4 = some r → mJ G M_Paths_visitAhead 3 [(2, v0), (2, v1), (2, v2), (0, v3), (0, v4), (9, 0)] [] h r := by
  intro n
  induction n with
  | zero =>
    intro h v4 hr
    rw [f_Paths_visitAhead_L3] at hr
    cases hr
  | succ n hR3 =>
    intro h v4 hr
    rw [f_Paths_visitAhead_L3] at hr
    refine j_iload (pc := 3) d_Paths_visitAhead_3 rfl ?_
    refine j_aload_n (pc := 5) d_Paths_visitAhead_5 rfl ?_
    refine j_getf (pc := 6) d_Paths_visitAhead_6 (fd_Paths_77 rfl) hr (fun hr => ?_)
    refine j_icmp_ge (pc := 9) (tgt := 58) d_Paths_visitAhead_9 hr (fun hr => ?_) (fun hr => ?_)
    · exact j_vret (pc := 58) d_Paths_visitAhead_58 rfl hr
    · refine j_iload_n (pc := 12) d_Paths_visitAhead_12 rfl ?_
      refine j_aload_n (pc := 13) d_Paths_visitAhead_13 rfl ?_
      refine j_getf (pc := 14) d_Paths_visitAhead_14 (fd_Paths_80 rfl) hr (fun hr => ?_)
      refine j_iload (pc := 17) d_Paths_visitAhead_17 rfl ?_
      refine j_iaload (pc := 19) d_Paths_visitAhead_19 hr (fun hr => ?_)
      refine j_isub (pc := 20) d_Paths_visitAhead_20 ?_
      refine j_istoreW (pc := 21) (L := fun x1 => [(2, v0), (2, v1), (2, v2), (0, v3), (0, v4), (0, x1)]) d_Paths_visitAhead_21 (fun _ => rfl) hr (fun x1 hr => ?_)
      refine j_aload_n (pc := 23) d_Paths_visitAhead_23 rfl ?_
      refine j_aload_n (pc := 24) d_Paths_visitAhead_24 rfl ?_
      refine j_iload (pc := 25) d_Paths_visitAhead_25 rfl ?_
      refine j_callG (pc := 27) (stk := [(0, x1), (2, v2), (2, v1)]) (as := [(2, v1), (2, v2), (0, x1)]) (P := (fun v9 => ((0 : Nat), v9) :: [])) (tg := 0) (My := M_Paths_maskOf) (mRunS (as := [(2, v1), (2, v2), (0, x1)]) (st := []) d_Paths_visitAhead_27 (mc_Paths_maskOf (by decide)) rfl ⟨tb_ml_Paths_61, tb_sm_Paths_maskOf⟩ rfl (Nat.le_of_ble_eq_true rfl)) (fun v => rfl) rfl hr (fun r1 h1 => t_Paths_maskOf _ _ _ _ _ h1) (fun x3 h2 hr => ?_)
      refine j_iload (pc := 30) d_Paths_visitAhead_30 rfl ?_
      refine j_ishr (pc := 32) d_Paths_visitAhead_32 ?_
      refine j_iconst (pc := 33) d_Paths_visitAhead_33 ?_
      refine j_iand (pc := 34) d_Paths_visitAhead_34 ?_
      refine j_iconst (pc := 35) d_Paths_visitAhead_35 ?_
      refine j_icmp_ne (pc := 36) (tgt := 52) d_Paths_visitAhead_36 hr (fun hr => ?_) (fun hr => ?_)
      · exact mJ_weak (ls' := [(2, v0), (2, v1), (2, v2), (0, v3), (0, v4), (9, 0)]) (mwk_s (mwk_s (mwk_s (mwk_s (mwk_s (mwk_d mwk_n)))))) (t_Paths_visitAhead_J52 hR3 hr)
      · refine j_aload_n (pc := 39) d_Paths_visitAhead_39 rfl ?_
        refine j_iload (pc := 40) d_Paths_visitAhead_40 rfl ?_
        refine j_aload_n (pc := 42) d_Paths_visitAhead_42 rfl ?_
        refine j_iload_n (pc := 43) d_Paths_visitAhead_43 rfl ?_
        obtain ⟨ha, hr⟩ := chk_some hr
        refine j_callG (pc := 44) (stk := [(0, v3), (2, v0), (0, x1), (2, v0)]) (as := [(2, v0), (0, v3)]) (P := (fun v9 => ((0 : Nat), v9) :: [(0, x1), (2, v0)])) (tg := 0) (My := M_Paths_farOf) (mRunV (as := [(0, v3)]) (st := [(0, x1), (2, v0)]) d_Paths_visitAhead_44 (mc_Paths_farOf (by decide)) rfl (mv_Paths_farOf tb_ml_Paths_53) rfl (Nat.le_of_ble_eq_true rfl) ha) (fun v => rfl) rfl hr (fun r1 h1 => t_Paths_farOf _ _ _ _ h1) (fun x5 h4 hr => ?_)
        refine j_iconst (pc := 47) d_Paths_visitAhead_47 ?_
        refine j_iadd (pc := 48) d_Paths_visitAhead_48 ?_
        obtain ⟨ha, hr⟩ := chk_some hr
        refine j_callG (pc := 49) (stk := [(0, w32 (x5 + 1)), (0, x1), (2, v0)]) (as := [(2, v0), (0, x1), (0, w32 (x5 + 1))]) (P := (fun v9 => [])) (tg := 3) (My := M_Paths_take) (mRunV (as := [(0, x1), (0, w32 (x5 + 1))]) (st := []) d_Paths_visitAhead_49 (mc_Paths_take (by decide)) rfl (mv_Paths_take tb_ml_Paths_73) rfl (Nat.le_of_ble_eq_true rfl) ha) (fun v => rfl) rfl hr (fun r1 h1 => t_Paths_take _ _ _ _ _ h1) (fun x7 h6 hr => ?_)
        exact mJ_weak (ls' := [(2, v0), (2, v1), (2, v2), (0, v3), (0, v4), (9, 0)]) (mwk_s (mwk_s (mwk_s (mwk_s (mwk_s (mwk_d mwk_n)))))) (t_Paths_visitAhead_J52 hR3 hr)
theorem t_Paths_visitAhead {G : mG} (h : mH) (v0 v1 v2 v3 : Int) (r : mR) (hr : f_Paths_visitAhead h v0 v1 v2 v3 = some r) : mJM G M_Paths_visitAhead [(2, v0), (2, v1), (2, v2), (0, v3)] h r := by
  refine mJM_of (L := [(2, v0), (2, v1), (2, v2), (0, v3), (9, 0), (9, 0)]) rfl rfl rfl (Nat.le_of_ble_eq_true rfl) ?_
  unfold f_Paths_visitAhead at hr
  refine j_iconst (pc := 0) d_Paths_visitAhead_0 ?_
  refine j_istore (pc := 1) (ls' := [(2, v0), (2, v1), (2, v2), (0, v3), (0, 0), (9, 0)]) d_Paths_visitAhead_1 rfl ?_
  refine mJ_weak (ls' := [(2, v0), (2, v1), (2, v2), (0, v3), (0, 0), (9, 0)]) (mwk_s (mwk_s (mwk_s (mwk_s (mwk_s (mwk_s mwk_n)))))) (t_Paths_visitAhead_L3  _ _ _ hr)
def M_Paths_spread : mM := ("NineBars$Paths", ⟨"NineBars$Paths", "spread", "(LNineBars$Graph;[III)V"⟩, prog_9_method_3_code, 7, none, [], 5)
theorem tb_co_Paths_spread : mTB (Cond.code ⟨"NineBars$Paths", "spread", "(LNineBars$Graph;[III)V"⟩ prog_9_method_3_code 7 (none)) := tbq3 108 (by decide +kernel) rfl
theorem mc_Paths_spread {M : mM} (hd : 5 < mDp M) : mCal M M_Paths_spread 4 := ⟨tb_co_Paths_spread, tb_in_NineBars_Paths, ⟨by decide +kernel, by decide +kernel⟩, by decide +kernel, hd, by decide⟩
theorem d_Paths_spread_0 : decode prog_9_method_3_code 0 = .ok (.aload_n 0, 1) := by decide +kernel
theorem d_Paths_spread_1 : decode prog_9_method_3_code 1 = .ok (.aload_n 1, 1) := by decide +kernel
theorem d_Paths_spread_2 : decode prog_9_method_3_code 2 = .ok (.iload_n 3, 1) := by decide +kernel
theorem d_Paths_spread_3 : decode prog_9_method_3_code 3 = .ok (.invokevirtual 43, 3) := by decide +kernel
theorem tb_ml_Paths_43 : mTB (Cond.methodLink "NineBars$Paths" 43 ⟨"NineBars$Paths", "begin", "(LNineBars$Graph;I)V"⟩) := tbq3 109 (by decide +kernel) rfl
theorem tb_im_Paths_begin : mTB (Cond.instanceMethod ⟨"NineBars$Paths", "begin", "(LNineBars$Graph;I)V"⟩) := tbq3 111 (by decide +kernel) rfl
theorem tb_se_Paths_begin : mTB (Cond.selects "NineBars$Paths" ⟨"NineBars$Paths", "begin", "(LNineBars$Graph;I)V"⟩ ⟨"NineBars$Paths", "begin", "(LNineBars$Graph;I)V"⟩) := tbqp 6 (by decide +kernel) rfl
theorem mv_Paths_begin {M : mM} {idx : Nat} (h : mTB (Cond.methodLink (mO M) idx ⟨"NineBars$Paths", "begin", "(LNineBars$Graph;I)V"⟩)) : mCaV M M_Paths_begin idx 7 := ⟨h, tb_im_Paths_begin, tb_se_Paths_begin, by decide, TX7, 7, rfl⟩
theorem d_Paths_spread_6 : decode prog_9_method_3_code 6 = .ok (.iconst 0, 1) := by decide +kernel
theorem d_Paths_spread_7 : decode prog_9_method_3_code 7 = .ok (.istore 5, 2) := by decide +kernel
theorem d_Paths_spread_9 : decode prog_9_method_3_code 9 = .ok (.iload 5, 2) := by decide +kernel
theorem d_Paths_spread_11 : decode prog_9_method_3_code 11 = .ok (.aload_n 1, 1) := by decide +kernel
theorem d_Paths_spread_12 : decode prog_9_method_3_code 12 = .ok (.getfield 47, 3) := by decide +kernel
theorem d_Paths_spread_15 : decode prog_9_method_3_code 15 = .ok (.if_icmp .ge 77, 3) := by decide +kernel
theorem d_Paths_spread_92 : decode prog_9_method_3_code 92 = .ok (.return_, 1) := by decide +kernel
theorem d_Paths_spread_18 : decode prog_9_method_3_code 18 = .ok (.iload 5, 2) := by decide +kernel
theorem d_Paths_spread_20 : decode prog_9_method_3_code 20 = .ok (.aload_n 0, 1) := by decide +kernel
theorem d_Paths_spread_21 : decode prog_9_method_3_code 21 = .ok (.getfield 50, 3) := by decide +kernel
theorem d_Paths_spread_24 : decode prog_9_method_3_code 24 = .ok (.if_icmp .ge 68, 3) := by decide +kernel
theorem d_Paths_spread_27 : decode prog_9_method_3_code 27 = .ok (.aload_n 0, 1) := by decide +kernel
theorem d_Paths_spread_28 : decode prog_9_method_3_code 28 = .ok (.iload 4, 2) := by decide +kernel
theorem d_Paths_spread_30 : decode prog_9_method_3_code 30 = .ok (.invokevirtual 53, 3) := by decide +kernel
theorem d_Paths_spread_33 : decode prog_9_method_3_code 33 = .ok (.iconst (-1), 1) := by decide +kernel
theorem d_Paths_spread_34 : decode prog_9_method_3_code 34 = .ok (.if_icmp .ne 58, 3) := by decide +kernel
theorem d_Paths_spread_37 : decode prog_9_method_3_code 37 = .ok (.aload_n 0, 1) := by decide +kernel
theorem d_Paths_spread_38 : decode prog_9_method_3_code 38 = .ok (.getfield 25, 3) := by decide +kernel
theorem d_Paths_spread_41 : decode prog_9_method_3_code 41 = .ok (.iload 5, 2) := by decide +kernel
theorem d_Paths_spread_43 : decode prog_9_method_3_code 43 = .ok (.iaload, 1) := by decide +kernel
theorem d_Paths_spread_44 : decode prog_9_method_3_code 44 = .ok (.istore 6, 2) := by decide +kernel
theorem d_Paths_spread_46 : decode prog_9_method_3_code 46 = .ok (.aload_n 0, 1) := by decide +kernel
theorem d_Paths_spread_47 : decode prog_9_method_3_code 47 = .ok (.getfield 28, 3) := by decide +kernel
theorem d_Paths_spread_50 : decode prog_9_method_3_code 50 = .ok (.ifCond .eq 14, 3) := by decide +kernel
theorem d_Paths_spread_64 : decode prog_9_method_3_code 64 = .ok (.aload_n 0, 1) := by decide +kernel
theorem d_Paths_spread_65 : decode prog_9_method_3_code 65 = .ok (.aload_n 1, 1) := by decide +kernel
theorem d_Paths_spread_66 : decode prog_9_method_3_code 66 = .ok (.iload 6, 2) := by decide +kernel
theorem d_Paths_spread_68 : decode prog_9_method_3_code 68 = .ok (.aload_n 1, 1) := by decide +kernel
theorem d_Paths_spread_69 : decode prog_9_method_3_code 69 = .ok (.aload_n 2, 1) := by decide +kernel
theorem d_Paths_spread_70 : decode prog_9_method_3_code 70 = .ok (.iload 6, 2) := by decide +kernel
theorem d_Paths_spread_72 : decode prog_9_method_3_code 72 = .ok (.invokestatic 61, 3) := by decide +kernel
theorem d_Paths_spread_75 : decode prog_9_method_3_code 75 = .ok (.aload_n 0, 1) := by decide +kernel
theorem d_Paths_spread_76 : decode prog_9_method_3_code 76 = .ok (.iload 6, 2) := by decide +kernel
theorem d_Paths_spread_78 : decode prog_9_method_3_code 78 = .ok (.invokevirtual 53, 3) := by decide +kernel
theorem d_Paths_spread_81 : decode prog_9_method_3_code 81 = .ok (.iconst 1, 1) := by decide +kernel
theorem d_Paths_spread_82 : decode prog_9_method_3_code 82 = .ok (.iadd, 1) := by decide +kernel
theorem d_Paths_spread_83 : decode prog_9_method_3_code 83 = .ok (.invokevirtual 65, 3) := by decide +kernel
theorem tb_ml_Paths_65 : mTB (Cond.methodLink "NineBars$Paths" 65 ⟨"NineBars$Paths", "visit", "(LNineBars$Graph;III)V"⟩) := tbq3 129 (by decide +kernel) rfl
theorem tb_im_Paths_visit : mTB (Cond.instanceMethod ⟨"NineBars$Paths", "visit", "(LNineBars$Graph;III)V"⟩) := tbq3 131 (by decide +kernel) rfl
theorem tb_se_Paths_visit : mTB (Cond.selects "NineBars$Paths" ⟨"NineBars$Paths", "visit", "(LNineBars$Graph;III)V"⟩ ⟨"NineBars$Paths", "visit", "(LNineBars$Graph;III)V"⟩) := tbqp 9 (by decide +kernel) rfl
theorem mv_Paths_visit {M : mM} {idx : Nat} (h : mTB (Cond.methodLink (mO M) idx ⟨"NineBars$Paths", "visit", "(LNineBars$Graph;III)V"⟩)) : mCaV M M_Paths_visit idx 7 := ⟨h, tb_im_Paths_visit, tb_se_Paths_visit, by decide, TX7, 7, rfl⟩
theorem d_Paths_spread_86 : decode prog_9_method_3_code 86 = .ok (.iinc 5 1, 3) := by decide +kernel
theorem d_Paths_spread_89 : decode prog_9_method_3_code 89 = .ok (.goto (-80), 3) := by decide +kernel
theorem d_Paths_spread_53 : decode prog_9_method_3_code 53 = .ok (.aload_n 0, 1) := by decide +kernel
theorem d_Paths_spread_54 : decode prog_9_method_3_code 54 = .ok (.aload_n 1, 1) := by decide +kernel
theorem d_Paths_spread_55 : decode prog_9_method_3_code 55 = .ok (.aload_n 2, 1) := by decide +kernel
theorem d_Paths_spread_56 : decode prog_9_method_3_code 56 = .ok (.iload 6, 2) := by decide +kernel
theorem d_Paths_spread_58 : decode prog_9_method_3_code 58 = .ok (.invokevirtual 57, 3) := by decide +kernel
theorem tb_ml_Paths_57 : mTB (Cond.methodLink "NineBars$Paths" 57 ⟨"NineBars$Paths", "visitAhead", "(LNineBars$Graph;[II)V"⟩) := tbq3 122 (by decide +kernel) rfl
theorem tb_im_Paths_visitAhead : mTB (Cond.instanceMethod ⟨"NineBars$Paths", "visitAhead", "(LNineBars$Graph;[II)V"⟩) := tbq3 124 (by decide +kernel) rfl
theorem tb_se_Paths_visitAhead : mTB (Cond.selects "NineBars$Paths" ⟨"NineBars$Paths", "visitAhead", "(LNineBars$Graph;[II)V"⟩ ⟨"NineBars$Paths", "visitAhead", "(LNineBars$Graph;[II)V"⟩) := tbqp 8 (by decide +kernel) rfl
theorem mv_Paths_visitAhead {M : mM} {idx : Nat} (h : mTB (Cond.methodLink (mO M) idx ⟨"NineBars$Paths", "visitAhead", "(LNineBars$Graph;[II)V"⟩)) : mCaV M M_Paths_visitAhead idx 7 := ⟨h, tb_im_Paths_visitAhead, tb_se_Paths_visitAhead, by decide, TX7, 7, rfl⟩
theorem d_Paths_spread_61 : decode prog_9_method_3_code 61 = .ok (.goto 25, 3) := by decide +kernel
theorem t_Paths_spread_J86 {G : mG} {r : mR} {v0 v1 v2 v4 v5 : Int} {h : mH} {R9 : mH → Int → Option mR} (hR9 : ∀ (h : mH) (w5 : Int) , R9 h w5 = some r → mJ G M_Paths_spread 9 [(2, v0), (2, v1), (2, v2), (9, 0), (0, v4), (0, w5), (9, 0)] [] h r) (hr : f_Paths_spread_J86 R9 v5 h = some r) : mJ G M_Paths_spread 86 [(2, v0), (2, v1), (2, v2), (9, 0), (0, v4), (0, v5), (9, 0)] [] h r := by
  unfold f_Paths_spread_J86 at hr
  refine j_iincW (pc := 86) (L := fun x1 => [(2, v0), (2, v1), (2, v2), (9, 0), (0, v4), (0, x1), (9, 0)]) d_Paths_spread_86 rfl (fun _ => rfl) hr (fun x1 hr => ?_)
  refine j_goto (pc := 89) (tgt := 9) d_Paths_spread_89 ?_
  exact mJ_weak (ls' := [(2, v0), (2, v1), (2, v2), (9, 0), (0, v4), (0, x1), (9, 0)]) (mwk_s (mwk_s (mwk_s (mwk_s (mwk_s (mwk_s (mwk_s mwk_n))))))) (hR9 h _ hr)
theorem t_Paths_spread_L9 {G : mG} {r : mR} {v0 v1 v2 v4 : Int}  : ∀ (n : Nat) (h : mH) (v5 : Int), f_Paths_spread_L9 v0 v1 v2 v4 n h v5 = some r → mJ G M_Paths_spread 9 [(2, v0), (2, v1), (2, v2), (9, 0), (0, v4), (0, v5), (9, 0)] [] h r := by
  intro n
  induction n with
  | zero =>
    intro h v5 hr
    rw [f_Paths_spread_L9] at hr
    cases hr
  | succ n hR9 =>
    intro h v5 hr
    rw [f_Paths_spread_L9] at hr
    refine j_iload (pc := 9) d_Paths_spread_9 rfl ?_
    refine j_aload_n (pc := 11) d_Paths_spread_11 rfl ?_
    refine j_getf (pc := 12) d_Paths_spread_12 (fd_Paths_47 rfl) hr (fun hr => ?_)
    refine j_icmp_ge (pc := 15) (tgt := 92) d_Paths_spread_15 hr (fun hr => ?_) (fun hr => ?_)
    · exact j_vret (pc := 92) d_Paths_spread_92 rfl hr
    · refine j_iload (pc := 18) d_Paths_spread_18 rfl ?_
      refine j_aload_n (pc := 20) d_Paths_spread_20 rfl ?_
      refine j_getf (pc := 21) d_Paths_spread_21 (fd_Paths_50 rfl) hr (fun hr => ?_)
      refine j_icmp_ge (pc := 24) (tgt := 92) d_Paths_spread_24 hr (fun hr => ?_) (fun hr => ?_)
      · exact j_vret (pc := 92) d_Paths_spread_92 rfl hr
      · refine j_aload_n (pc := 27) d_Paths_spread_27 rfl ?_
        refine j_iload (pc := 28) d_Paths_spread_28 rfl ?_
        obtain ⟨ha, hr⟩ := chk_some hr
        refine j_callG (pc := 30) (stk := [(0, v4), (2, v0)]) (as := [(2, v0), (0, v4)]) (P := (fun v9 => ((0 : Nat), v9) :: [])) (tg := 0) (My := M_Paths_farOf) (mRunV (as := [(0, v4)]) (st := []) d_Paths_spread_30 (mc_Paths_farOf (by decide)) rfl (mv_Paths_farOf tb_ml_Paths_53) rfl (Nat.le_of_ble_eq_true rfl) ha) (fun v => rfl) rfl hr (fun r1 h1 => t_Paths_farOf _ _ _ _ h1) (fun x2 h1 hr => ?_)
        refine j_iconst (pc := 33) d_Paths_spread_33 ?_
        refine j_icmp_ne (pc := 34) (tgt := 92) d_Paths_spread_34 hr (fun hr => ?_) (fun hr => ?_)
        · exact j_vret (pc := 92) d_Paths_spread_92 rfl hr
        · refine j_aload_n (pc := 37) d_Paths_spread_37 rfl ?_
          refine j_getf (pc := 38) d_Paths_spread_38 (fd_Paths_25 rfl) hr (fun hr => ?_)
          refine j_iload (pc := 41) d_Paths_spread_41 rfl ?_
          refine j_iaload (pc := 43) d_Paths_spread_43 hr (fun hr => ?_)
          refine j_istoreW (pc := 44) (L := fun x3 => [(2, v0), (2, v1), (2, v2), (9, 0), (0, v4), (0, v5), (0, x3)]) d_Paths_spread_44 (fun _ => rfl) hr (fun x3 hr => ?_)
          refine j_aload_n (pc := 46) d_Paths_spread_46 rfl ?_
          refine j_getf (pc := 47) d_Paths_spread_47 (fd_Paths_28 rfl) hr (fun hr => ?_)
          refine j_if_eq (pc := 50) (tgt := 64) d_Paths_spread_50 hr (fun hr => ?_) (fun hr => ?_)
          · refine j_aload_n (pc := 64) d_Paths_spread_64 rfl ?_
            refine j_aload_n (pc := 65) d_Paths_spread_65 rfl ?_
            refine j_iload (pc := 66) d_Paths_spread_66 rfl ?_
            refine j_aload_n (pc := 68) d_Paths_spread_68 rfl ?_
            refine j_aload_n (pc := 69) d_Paths_spread_69 rfl ?_
            refine j_iload (pc := 70) d_Paths_spread_70 rfl ?_
            refine j_callG (pc := 72) (stk := [(0, x3), (2, v2), (2, v1), (0, x3), (2, v1), (2, v0)]) (as := [(2, v1), (2, v2), (0, x3)]) (P := (fun v9 => ((0 : Nat), v9) :: [(0, x3), (2, v1), (2, v0)])) (tg := 0) (My := M_Paths_maskOf) (mRunS (as := [(2, v1), (2, v2), (0, x3)]) (st := [(0, x3), (2, v1), (2, v0)]) d_Paths_spread_72 (mc_Paths_maskOf (by decide)) rfl ⟨tb_ml_Paths_61, tb_sm_Paths_maskOf⟩ rfl (Nat.le_of_ble_eq_true rfl)) (fun v => rfl) rfl hr (fun r1 h1 => t_Paths_maskOf _ _ _ _ _ h1) (fun x5 h4 hr => ?_)
            refine j_aload_n (pc := 75) d_Paths_spread_75 rfl ?_
            refine j_iload (pc := 76) d_Paths_spread_76 rfl ?_
            obtain ⟨ha, hr⟩ := chk_some hr
            refine j_callG (pc := 78) (stk := [(0, x3), (2, v0), (0, x5), (0, x3), (2, v1), (2, v0)]) (as := [(2, v0), (0, x3)]) (P := (fun v9 => ((0 : Nat), v9) :: [(0, x5), (0, x3), (2, v1), (2, v0)])) (tg := 0) (My := M_Paths_farOf) (mRunV (as := [(0, x3)]) (st := [(0, x5), (0, x3), (2, v1), (2, v0)]) d_Paths_spread_78 (mc_Paths_farOf (by decide)) rfl (mv_Paths_farOf tb_ml_Paths_53) rfl (Nat.le_of_ble_eq_true rfl) ha) (fun v => rfl) rfl hr (fun r1 h1 => t_Paths_farOf _ _ _ _ h1) (fun x7 h6 hr => ?_)
            refine j_iconst (pc := 81) d_Paths_spread_81 ?_
            refine j_iadd (pc := 82) d_Paths_spread_82 ?_
            obtain ⟨ha, hr⟩ := chk_some hr
            refine j_callG (pc := 83) (stk := [(0, w32 (x7 + 1)), (0, x5), (0, x3), (2, v1), (2, v0)]) (as := [(2, v0), (2, v1), (0, x3), (0, x5), (0, w32 (x7 + 1))]) (P := (fun v9 => [])) (tg := 3) (My := M_Paths_visit) (mRunV (as := [(2, v1), (0, x3), (0, x5), (0, w32 (x7 + 1))]) (st := []) d_Paths_spread_83 (mc_Paths_visit (by decide)) rfl (mv_Paths_visit tb_ml_Paths_65) rfl (Nat.le_of_ble_eq_true rfl) ha) (fun v => rfl) rfl hr (fun r1 h1 => t_Paths_visit _ _ _ _ _ _ _ h1) (fun x9 h8 hr => ?_)
            exact mJ_weak (ls' := [(2, v0), (2, v1), (2, v2), (9, 0), (0, v4), (0, v5), (9, 0)]) (mwk_s (mwk_s (mwk_s (mwk_s (mwk_s (mwk_s (mwk_d mwk_n))))))) (t_Paths_spread_J86 hR9 hr)
          · refine j_aload_n (pc := 53) d_Paths_spread_53 rfl ?_
            refine j_aload_n (pc := 54) d_Paths_spread_54 rfl ?_
            refine j_aload_n (pc := 55) d_Paths_spread_55 rfl ?_
            refine j_iload (pc := 56) d_Paths_spread_56 rfl ?_
            obtain ⟨ha, hr⟩ := chk_some hr
            refine j_callG (pc := 58) (stk := [(0, x3), (2, v2), (2, v1), (2, v0)]) (as := [(2, v0), (2, v1), (2, v2), (0, x3)]) (P := (fun v9 => [])) (tg := 3) (My := M_Paths_visitAhead) (mRunV (as := [(2, v1), (2, v2), (0, x3)]) (st := []) d_Paths_spread_58 (mc_Paths_visitAhead (by decide)) rfl (mv_Paths_visitAhead tb_ml_Paths_57) rfl (Nat.le_of_ble_eq_true rfl) ha) (fun v => rfl) rfl hr (fun r1 h1 => t_Paths_visitAhead _ _ _ _ _ _ h1) (fun x11 h10 hr => ?_)
            refine j_goto (pc := 61) (tgt := 86) d_Paths_spread_61 ?_
            exact mJ_weak (ls' := [(2, v0), (2, v1), (2, v2), (9, 0), (0, v4), (0, v5), (9, 0)]) (mwk_s (mwk_s (mwk_s (mwk_s (mwk_s (mwk_s (mwk_d mwk_n))))))) (t_Paths_spread_J86 hR9 hr)
theorem t_Paths_spread {G : mG} (h : mH) (v0 v1 v2 v3 v4 : Int) (r : mR) (hr : f_Paths_spread h v0 v1 v2 v3 v4 = some r) : mJM G M_Paths_spread [(2, v0), (2, v1), (2, v2), (0, v3), (0, v4)] h r := by
  refine mJM_of (L := [(2, v0), (2, v1), (2, v2), (0, v3), (0, v4), (9, 0), (9, 0)]) rfl rfl rfl (Nat.le_of_ble_eq_true rfl) ?_
  unfold f_Paths_spread at hr
  refine j_aload_n (pc := 0) d_Paths_spread_0 rfl ?_
  refine j_aload_n (pc := 1) d_Paths_spread_1 rfl ?_
  refine j_iload_n (pc := 2) d_Paths_spread_2 rfl ?_
  obtain ⟨ha, hr⟩ := chk_some hr
  refine j_callG (pc := 3) (stk := [(0, v3), (2, v1), (2, v0)]) (as := [(2, v0), (2, v1), (0, v3)]) (P := (fun v9 => [])) (tg := 3) (My := M_Paths_begin) (mRunV (as := [(2, v1), (0, v3)]) (st := []) d_Paths_spread_3 (mc_Paths_begin (by decide)) rfl (mv_Paths_begin tb_ml_Paths_43) rfl (Nat.le_of_ble_eq_true rfl) ha) (fun v => rfl) rfl hr (fun r1 h1 => t_Paths_begin _ _ _ _ _ h1) (fun x2 h1 hr => ?_)
  refine j_iconst (pc := 6) d_Paths_spread_6 ?_
  refine j_istore (pc := 7) (ls' := [(2, v0), (2, v1), (2, v2), (0, v3), (0, v4), (0, 0), (9, 0)]) d_Paths_spread_7 rfl ?_
  refine mJ_weak (ls' := [(2, v0), (2, v1), (2, v2), (9, 0), (0, v4), (0, 0), (9, 0)]) (mwk_s (mwk_s (mwk_s (mwk_d (mwk_s (mwk_s (mwk_s mwk_n))))))) (t_Paths_spread_L9  _ _ _ hr)
def M_Paths_seek : mM := ("NineBars$Paths", ⟨"NineBars$Paths", "seek", "(LNineBars$Graph;I)V"⟩, prog_9_method_2_code, 3, none, [], 7)
theorem tb_co_Paths_seek : mTB (Cond.code ⟨"NineBars$Paths", "seek", "(LNineBars$Graph;I)V"⟩ prog_9_method_2_code 3 (none)) := tbq3 104 (by decide +kernel) rfl
theorem mc_Paths_seek {M : mM} (hd : 7 < mDp M) : mCal M M_Paths_seek 2 := ⟨tb_co_Paths_seek, tb_in_NineBars_Paths, ⟨by decide +kernel, by decide +kernel⟩, by decide +kernel, hd, by decide⟩
theorem d_Paths_seek_0 : decode prog_9_method_2_code 0 = .ok (.aload_n 0, 1) := by decide +kernel
theorem d_Paths_seek_1 : decode prog_9_method_2_code 1 = .ok (.getfield 9, 3) := by decide +kernel
theorem d_Paths_seek_4 : decode prog_9_method_2_code 4 = .ok (.aload_n 1, 1) := by decide +kernel
theorem tb_fl_Paths_32 : mTN (Cond.fieldLinkNest "NineBars$Paths" 32 "NineBars$Graph" "edition" "I" "NineBars") := tbqn1 192 (by decide +kernel) rfl
theorem fd_Paths_32 {M : mM} (h : mO M = "NineBars$Paths") : mFld M 32 4 0 0 := ⟨_, _, _, tyX4, rfl, by decide, by decide, rfl, uw_4, tyX4_ok, nmX4, by rw [h]; exact Or.inr ⟨_, tb_fl_Paths_32⟩⟩
theorem d_Paths_seek_5 : decode prog_9_method_2_code 5 = .ok (.getfield 32, 3) := by decide +kernel
theorem d_Paths_seek_8 : decode prog_9_method_2_code 8 = .ok (.if_icmp .ne 23, 3) := by decide +kernel
theorem d_Paths_seek_31 : decode prog_9_method_2_code 31 = .ok (.aload_n 0, 1) := by decide +kernel
theorem d_Paths_seek_32 : decode prog_9_method_2_code 32 = .ok (.aload_n 1, 1) := by decide +kernel
theorem d_Paths_seek_33 : decode prog_9_method_2_code 33 = .ok (.aload_n 1, 1) := by decide +kernel
theorem tb_fl_Paths_36 : mTN (Cond.fieldLinkNest "NineBars$Paths" 36 "NineBars$Graph" "goes" "[I" "NineBars") := tbqn1 219 (by decide +kernel) rfl
theorem fd_Paths_36 {M : mM} (h : mO M = "NineBars$Paths") : mFld M 36 4 9 2 := ⟨_, _, _, tyX4, rfl, by decide, by decide, rfl, uw_4, tyX4_ok, nmX4, by rw [h]; exact Or.inr ⟨_, tb_fl_Paths_36⟩⟩
theorem d_Paths_seek_34 : decode prog_9_method_2_code 34 = .ok (.getfield 36, 3) := by decide +kernel
theorem d_Paths_seek_37 : decode prog_9_method_2_code 37 = .ok (.iload_n 2, 1) := by decide +kernel
theorem d_Paths_seek_38 : decode prog_9_method_2_code 38 = .ok (.iconst (-1), 1) := by decide +kernel
theorem d_Paths_seek_39 : decode prog_9_method_2_code 39 = .ok (.invokevirtual 39, 3) := by decide +kernel
theorem tb_ml_Paths_39 : mTB (Cond.methodLink "NineBars$Paths" 39 ⟨"NineBars$Paths", "spread", "(LNineBars$Graph;[III)V"⟩) := tbq3 105 (by decide +kernel) rfl
theorem tb_im_Paths_spread : mTB (Cond.instanceMethod ⟨"NineBars$Paths", "spread", "(LNineBars$Graph;[III)V"⟩) := tbq3 106 (by decide +kernel) rfl
theorem tb_se_Paths_spread : mTB (Cond.selects "NineBars$Paths" ⟨"NineBars$Paths", "spread", "(LNineBars$Graph;[III)V"⟩ ⟨"NineBars$Paths", "spread", "(LNineBars$Graph;[III)V"⟩) := tbq3 107 (by decide +kernel) rfl
theorem mv_Paths_spread {M : mM} {idx : Nat} (h : mTB (Cond.methodLink (mO M) idx ⟨"NineBars$Paths", "spread", "(LNineBars$Graph;[III)V"⟩)) : mCaV M M_Paths_spread idx 7 := ⟨h, tb_im_Paths_spread, tb_se_Paths_spread, by decide, TX7, 7, rfl⟩
theorem d_Paths_seek_42 : decode prog_9_method_2_code 42 = .ok (.aload_n 0, 1) := by decide +kernel
theorem d_Paths_seek_43 : decode prog_9_method_2_code 43 = .ok (.aload_n 1, 1) := by decide +kernel
theorem d_Paths_seek_44 : decode prog_9_method_2_code 44 = .ok (.getfield 32, 3) := by decide +kernel
theorem d_Paths_seek_47 : decode prog_9_method_2_code 47 = .ok (.putfield 9, 3) := by decide +kernel
theorem d_Paths_seek_50 : decode prog_9_method_2_code 50 = .ok (.aload_n 0, 1) := by decide +kernel
theorem d_Paths_seek_51 : decode prog_9_method_2_code 51 = .ok (.aload_n 1, 1) := by decide +kernel
theorem tb_fl_Paths_35 : mTN (Cond.fieldLinkNest "NineBars$Paths" 35 "NineBars$Graph" "wornBits" "I" "NineBars") := tbqn1 195 (by decide +kernel) rfl
theorem fd_Paths_35 {M : mM} (h : mO M = "NineBars$Paths") : mFld M 35 4 1 0 := ⟨_, _, _, tyX4, rfl, by decide, by decide, rfl, uw_4, tyX4_ok, nmX4, by rw [h]; exact Or.inr ⟨_, tb_fl_Paths_35⟩⟩
theorem d_Paths_seek_52 : decode prog_9_method_2_code 52 = .ok (.getfield 35, 3) := by decide +kernel
theorem d_Paths_seek_55 : decode prog_9_method_2_code 55 = .ok (.putfield 15, 3) := by decide +kernel
theorem d_Paths_seek_58 : decode prog_9_method_2_code 58 = .ok (.aload_n 0, 1) := by decide +kernel
theorem d_Paths_seek_59 : decode prog_9_method_2_code 59 = .ok (.iload_n 2, 1) := by decide +kernel
theorem d_Paths_seek_60 : decode prog_9_method_2_code 60 = .ok (.putfield 18, 3) := by decide +kernel
theorem d_Paths_seek_63 : decode prog_9_method_2_code 63 = .ok (.return_, 1) := by decide +kernel
theorem d_Paths_seek_11 : decode prog_9_method_2_code 11 = .ok (.aload_n 0, 1) := by decide +kernel
theorem d_Paths_seek_12 : decode prog_9_method_2_code 12 = .ok (.getfield 15, 3) := by decide +kernel
theorem d_Paths_seek_15 : decode prog_9_method_2_code 15 = .ok (.aload_n 1, 1) := by decide +kernel
theorem d_Paths_seek_16 : decode prog_9_method_2_code 16 = .ok (.getfield 35, 3) := by decide +kernel
theorem d_Paths_seek_19 : decode prog_9_method_2_code 19 = .ok (.if_icmp .ne 12, 3) := by decide +kernel
theorem d_Paths_seek_22 : decode prog_9_method_2_code 22 = .ok (.aload_n 0, 1) := by decide +kernel
theorem d_Paths_seek_23 : decode prog_9_method_2_code 23 = .ok (.getfield 18, 3) := by decide +kernel
theorem d_Paths_seek_26 : decode prog_9_method_2_code 26 = .ok (.iload_n 2, 1) := by decide +kernel
theorem d_Paths_seek_27 : decode prog_9_method_2_code 27 = .ok (.if_icmp .ne 4, 3) := by decide +kernel
theorem d_Paths_seek_30 : decode prog_9_method_2_code 30 = .ok (.return_, 1) := by decide +kernel
theorem t_Paths_seek_J31 {G : mG} {r : mR} {v0 v1 v2 : Int} {h : mH}  (hr : f_Paths_seek_J31 v0 v1 v2 h = some r) : mJ G M_Paths_seek 31 [(2, v0), (2, v1), (0, v2)] [] h r := by
  unfold f_Paths_seek_J31 at hr
  refine j_aload_n (pc := 31) d_Paths_seek_31 rfl ?_
  refine j_aload_n (pc := 32) d_Paths_seek_32 rfl ?_
  refine j_aload_n (pc := 33) d_Paths_seek_33 rfl ?_
  refine j_getf (pc := 34) d_Paths_seek_34 (fd_Paths_36 rfl) hr (fun hr => ?_)
  refine j_iload_n (pc := 37) d_Paths_seek_37 rfl ?_
  refine j_iconst (pc := 38) d_Paths_seek_38 ?_
  obtain ⟨ha, hr⟩ := chk_some hr
  refine j_callG (pc := 39) (stk := [(0, (-1)), (0, v2), (2, hpV h v1 9), (2, v1), (2, v0)]) (as := [(2, v0), (2, v1), (2, hpV h v1 9), (0, v2), (0, (-1))]) (P := (fun v9 => [])) (tg := 3) (My := M_Paths_spread) (mRunV (as := [(2, v1), (2, hpV h v1 9), (0, v2), (0, (-1))]) (st := []) d_Paths_seek_39 (mc_Paths_spread (by decide)) rfl (mv_Paths_spread tb_ml_Paths_39) rfl (Nat.le_of_ble_eq_true rfl) ha) (fun v => rfl) rfl hr (fun r1 h1 => t_Paths_spread _ _ _ _ _ _ _ h1) (fun x2 h1 hr => ?_)
  refine j_aload_n (pc := 42) d_Paths_seek_42 rfl ?_
  refine j_aload_n (pc := 43) d_Paths_seek_43 rfl ?_
  refine j_getf (pc := 44) d_Paths_seek_44 (fd_Paths_32 rfl) hr (fun hr => ?_)
  refine j_puti (pc := 47) d_Paths_seek_47 (fd_Paths_9 rfl) (⟨_, _, _, rfl, Or.inl rfl, rfl⟩ : mFldW M_Paths_seek 9 7 1 .int) hr (fun h3 hr => ?_)
  refine j_aload_n (pc := 50) d_Paths_seek_50 rfl ?_
  refine j_aload_n (pc := 51) d_Paths_seek_51 rfl ?_
  refine j_getf (pc := 52) d_Paths_seek_52 (fd_Paths_35 rfl) hr (fun hr => ?_)
  refine j_puti (pc := 55) d_Paths_seek_55 (fd_Paths_15 rfl) (⟨_, _, _, rfl, Or.inl rfl, rfl⟩ : mFldW M_Paths_seek 15 7 2 .int) hr (fun h4 hr => ?_)
  refine j_aload_n (pc := 58) d_Paths_seek_58 rfl ?_
  refine j_iload_n (pc := 59) d_Paths_seek_59 rfl ?_
  refine j_puti (pc := 60) d_Paths_seek_60 (fd_Paths_18 rfl) (⟨_, _, _, rfl, Or.inl rfl, rfl⟩ : mFldW M_Paths_seek 18 7 3 .int) hr (fun h5 hr => ?_)
  exact j_vret (pc := 63) d_Paths_seek_63 rfl hr
theorem t_Paths_seek {G : mG} (h : mH) (v0 v1 v2 : Int) (r : mR) (hr : f_Paths_seek h v0 v1 v2 = some r) : mJM G M_Paths_seek [(2, v0), (2, v1), (0, v2)] h r := by
  refine mJM_of (L := [(2, v0), (2, v1), (0, v2)]) rfl rfl rfl (Nat.le_of_ble_eq_true rfl) ?_
  unfold f_Paths_seek at hr
  refine j_aload_n (pc := 0) d_Paths_seek_0 rfl ?_
  refine j_getf (pc := 1) d_Paths_seek_1 (fd_Paths_9 rfl) hr (fun hr => ?_)
  refine j_aload_n (pc := 4) d_Paths_seek_4 rfl ?_
  refine j_getf (pc := 5) d_Paths_seek_5 (fd_Paths_32 rfl) hr (fun hr => ?_)
  refine j_icmp_ne (pc := 8) (tgt := 31) d_Paths_seek_8 hr (fun hr => ?_) (fun hr => ?_)
  · exact mJ_weak (ls' := [(2, v0), (2, v1), (0, v2)]) (mwk_s (mwk_s (mwk_s mwk_n))) (t_Paths_seek_J31  hr)
  · refine j_aload_n (pc := 11) d_Paths_seek_11 rfl ?_
    refine j_getf (pc := 12) d_Paths_seek_12 (fd_Paths_15 rfl) hr (fun hr => ?_)
    refine j_aload_n (pc := 15) d_Paths_seek_15 rfl ?_
    refine j_getf (pc := 16) d_Paths_seek_16 (fd_Paths_35 rfl) hr (fun hr => ?_)
    refine j_icmp_ne (pc := 19) (tgt := 31) d_Paths_seek_19 hr (fun hr => ?_) (fun hr => ?_)
    · exact mJ_weak (ls' := [(2, v0), (2, v1), (0, v2)]) (mwk_s (mwk_s (mwk_s mwk_n))) (t_Paths_seek_J31  hr)
    · refine j_aload_n (pc := 22) d_Paths_seek_22 rfl ?_
      refine j_getf (pc := 23) d_Paths_seek_23 (fd_Paths_18 rfl) hr (fun hr => ?_)
      refine j_iload_n (pc := 26) d_Paths_seek_26 rfl ?_
      refine j_icmp_ne (pc := 27) (tgt := 31) d_Paths_seek_27 hr (fun hr => ?_) (fun hr => ?_)
      · exact mJ_weak (ls' := [(2, v0), (2, v1), (0, v2)]) (mwk_s (mwk_s (mwk_s mwk_n))) (t_Paths_seek_J31  hr)
      · exact j_vret (pc := 30) d_Paths_seek_30 rfl hr
def M_Nb_fromNow : mM := ("NineBars", ⟨"NineBars", "fromNow", "()LNineBars$Paths;"⟩, prog_1_method_56_code, 1, some (.object "NineBars$Paths"), [], 11)
theorem tb_co_Nb_fromNow : mTB (Cond.code ⟨"NineBars", "fromNow", "()LNineBars$Paths;"⟩ prog_1_method_56_code 1 (some (.object "NineBars$Paths"))) := tbq3 66 (by decide +kernel) rfl
theorem mc_Nb_fromNow {M : mM} (hd : 11 < mDp M) : mCal M M_Nb_fromNow 0 := ⟨tb_co_Nb_fromNow, tb_in_NineBars, ⟨by decide +kernel, by decide +kernel⟩, by decide +kernel, hd, by decide⟩
theorem d_Nb_fromNow_0 : decode prog_1_method_56_code 0 = .ok (.aload_n 0, 1) := by decide +kernel
theorem d_Nb_fromNow_1 : decode prog_1_method_56_code 1 = .ok (.getfield 48, 3) := by decide +kernel
theorem d_Nb_fromNow_4 : decode prog_1_method_56_code 4 = .ok (.aload_n 0, 1) := by decide +kernel
theorem d_Nb_fromNow_5 : decode prog_1_method_56_code 5 = .ok (.getfield 27, 3) := by decide +kernel
theorem d_Nb_fromNow_8 : decode prog_1_method_56_code 8 = .ok (.invokevirtual 332, 3) := by decide +kernel
theorem tb_ml_Nb_332 : mTB (Cond.methodLink "NineBars" 332 ⟨"NineBars$Graph", "prepare", "(LNineBars$Box;)V"⟩) := tbq3 67 (by decide +kernel) rfl
theorem tb_im_Graph_prepare : mTB (Cond.instanceMethod ⟨"NineBars$Graph", "prepare", "(LNineBars$Box;)V"⟩) := tbq3 68 (by decide +kernel) rfl
theorem tb_se_Graph_prepare : mTB (Cond.selects "NineBars$Graph" ⟨"NineBars$Graph", "prepare", "(LNineBars$Box;)V"⟩ ⟨"NineBars$Graph", "prepare", "(LNineBars$Box;)V"⟩) := tbq3 69 (by decide +kernel) rfl
theorem mv_Graph_prepare {M : mM} {idx : Nat} (h : mTB (Cond.methodLink (mO M) idx ⟨"NineBars$Graph", "prepare", "(LNineBars$Box;)V"⟩)) : mCaV M M_Graph_prepare idx 4 := ⟨h, tb_im_Graph_prepare, tb_se_Graph_prepare, by decide, TX4, 11, rfl⟩
theorem d_Nb_fromNow_11 : decode prog_1_method_56_code 11 = .ok (.aload_n 0, 1) := by decide +kernel
theorem d_Nb_fromNow_12 : decode prog_1_method_56_code 12 = .ok (.getfield 57, 3) := by decide +kernel
theorem d_Nb_fromNow_15 : decode prog_1_method_56_code 15 = .ok (.aload_n 0, 1) := by decide +kernel
theorem d_Nb_fromNow_16 : decode prog_1_method_56_code 16 = .ok (.getfield 48, 3) := by decide +kernel
theorem d_Nb_fromNow_19 : decode prog_1_method_56_code 19 = .ok (.aload_n 0, 1) := by decide +kernel
theorem d_Nb_fromNow_20 : decode prog_1_method_56_code 20 = .ok (.getfield 27, 3) := by decide +kernel
theorem d_Nb_fromNow_23 : decode prog_1_method_56_code 23 = .ok (.aload_n 0, 1) := by decide +kernel
theorem d_Nb_fromNow_24 : decode prog_1_method_56_code 24 = .ok (.getfield 27, 3) := by decide +kernel
theorem d_Nb_fromNow_27 : decode prog_1_method_56_code 27 = .ok (.getfield 149, 3) := by decide +kernel
theorem d_Nb_fromNow_30 : decode prog_1_method_56_code 30 = .ok (.invokevirtual 198, 3) := by decide +kernel
theorem d_Nb_fromNow_33 : decode prog_1_method_56_code 33 = .ok (.invokevirtual 266, 3) := by decide +kernel
theorem tb_ml_Nb_266 : mTB (Cond.methodLink "NineBars" 266 ⟨"NineBars$Paths", "seek", "(LNineBars$Graph;I)V"⟩) := tbq3 101 (by decide +kernel) rfl
theorem tb_im_Paths_seek : mTB (Cond.instanceMethod ⟨"NineBars$Paths", "seek", "(LNineBars$Graph;I)V"⟩) := tbq3 102 (by decide +kernel) rfl
theorem tb_se_Paths_seek : mTB (Cond.selects "NineBars$Paths" ⟨"NineBars$Paths", "seek", "(LNineBars$Graph;I)V"⟩ ⟨"NineBars$Paths", "seek", "(LNineBars$Graph;I)V"⟩) := tbq3 103 (by decide +kernel) rfl
theorem mv_Paths_seek {M : mM} {idx : Nat} (h : mTB (Cond.methodLink (mO M) idx ⟨"NineBars$Paths", "seek", "(LNineBars$Graph;I)V"⟩)) : mCaV M M_Paths_seek idx 7 := ⟨h, tb_im_Paths_seek, tb_se_Paths_seek, by decide, TX7, 7, rfl⟩
theorem d_Nb_fromNow_36 : decode prog_1_method_56_code 36 = .ok (.aload_n 0, 1) := by decide +kernel
theorem d_Nb_fromNow_37 : decode prog_1_method_56_code 37 = .ok (.getfield 57, 3) := by decide +kernel
theorem d_Nb_fromNow_40 : decode prog_1_method_56_code 40 = .ok (.areturn, 1) := by decide +kernel
theorem t_Nb_fromNow {G : mG} (h : mH) (v0 : Int) (r : mR) (hr : f_Nb_fromNow h v0 = some r) : mJM G M_Nb_fromNow [(2, v0)] h r := by
  refine mJM_of (L := [(2, v0)]) rfl rfl rfl (Nat.le_of_ble_eq_true rfl) ?_
  unfold f_Nb_fromNow at hr
  refine j_aload_n (pc := 0) d_Nb_fromNow_0 rfl ?_
  refine j_getf (pc := 1) d_Nb_fromNow_1 (fd_Nb_48 rfl) hr (fun hr => ?_)
  refine j_aload_n (pc := 4) d_Nb_fromNow_4 rfl ?_
  refine j_getf (pc := 5) d_Nb_fromNow_5 (fd_Nb_27 rfl) hr (fun hr => ?_)
  obtain ⟨ha, hr⟩ := chk_some hr
  refine j_callG (pc := 8) (stk := [(2, hpV h v0 6), (2, hpV h v0 10)]) (as := [(2, hpV h v0 10), (2, hpV h v0 6)]) (P := (fun v9 => [])) (tg := 3) (My := M_Graph_prepare) (mRunV (as := [(2, hpV h v0 6)]) (st := []) d_Nb_fromNow_8 (mc_Graph_prepare (by decide)) rfl (mv_Graph_prepare tb_ml_Nb_332) rfl (Nat.le_of_ble_eq_true rfl) ha) (fun v => rfl) rfl hr (fun r1 h1 => t_Graph_prepare _ _ _ _ h1) (fun x2 h1 hr => ?_)
  refine j_aload_n (pc := 11) d_Nb_fromNow_11 rfl ?_
  refine j_getf (pc := 12) d_Nb_fromNow_12 (fd_Nb_57 rfl) hr (fun hr => ?_)
  refine j_aload_n (pc := 15) d_Nb_fromNow_15 rfl ?_
  refine j_getf (pc := 16) d_Nb_fromNow_16 (fd_Nb_48 rfl) hr (fun hr => ?_)
  refine j_aload_n (pc := 19) d_Nb_fromNow_19 rfl ?_
  refine j_getf (pc := 20) d_Nb_fromNow_20 (fd_Nb_27 rfl) hr (fun hr => ?_)
  refine j_aload_n (pc := 23) d_Nb_fromNow_23 rfl ?_
  refine j_getf (pc := 24) d_Nb_fromNow_24 (fd_Nb_27 rfl) hr (fun hr => ?_)
  refine j_getf (pc := 27) d_Nb_fromNow_27 (fd_Nb_149 rfl) hr (fun hr => ?_)
  obtain ⟨ha, hr⟩ := chk_some hr
  refine j_callG (pc := 30) (stk := [(2, hpV h1 (hpV h1 v0 6) 9), (2, hpV h1 v0 6), (2, hpV h1 v0 10), (2, hpV h1 v0 11)]) (as := [(2, hpV h1 v0 6), (2, hpV h1 (hpV h1 v0 6) 9)]) (P := (fun v9 => ((0 : Nat), v9) :: [(2, hpV h1 v0 10), (2, hpV h1 v0 11)])) (tg := 0) (My := M_Box_standOf) (mRunV (as := [(2, hpV h1 (hpV h1 v0 6) 9)]) (st := [(2, hpV h1 v0 10), (2, hpV h1 v0 11)]) d_Nb_fromNow_30 (mc_Box_standOf (by decide)) rfl (mv_Box_standOf tb_ml_Nb_198) rfl (Nat.le_of_ble_eq_true rfl) ha) (fun v => rfl) rfl hr (fun r1 h1 => t_Box_standOf _ _ _ _ h1) (fun x4 h3 hr => ?_)
  obtain ⟨ha, hr⟩ := chk_some hr
  refine j_callG (pc := 33) (stk := [(0, x4), (2, hpV h1 v0 10), (2, hpV h1 v0 11)]) (as := [(2, hpV h1 v0 11), (2, hpV h1 v0 10), (0, x4)]) (P := (fun v9 => [])) (tg := 3) (My := M_Paths_seek) (mRunV (as := [(2, hpV h1 v0 10), (0, x4)]) (st := []) d_Nb_fromNow_33 (mc_Paths_seek (by decide)) rfl (mv_Paths_seek tb_ml_Nb_266) rfl (Nat.le_of_ble_eq_true rfl) ha) (fun v => rfl) rfl hr (fun r1 h1 => t_Paths_seek _ _ _ _ _ h1) (fun x6 h5 hr => ?_)
  refine j_aload_n (pc := 36) d_Nb_fromNow_36 rfl ?_
  refine j_getf (pc := 37) d_Nb_fromNow_37 (fd_Nb_57 rfl) hr (fun hr => ?_)
  exact j_aret (pc := 40) d_Nb_fromNow_40 rfl (Or.inl ⟨_, rfl⟩) hr
def M_Nb_reached : mM := ("NineBars", ⟨"NineBars", "reached", "()I"⟩, prog_1_method_16_code, 1, some .int, [], 13)
theorem tb_co_Nb_reached : mTB (Cond.code ⟨"NineBars", "reached", "()I"⟩ prog_1_method_16_code 1 (some .int)) := tbq3 62 (by decide +kernel) rfl
theorem mc_Nb_reached {M : mM} (hd : 13 < mDp M) : mCal M M_Nb_reached 0 := ⟨tb_co_Nb_reached, tb_in_NineBars, ⟨by decide +kernel, by decide +kernel⟩, by decide +kernel, hd, by decide⟩
theorem d_Nb_reached_0 : decode prog_1_method_16_code 0 = .ok (.aload_n 0, 1) := by decide +kernel
theorem d_Nb_reached_1 : decode prog_1_method_16_code 1 = .ok (.invokevirtual 194, 3) := by decide +kernel
theorem d_Nb_reached_4 : decode prog_1_method_16_code 4 = .ok (.ifCond .eq 9, 3) := by decide +kernel
theorem d_Nb_reached_13 : decode prog_1_method_16_code 13 = .ok (.aload_n 0, 1) := by decide +kernel
theorem d_Nb_reached_14 : decode prog_1_method_16_code 14 = .ok (.invokevirtual 255, 3) := by decide +kernel
theorem tb_ml_Nb_255 : mTB (Cond.methodLink "NineBars" 255 ⟨"NineBars", "fromNow", "()LNineBars$Paths;"⟩) := tbq3 63 (by decide +kernel) rfl
theorem tb_im_Nb_fromNow : mTB (Cond.instanceMethod ⟨"NineBars", "fromNow", "()LNineBars$Paths;"⟩) := tbq3 65 (by decide +kernel) rfl
theorem tb_se_Nb_fromNow : mTB (Cond.selects "NineBars" ⟨"NineBars", "fromNow", "()LNineBars$Paths;"⟩ ⟨"NineBars", "fromNow", "()LNineBars$Paths;"⟩) := tbqp 3 (by decide +kernel) rfl
theorem mv_Nb_fromNow {M : mM} {idx : Nat} (h : mTB (Cond.methodLink (mO M) idx ⟨"NineBars", "fromNow", "()LNineBars$Paths;"⟩)) : mCaV M M_Nb_fromNow idx 10 := ⟨h, tb_im_Nb_fromNow, tb_se_Nb_fromNow, by decide, TX10, 19, rfl⟩
theorem tb_fl_Nb_259 : mTN (Cond.fieldLinkNest "NineBars" 259 "NineBars$Paths" "many" "I" "NineBars") := tbqn2 19 (by decide +kernel) rfl
theorem fd_Nb_259 {M : mM} (h : mO M = "NineBars") : mFld M 259 7 4 0 := ⟨_, _, _, tyX7, rfl, by decide, by decide, rfl, uw_7, tyX7_ok, nmX7, by rw [h]; exact Or.inr ⟨_, tb_fl_Nb_259⟩⟩
theorem d_Nb_reached_17 : decode prog_1_method_16_code 17 = .ok (.getfield 259, 3) := by decide +kernel
theorem d_Nb_reached_20 : decode prog_1_method_16_code 20 = .ok (.ireturn, 1) := by decide +kernel
theorem d_Nb_reached_7 : decode prog_1_method_16_code 7 = .ok (.sipush (-1000), 3) := by decide +kernel
theorem d_Nb_reached_10 : decode prog_1_method_16_code 10 = .ok (.goto 10, 3) := by decide +kernel
theorem t_Nb_reached {G : mG} (h : mH) (v0 : Int) (r : mR) (hr : f_Nb_reached h v0 = some r) : mJM G M_Nb_reached [(2, v0)] h r := by
  refine mJM_of (L := [(2, v0)]) rfl rfl rfl (Nat.le_of_ble_eq_true rfl) ?_
  unfold f_Nb_reached at hr
  refine j_aload_n (pc := 0) d_Nb_reached_0 rfl ?_
  obtain ⟨ha, hr⟩ := chk_some hr
  refine j_callG (pc := 1) (stk := [(2, v0)]) (as := [(2, v0)]) (P := (fun v9 => ((0 : Nat), v9) :: [])) (tg := 0) (My := M_Nb_isSpent) (mRunV (as := []) (st := []) d_Nb_reached_1 (mc_Nb_isSpent (by decide)) rfl (mv_Nb_isSpent tb_ml_Nb_194) rfl (Nat.le_of_ble_eq_true rfl) ha) (fun v => rfl) rfl hr (fun r1 h1 => t_Nb_isSpent _ _ _ h1) (fun x2 h1 hr => ?_)
  refine j_if_eq (pc := 4) (tgt := 13) d_Nb_reached_4 hr (fun hr => ?_) (fun hr => ?_)
  · refine j_aload_n (pc := 13) d_Nb_reached_13 rfl ?_
    obtain ⟨ha, hr⟩ := chk_some hr
    refine j_callG (pc := 14) (stk := [(2, v0)]) (as := [(2, v0)]) (P := (fun v9 => ((2 : Nat), v9) :: [])) (tg := 2) (My := M_Nb_fromNow) (mRunV (as := []) (st := []) d_Nb_reached_14 (mc_Nb_fromNow (by decide)) rfl (mv_Nb_fromNow tb_ml_Nb_255) rfl (Nat.le_of_ble_eq_true rfl) ha) (fun v => rfl) rfl hr (fun r1 h1 => t_Nb_fromNow _ _ _ h1) (fun x4 h3 hr => ?_)
    refine j_getf (pc := 17) d_Nb_reached_17 (fd_Nb_259 rfl) hr (fun hr => ?_)
    exact j_iret (pc := 20) d_Nb_reached_20 rfl hr
  · refine j_sipush (pc := 7) d_Nb_reached_7 ?_
    refine j_goto (pc := 10) (tgt := 20) d_Nb_reached_10 ?_
    exact j_iret (pc := 20) d_Nb_reached_20 rfl hr
def M_Nb_needGraph : mM := ("NineBars", ⟨"NineBars", "needGraph", "()V"⟩, prog_1_method_51_code, 1, none, [], 11)
theorem tb_co_Nb_needGraph : mTB (Cond.code ⟨"NineBars", "needGraph", "()V"⟩ prog_1_method_51_code 1 (none)) := tbq4 238 (by decide +kernel) rfl
theorem mc_Nb_needGraph {M : mM} (hd : 11 < mDp M) : mCal M M_Nb_needGraph 0 := ⟨tb_co_Nb_needGraph, tb_in_NineBars, ⟨by decide +kernel, by decide +kernel⟩, by decide +kernel, hd, by decide⟩
theorem d_Nb_needGraph_0 : decode prog_1_method_51_code 0 = .ok (.aload_n 0, 1) := by decide +kernel
theorem d_Nb_needGraph_1 : decode prog_1_method_51_code 1 = .ok (.invokevirtual 205, 3) := by decide +kernel
theorem d_Nb_needGraph_4 : decode prog_1_method_51_code 4 = .ok (.aload_n 0, 1) := by decide +kernel
theorem d_Nb_needGraph_5 : decode prog_1_method_51_code 5 = .ok (.getfield 48, 3) := by decide +kernel
theorem d_Nb_needGraph_8 : decode prog_1_method_51_code 8 = .ok (.aload_n 0, 1) := by decide +kernel
theorem d_Nb_needGraph_9 : decode prog_1_method_51_code 9 = .ok (.getfield 27, 3) := by decide +kernel
theorem d_Nb_needGraph_12 : decode prog_1_method_51_code 12 = .ok (.invokevirtual 332, 3) := by decide +kernel
theorem d_Nb_needGraph_15 : decode prog_1_method_51_code 15 = .ok (.return_, 1) := by decide +kernel
theorem t_Nb_needGraph {G : mG} (h : mH) (v0 : Int) (r : mR) (hr : f_Nb_needGraph h v0 = some r) : mJM G M_Nb_needGraph [(2, v0)] h r := by
  refine mJM_of (L := [(2, v0)]) rfl rfl rfl (Nat.le_of_ble_eq_true rfl) ?_
  unfold f_Nb_needGraph at hr
  refine j_aload_n (pc := 0) d_Nb_needGraph_0 rfl ?_
  obtain ⟨ha, hr⟩ := chk_some hr
  refine j_callG (pc := 1) (stk := [(2, v0)]) (as := [(2, v0)]) (P := (fun v9 => [])) (tg := 3) (My := M_Nb_needFew) (mRunV (as := []) (st := []) d_Nb_needGraph_1 (mc_Nb_needFew (by decide)) rfl (mv_Nb_needFew tb_ml_Nb_205) rfl (Nat.le_of_ble_eq_true rfl) ha) (fun v => rfl) rfl hr (fun r1 h1 => t_Nb_needFew _ _ _ h1) (fun x2 h1 hr => ?_)
  refine j_aload_n (pc := 4) d_Nb_needGraph_4 rfl ?_
  refine j_getf (pc := 5) d_Nb_needGraph_5 (fd_Nb_48 rfl) hr (fun hr => ?_)
  refine j_aload_n (pc := 8) d_Nb_needGraph_8 rfl ?_
  refine j_getf (pc := 9) d_Nb_needGraph_9 (fd_Nb_27 rfl) hr (fun hr => ?_)
  obtain ⟨ha, hr⟩ := chk_some hr
  refine j_callG (pc := 12) (stk := [(2, hpV h1 v0 6), (2, hpV h1 v0 10)]) (as := [(2, hpV h1 v0 10), (2, hpV h1 v0 6)]) (P := (fun v9 => [])) (tg := 3) (My := M_Graph_prepare) (mRunV (as := [(2, hpV h1 v0 6)]) (st := []) d_Nb_needGraph_12 (mc_Graph_prepare (by decide)) rfl (mv_Graph_prepare tb_ml_Nb_332) rfl (Nat.le_of_ble_eq_true rfl) ha) (fun v => rfl) rfl hr (fun r1 h1 => t_Graph_prepare _ _ _ _ h1) (fun x4 h3 hr => ?_)
  exact j_vret (pc := 15) d_Nb_needGraph_15 rfl hr
def M_Nb_canBe : mM := ("NineBars", ⟨"NineBars", "canBe", "(I)Z"⟩, prog_1_method_17_code, 2, some .boolean, [], 13)
theorem tb_co_Nb_canBe : mTB (Cond.code ⟨"NineBars", "canBe", "(I)Z"⟩ prog_1_method_17_code 2 (some .boolean)) := tbq4 234 (by decide +kernel) rfl
theorem mc_Nb_canBe {M : mM} (hd : 13 < mDp M) : mCal M M_Nb_canBe 1 := ⟨tb_co_Nb_canBe, tb_in_NineBars, ⟨by decide +kernel, by decide +kernel⟩, by decide +kernel, hd, by decide⟩
theorem d_Nb_canBe_0 : decode prog_1_method_17_code 0 = .ok (.aload_n 0, 1) := by decide +kernel
theorem d_Nb_canBe_1 : decode prog_1_method_17_code 1 = .ok (.iload_n 1, 1) := by decide +kernel
theorem d_Nb_canBe_2 : decode prog_1_method_17_code 2 = .ok (.invokevirtual 202, 3) := by decide +kernel
theorem d_Nb_canBe_5 : decode prog_1_method_17_code 5 = .ok (.aload_n 0, 1) := by decide +kernel
theorem d_Nb_canBe_6 : decode prog_1_method_17_code 6 = .ok (.invokevirtual 260, 3) := by decide +kernel
theorem tb_ml_Nb_260 : mTB (Cond.methodLink "NineBars" 260 ⟨"NineBars", "needGraph", "()V"⟩) := tbq4 235 (by decide +kernel) rfl
theorem tb_im_Nb_needGraph : mTB (Cond.instanceMethod ⟨"NineBars", "needGraph", "()V"⟩) := tbq4 237 (by decide +kernel) rfl
theorem tb_se_Nb_needGraph : mTB (Cond.selects "NineBars" ⟨"NineBars", "needGraph", "()V"⟩ ⟨"NineBars", "needGraph", "()V"⟩) := tbqp 25 (by decide +kernel) rfl
theorem mv_Nb_needGraph {M : mM} {idx : Nat} (h : mTB (Cond.methodLink (mO M) idx ⟨"NineBars", "needGraph", "()V"⟩)) : mCaV M M_Nb_needGraph idx 10 := ⟨h, tb_im_Nb_needGraph, tb_se_Nb_needGraph, by decide, TX10, 19, rfl⟩
theorem d_Nb_canBe_9 : decode prog_1_method_17_code 9 = .ok (.aload_n 0, 1) := by decide +kernel
theorem d_Nb_canBe_10 : decode prog_1_method_17_code 10 = .ok (.invokevirtual 255, 3) := by decide +kernel
theorem d_Nb_canBe_13 : decode prog_1_method_17_code 13 = .ok (.iload_n 1, 1) := by decide +kernel
theorem d_Nb_canBe_14 : decode prog_1_method_17_code 14 = .ok (.invokevirtual 263, 3) := by decide +kernel
theorem tb_ml_Nb_263 : mTB (Cond.methodLink "NineBars" 263 ⟨"NineBars$Paths", "farOf", "(I)I"⟩) := tbq4 239 (by decide +kernel) rfl
theorem d_Nb_canBe_17 : decode prog_1_method_17_code 17 = .ok (.iconst (-1), 1) := by decide +kernel
theorem d_Nb_canBe_18 : decode prog_1_method_17_code 18 = .ok (.if_icmp .eq 7, 3) := by decide +kernel
theorem d_Nb_canBe_25 : decode prog_1_method_17_code 25 = .ok (.iconst 0, 1) := by decide +kernel
theorem d_Nb_canBe_26 : decode prog_1_method_17_code 26 = .ok (.ireturn, 1) := by decide +kernel
theorem d_Nb_canBe_21 : decode prog_1_method_17_code 21 = .ok (.iconst 1, 1) := by decide +kernel
theorem d_Nb_canBe_22 : decode prog_1_method_17_code 22 = .ok (.goto 4, 3) := by decide +kernel
theorem t_Nb_canBe {G : mG} (h : mH) (v0 v1 : Int) (r : mR) (hr : f_Nb_canBe h v0 v1 = some r) : mJM G M_Nb_canBe [(2, v0), (0, v1)] h r := by
  refine mJM_of (L := [(2, v0), (0, v1)]) rfl rfl rfl (Nat.le_of_ble_eq_true rfl) ?_
  unfold f_Nb_canBe at hr
  refine j_aload_n (pc := 0) d_Nb_canBe_0 rfl ?_
  refine j_iload_n (pc := 1) d_Nb_canBe_1 rfl ?_
  obtain ⟨ha, hr⟩ := chk_some hr
  refine j_callG (pc := 2) (stk := [(0, v1), (2, v0)]) (as := [(2, v0), (0, v1)]) (P := (fun v9 => [])) (tg := 3) (My := M_Nb_needStand) (mRunV (as := [(0, v1)]) (st := []) d_Nb_canBe_2 (mc_Nb_needStand (by decide)) rfl (mv_Nb_needStand tb_ml_Nb_202) rfl (Nat.le_of_ble_eq_true rfl) ha) (fun v => rfl) rfl hr (fun r1 h1 => t_Nb_needStand _ _ _ _ h1) (fun x2 h1 hr => ?_)
  refine j_aload_n (pc := 5) d_Nb_canBe_5 rfl ?_
  obtain ⟨ha, hr⟩ := chk_some hr
  refine j_callG (pc := 6) (stk := [(2, v0)]) (as := [(2, v0)]) (P := (fun v9 => [])) (tg := 3) (My := M_Nb_needGraph) (mRunV (as := []) (st := []) d_Nb_canBe_6 (mc_Nb_needGraph (by decide)) rfl (mv_Nb_needGraph tb_ml_Nb_260) rfl (Nat.le_of_ble_eq_true rfl) ha) (fun v => rfl) rfl hr (fun r1 h1 => t_Nb_needGraph _ _ _ h1) (fun x4 h3 hr => ?_)
  refine j_aload_n (pc := 9) d_Nb_canBe_9 rfl ?_
  obtain ⟨ha, hr⟩ := chk_some hr
  refine j_callG (pc := 10) (stk := [(2, v0)]) (as := [(2, v0)]) (P := (fun v9 => ((2 : Nat), v9) :: [])) (tg := 2) (My := M_Nb_fromNow) (mRunV (as := []) (st := []) d_Nb_canBe_10 (mc_Nb_fromNow (by decide)) rfl (mv_Nb_fromNow tb_ml_Nb_255) rfl (Nat.le_of_ble_eq_true rfl) ha) (fun v => rfl) rfl hr (fun r1 h1 => t_Nb_fromNow _ _ _ h1) (fun x6 h5 hr => ?_)
  refine j_iload_n (pc := 13) d_Nb_canBe_13 rfl ?_
  obtain ⟨ha, hr⟩ := chk_some hr
  refine j_callG (pc := 14) (stk := [(0, v1), (2, x6)]) (as := [(2, x6), (0, v1)]) (P := (fun v9 => ((0 : Nat), v9) :: [])) (tg := 0) (My := M_Paths_farOf) (mRunV (as := [(0, v1)]) (st := []) d_Nb_canBe_14 (mc_Paths_farOf (by decide)) rfl (mv_Paths_farOf tb_ml_Nb_263) rfl (Nat.le_of_ble_eq_true rfl) ha) (fun v => rfl) rfl hr (fun r1 h1 => t_Paths_farOf _ _ _ _ h1) (fun x8 h7 hr => ?_)
  refine j_iconst (pc := 17) d_Nb_canBe_17 ?_
  refine j_icmp_eq (pc := 18) (tgt := 25) d_Nb_canBe_18 hr (fun hr => ?_) (fun hr => ?_)
  · refine j_iconst (pc := 25) d_Nb_canBe_25 ?_
    exact j_zret (pc := 26) d_Nb_canBe_26 rfl hr
  · refine j_iconst (pc := 21) d_Nb_canBe_21 ?_
    refine j_goto (pc := 22) (tgt := 26) d_Nb_canBe_22 ?_
    exact j_zret (pc := 26) d_Nb_canBe_26 rfl hr
def M_Graph_behind : mM := ("NineBars$Graph", ⟨"NineBars$Graph", "behind", "(II)I"⟩, prog_6_method_10_code, 3, some .int, [], 1)
theorem tb_co_Graph_behind : mTB (Cond.code ⟨"NineBars$Graph", "behind", "(II)I"⟩ prog_6_method_10_code 3 (some .int)) := tbq5 26 (by decide +kernel) rfl
theorem mc_Graph_behind {M : mM} (hd : 1 < mDp M) : mCal M M_Graph_behind 2 := ⟨tb_co_Graph_behind, tb_in_NineBars_Graph, ⟨by decide +kernel, by decide +kernel⟩, by decide +kernel, hd, by decide⟩
theorem d_Graph_behind_0 : decode prog_6_method_10_code 0 = .ok (.iload_n 2, 1) := by decide +kernel
theorem d_Graph_behind_1 : decode prog_6_method_10_code 1 = .ok (.ifCond .lt 22, 3) := by decide +kernel
theorem d_Graph_behind_23 : decode prog_6_method_10_code 23 = .ok (.iload_n 1, 1) := by decide +kernel
theorem d_Graph_behind_24 : decode prog_6_method_10_code 24 = .ok (.ireturn, 1) := by decide +kernel
theorem d_Graph_behind_4 : decode prog_6_method_10_code 4 = .ok (.iload_n 2, 1) := by decide +kernel
theorem d_Graph_behind_5 : decode prog_6_method_10_code 5 = .ok (.aload_n 0, 1) := by decide +kernel
theorem d_Graph_behind_6 : decode prog_6_method_10_code 6 = .ok (.getfield 70, 3) := by decide +kernel
theorem d_Graph_behind_9 : decode prog_6_method_10_code 9 = .ok (.if_icmp .ge 14, 3) := by decide +kernel
theorem d_Graph_behind_12 : decode prog_6_method_10_code 12 = .ok (.iload_n 1, 1) := by decide +kernel
theorem d_Graph_behind_13 : decode prog_6_method_10_code 13 = .ok (.aload_n 0, 1) := by decide +kernel
theorem d_Graph_behind_14 : decode prog_6_method_10_code 14 = .ok (.getfield 18, 3) := by decide +kernel
theorem d_Graph_behind_17 : decode prog_6_method_10_code 17 = .ok (.iload_n 2, 1) := by decide +kernel
theorem d_Graph_behind_18 : decode prog_6_method_10_code 18 = .ok (.iaload, 1) := by decide +kernel
theorem d_Graph_behind_19 : decode prog_6_method_10_code 19 = .ok (.iadd, 1) := by decide +kernel
theorem d_Graph_behind_20 : decode prog_6_method_10_code 20 = .ok (.goto 4, 3) := by decide +kernel
theorem t_Graph_behind_J23 {G : mG} {r : mR} {v1 : Int} {h : mH}  (hr : f_Graph_behind_J23 v1 h = some r) : mJ G M_Graph_behind 23 [(9, 0), (0, v1), (9, 0)] [] h r := by
  unfold f_Graph_behind_J23 at hr
  refine j_iload_n (pc := 23) d_Graph_behind_23 rfl ?_
  exact j_iret (pc := 24) d_Graph_behind_24 rfl hr
theorem t_Graph_behind {G : mG} (h : mH) (v0 v1 v2 : Int) (r : mR) (hr : f_Graph_behind h v0 v1 v2 = some r) : mJM G M_Graph_behind [(2, v0), (0, v1), (0, v2)] h r := by
  refine mJM_of (L := [(2, v0), (0, v1), (0, v2)]) rfl rfl rfl (Nat.le_of_ble_eq_true rfl) ?_
  unfold f_Graph_behind at hr
  refine j_iload_n (pc := 0) d_Graph_behind_0 rfl ?_
  refine j_if_lt (pc := 1) (tgt := 23) d_Graph_behind_1 hr (fun hr => ?_) (fun hr => ?_)
  · exact mJ_weak (ls' := [(9, 0), (0, v1), (9, 0)]) (mwk_d (mwk_s (mwk_d mwk_n))) (t_Graph_behind_J23  hr)
  · refine j_iload_n (pc := 4) d_Graph_behind_4 rfl ?_
    refine j_aload_n (pc := 5) d_Graph_behind_5 rfl ?_
    refine j_getf (pc := 6) d_Graph_behind_6 (fd_Graph_70 rfl) hr (fun hr => ?_)
    refine j_icmp_ge (pc := 9) (tgt := 23) d_Graph_behind_9 hr (fun hr => ?_) (fun hr => ?_)
    · exact mJ_weak (ls' := [(9, 0), (0, v1), (9, 0)]) (mwk_d (mwk_s (mwk_d mwk_n))) (t_Graph_behind_J23  hr)
    · refine j_iload_n (pc := 12) d_Graph_behind_12 rfl ?_
      refine j_aload_n (pc := 13) d_Graph_behind_13 rfl ?_
      refine j_getf (pc := 14) d_Graph_behind_14 (fd_Graph_18 rfl) hr (fun hr => ?_)
      refine j_iload_n (pc := 17) d_Graph_behind_17 rfl ?_
      refine j_iaload (pc := 18) d_Graph_behind_18 hr (fun hr => ?_)
      refine j_iadd (pc := 19) d_Graph_behind_19 ?_
      refine j_goto (pc := 20) (tgt := 24) d_Graph_behind_20 ?_
      exact j_iret (pc := 24) d_Graph_behind_24 rfl hr
def M_Graph_stepsFrom : mM := ("NineBars$Graph", ⟨"NineBars$Graph", "stepsFrom", "(I)I"⟩, prog_6_method_9_code, 2, some .int, [], 1)
theorem tb_co_Graph_stepsFrom : mTB (Cond.code ⟨"NineBars$Graph", "stepsFrom", "(I)I"⟩ prog_6_method_9_code 2 (some .int)) := tbq5 22 (by decide +kernel) rfl
theorem mc_Graph_stepsFrom {M : mM} (hd : 1 < mDp M) : mCal M M_Graph_stepsFrom 1 := ⟨tb_co_Graph_stepsFrom, tb_in_NineBars_Graph, ⟨by decide +kernel, by decide +kernel⟩, by decide +kernel, hd, by decide⟩
theorem d_Graph_stepsFrom_0 : decode prog_6_method_9_code 0 = .ok (.iload_n 1, 1) := by decide +kernel
theorem d_Graph_stepsFrom_1 : decode prog_6_method_9_code 1 = .ok (.ifCond .lt 20, 3) := by decide +kernel
theorem d_Graph_stepsFrom_21 : decode prog_6_method_9_code 21 = .ok (.iconst 0, 1) := by decide +kernel
theorem d_Graph_stepsFrom_22 : decode prog_6_method_9_code 22 = .ok (.ireturn, 1) := by decide +kernel
theorem d_Graph_stepsFrom_4 : decode prog_6_method_9_code 4 = .ok (.iload_n 1, 1) := by decide +kernel
theorem d_Graph_stepsFrom_5 : decode prog_6_method_9_code 5 = .ok (.aload_n 0, 1) := by decide +kernel
theorem d_Graph_stepsFrom_6 : decode prog_6_method_9_code 6 = .ok (.getfield 40, 3) := by decide +kernel
theorem d_Graph_stepsFrom_9 : decode prog_6_method_9_code 9 = .ok (.if_icmp .ge 12, 3) := by decide +kernel
theorem d_Graph_stepsFrom_12 : decode prog_6_method_9_code 12 = .ok (.aload_n 0, 1) := by decide +kernel
theorem d_Graph_stepsFrom_13 : decode prog_6_method_9_code 13 = .ok (.getfield 31, 3) := by decide +kernel
theorem d_Graph_stepsFrom_16 : decode prog_6_method_9_code 16 = .ok (.iload_n 1, 1) := by decide +kernel
theorem d_Graph_stepsFrom_17 : decode prog_6_method_9_code 17 = .ok (.iaload, 1) := by decide +kernel
theorem d_Graph_stepsFrom_18 : decode prog_6_method_9_code 18 = .ok (.goto 4, 3) := by decide +kernel
theorem t_Graph_stepsFrom_J21 {G : mG} {r : mR} {h : mH}  (hr : f_Graph_stepsFrom_J21 h = some r) : mJ G M_Graph_stepsFrom 21 [(9, 0), (9, 0)] [] h r := by
  unfold f_Graph_stepsFrom_J21 at hr
  refine j_iconst (pc := 21) d_Graph_stepsFrom_21 ?_
  exact j_iret (pc := 22) d_Graph_stepsFrom_22 rfl hr
theorem t_Graph_stepsFrom {G : mG} (h : mH) (v0 v1 : Int) (r : mR) (hr : f_Graph_stepsFrom h v0 v1 = some r) : mJM G M_Graph_stepsFrom [(2, v0), (0, v1)] h r := by
  refine mJM_of (L := [(2, v0), (0, v1)]) rfl rfl rfl (Nat.le_of_ble_eq_true rfl) ?_
  unfold f_Graph_stepsFrom at hr
  refine j_iload_n (pc := 0) d_Graph_stepsFrom_0 rfl ?_
  refine j_if_lt (pc := 1) (tgt := 21) d_Graph_stepsFrom_1 hr (fun hr => ?_) (fun hr => ?_)
  · exact mJ_weak (ls' := [(9, 0), (9, 0)]) (mwk_d (mwk_d mwk_n)) (t_Graph_stepsFrom_J21  hr)
  · refine j_iload_n (pc := 4) d_Graph_stepsFrom_4 rfl ?_
    refine j_aload_n (pc := 5) d_Graph_stepsFrom_5 rfl ?_
    refine j_getf (pc := 6) d_Graph_stepsFrom_6 (fd_Graph_40 rfl) hr (fun hr => ?_)
    refine j_icmp_ge (pc := 9) (tgt := 21) d_Graph_stepsFrom_9 hr (fun hr => ?_) (fun hr => ?_)
    · exact mJ_weak (ls' := [(9, 0), (9, 0)]) (mwk_d (mwk_d mwk_n)) (t_Graph_stepsFrom_J21  hr)
    · refine j_aload_n (pc := 12) d_Graph_stepsFrom_12 rfl ?_
      refine j_getf (pc := 13) d_Graph_stepsFrom_13 (fd_Graph_31 rfl) hr (fun hr => ?_)
      refine j_iload_n (pc := 16) d_Graph_stepsFrom_16 rfl ?_
      refine j_iaload (pc := 17) d_Graph_stepsFrom_17 hr (fun hr => ?_)
      refine j_goto (pc := 18) (tgt := 22) d_Graph_stepsFrom_18 ?_
      exact j_iret (pc := 22) d_Graph_stepsFrom_22 rfl hr
def M_Graph_goesFrom : mM := ("NineBars$Graph", ⟨"NineBars$Graph", "goesFrom", "(II)Z"⟩, prog_6_method_8_code, 3, some .boolean, [], 3)
theorem tb_co_Graph_goesFrom : mTB (Cond.code ⟨"NineBars$Graph", "goesFrom", "(II)Z"⟩ prog_6_method_8_code 3 (some .boolean)) := tbq5 18 (by decide +kernel) rfl
theorem mc_Graph_goesFrom {M : mM} (hd : 3 < mDp M) : mCal M M_Graph_goesFrom 2 := ⟨tb_co_Graph_goesFrom, tb_in_NineBars_Graph, ⟨by decide +kernel, by decide +kernel⟩, by decide +kernel, hd, by decide⟩
theorem d_Graph_goesFrom_0 : decode prog_6_method_8_code 0 = .ok (.iload_n 2, 1) := by decide +kernel
theorem d_Graph_goesFrom_1 : decode prog_6_method_8_code 1 = .ok (.ifCond .lt 28, 3) := by decide +kernel
theorem d_Graph_goesFrom_29 : decode prog_6_method_8_code 29 = .ok (.iconst 0, 1) := by decide +kernel
theorem d_Graph_goesFrom_30 : decode prog_6_method_8_code 30 = .ok (.ireturn, 1) := by decide +kernel
theorem d_Graph_goesFrom_4 : decode prog_6_method_8_code 4 = .ok (.iload_n 2, 1) := by decide +kernel
theorem d_Graph_goesFrom_5 : decode prog_6_method_8_code 5 = .ok (.aload_n 0, 1) := by decide +kernel
theorem d_Graph_goesFrom_6 : decode prog_6_method_8_code 6 = .ok (.getfield 70, 3) := by decide +kernel
theorem d_Graph_goesFrom_9 : decode prog_6_method_8_code 9 = .ok (.if_icmp .ge 20, 3) := by decide +kernel
theorem d_Graph_goesFrom_12 : decode prog_6_method_8_code 12 = .ok (.aload_n 0, 1) := by decide +kernel
theorem d_Graph_goesFrom_13 : decode prog_6_method_8_code 13 = .ok (.iload_n 1, 1) := by decide +kernel
theorem d_Graph_goesFrom_14 : decode prog_6_method_8_code 14 = .ok (.invokevirtual 106, 3) := by decide +kernel
theorem tb_ml_Graph_106 : mTB (Cond.methodLink "NineBars$Graph" 106 ⟨"NineBars$Graph", "stepsFrom", "(I)I"⟩) := tbq5 19 (by decide +kernel) rfl
theorem tb_im_Graph_stepsFrom : mTB (Cond.instanceMethod ⟨"NineBars$Graph", "stepsFrom", "(I)I"⟩) := tbq5 20 (by decide +kernel) rfl
theorem tb_se_Graph_stepsFrom : mTB (Cond.selects "NineBars$Graph" ⟨"NineBars$Graph", "stepsFrom", "(I)I"⟩ ⟨"NineBars$Graph", "stepsFrom", "(I)I"⟩) := tbq5 21 (by decide +kernel) rfl
theorem mv_Graph_stepsFrom {M : mM} {idx : Nat} (h : mTB (Cond.methodLink (mO M) idx ⟨"NineBars$Graph", "stepsFrom", "(I)I"⟩)) : mCaV M M_Graph_stepsFrom idx 4 := ⟨h, tb_im_Graph_stepsFrom, tb_se_Graph_stepsFrom, by decide, TX4, 11, rfl⟩
theorem d_Graph_goesFrom_17 : decode prog_6_method_8_code 17 = .ok (.iload_n 2, 1) := by decide +kernel
theorem d_Graph_goesFrom_18 : decode prog_6_method_8_code 18 = .ok (.ishr, 1) := by decide +kernel
theorem d_Graph_goesFrom_19 : decode prog_6_method_8_code 19 = .ok (.iconst 1, 1) := by decide +kernel
theorem d_Graph_goesFrom_20 : decode prog_6_method_8_code 20 = .ok (.iand, 1) := by decide +kernel
theorem d_Graph_goesFrom_21 : decode prog_6_method_8_code 21 = .ok (.iconst 1, 1) := by decide +kernel
theorem d_Graph_goesFrom_22 : decode prog_6_method_8_code 22 = .ok (.if_icmp .ne 7, 3) := by decide +kernel
theorem d_Graph_goesFrom_25 : decode prog_6_method_8_code 25 = .ok (.iconst 1, 1) := by decide +kernel
theorem d_Graph_goesFrom_26 : decode prog_6_method_8_code 26 = .ok (.goto 4, 3) := by decide +kernel
theorem t_Graph_goesFrom_J29 {G : mG} {r : mR} {h : mH}  (hr : f_Graph_goesFrom_J29 h = some r) : mJ G M_Graph_goesFrom 29 [(9, 0), (9, 0), (9, 0)] [] h r := by
  unfold f_Graph_goesFrom_J29 at hr
  refine j_iconst (pc := 29) d_Graph_goesFrom_29 ?_
  exact j_zret (pc := 30) d_Graph_goesFrom_30 rfl hr
theorem t_Graph_goesFrom {G : mG} (h : mH) (v0 v1 v2 : Int) (r : mR) (hr : f_Graph_goesFrom h v0 v1 v2 = some r) : mJM G M_Graph_goesFrom [(2, v0), (0, v1), (0, v2)] h r := by
  refine mJM_of (L := [(2, v0), (0, v1), (0, v2)]) rfl rfl rfl (Nat.le_of_ble_eq_true rfl) ?_
  unfold f_Graph_goesFrom at hr
  refine j_iload_n (pc := 0) d_Graph_goesFrom_0 rfl ?_
  refine j_if_lt (pc := 1) (tgt := 29) d_Graph_goesFrom_1 hr (fun hr => ?_) (fun hr => ?_)
  · exact mJ_weak (ls' := [(9, 0), (9, 0), (9, 0)]) (mwk_d (mwk_d (mwk_d mwk_n))) (t_Graph_goesFrom_J29  hr)
  · refine j_iload_n (pc := 4) d_Graph_goesFrom_4 rfl ?_
    refine j_aload_n (pc := 5) d_Graph_goesFrom_5 rfl ?_
    refine j_getf (pc := 6) d_Graph_goesFrom_6 (fd_Graph_70 rfl) hr (fun hr => ?_)
    refine j_icmp_ge (pc := 9) (tgt := 29) d_Graph_goesFrom_9 hr (fun hr => ?_) (fun hr => ?_)
    · exact mJ_weak (ls' := [(9, 0), (9, 0), (9, 0)]) (mwk_d (mwk_d (mwk_d mwk_n))) (t_Graph_goesFrom_J29  hr)
    · refine j_aload_n (pc := 12) d_Graph_goesFrom_12 rfl ?_
      refine j_iload_n (pc := 13) d_Graph_goesFrom_13 rfl ?_
      obtain ⟨ha, hr⟩ := chk_some hr
      refine j_callG (pc := 14) (stk := [(0, v1), (2, v0)]) (as := [(2, v0), (0, v1)]) (P := (fun v9 => ((0 : Nat), v9) :: [])) (tg := 0) (My := M_Graph_stepsFrom) (mRunV (as := [(0, v1)]) (st := []) d_Graph_goesFrom_14 (mc_Graph_stepsFrom (by decide)) rfl (mv_Graph_stepsFrom tb_ml_Graph_106) rfl (Nat.le_of_ble_eq_true rfl) ha) (fun v => rfl) rfl hr (fun r1 h1 => t_Graph_stepsFrom _ _ _ _ h1) (fun x2 h1 hr => ?_)
      refine j_iload_n (pc := 17) d_Graph_goesFrom_17 rfl ?_
      refine j_ishr (pc := 18) d_Graph_goesFrom_18 ?_
      refine j_iconst (pc := 19) d_Graph_goesFrom_19 ?_
      refine j_iand (pc := 20) d_Graph_goesFrom_20 ?_
      refine j_iconst (pc := 21) d_Graph_goesFrom_21 ?_
      refine j_icmp_ne (pc := 22) (tgt := 29) d_Graph_goesFrom_22 hr (fun hr => ?_) (fun hr => ?_)
      · exact mJ_weak (ls' := [(9, 0), (9, 0), (9, 0)]) (mwk_d (mwk_d (mwk_d mwk_n))) (t_Graph_goesFrom_J29  hr)
      · refine j_iconst (pc := 25) d_Graph_goesFrom_25 ?_
        refine j_goto (pc := 26) (tgt := 30) d_Graph_goesFrom_26 ?_
        exact j_zret (pc := 30) d_Graph_goesFrom_30 rfl hr
def M_Paths_lineFrom : mM := ("NineBars$Paths", ⟨"NineBars$Paths", "lineFrom", "(LNineBars$Graph;I)I"⟩, prog_9_method_12_code, 4, some .int, [], 5)
theorem tb_co_Paths_lineFrom : mTB (Cond.code ⟨"NineBars$Paths", "lineFrom", "(LNineBars$Graph;I)I"⟩ prog_9_method_12_code 4 (some .int)) := tbq5 14 (by decide +kernel) rfl
theorem mc_Paths_lineFrom {M : mM} (hd : 5 < mDp M) : mCal M M_Paths_lineFrom 2 := ⟨tb_co_Paths_lineFrom, tb_in_NineBars_Paths, ⟨by decide +kernel, by decide +kernel⟩, by decide +kernel, hd, by decide⟩
theorem d_Paths_lineFrom_0 : decode prog_9_method_12_code 0 = .ok (.iconst 0, 1) := by decide +kernel
theorem d_Paths_lineFrom_1 : decode prog_9_method_12_code 1 = .ok (.istore_n 3, 1) := by decide +kernel
theorem d_Paths_lineFrom_2 : decode prog_9_method_12_code 2 = .ok (.iload_n 3, 1) := by decide +kernel
theorem d_Paths_lineFrom_3 : decode prog_9_method_12_code 3 = .ok (.aload_n 1, 1) := by decide +kernel
theorem d_Paths_lineFrom_4 : decode prog_9_method_12_code 4 = .ok (.getfield 77, 3) := by decide +kernel
theorem d_Paths_lineFrom_7 : decode prog_9_method_12_code 7 = .ok (.if_icmp .ge 50, 3) := by decide +kernel
theorem d_Paths_lineFrom_57 : decode prog_9_method_12_code 57 = .ok (.iconst (-1), 1) := by decide +kernel
theorem d_Paths_lineFrom_58 : decode prog_9_method_12_code 58 = .ok (.ireturn, 1) := by decide +kernel
theorem d_Paths_lineFrom_10 : decode prog_9_method_12_code 10 = .ok (.aload_n 0, 1) := by decide +kernel
theorem d_Paths_lineFrom_11 : decode prog_9_method_12_code 11 = .ok (.iload_n 2, 1) := by decide +kernel
theorem d_Paths_lineFrom_12 : decode prog_9_method_12_code 12 = .ok (.invokevirtual 53, 3) := by decide +kernel
theorem d_Paths_lineFrom_15 : decode prog_9_method_12_code 15 = .ok (.ifCond .le 42, 3) := by decide +kernel
theorem d_Paths_lineFrom_18 : decode prog_9_method_12_code 18 = .ok (.aload_n 1, 1) := by decide +kernel
theorem d_Paths_lineFrom_19 : decode prog_9_method_12_code 19 = .ok (.iload_n 2, 1) := by decide +kernel
theorem d_Paths_lineFrom_20 : decode prog_9_method_12_code 20 = .ok (.iload_n 3, 1) := by decide +kernel
theorem d_Paths_lineFrom_21 : decode prog_9_method_12_code 21 = .ok (.invokevirtual 83, 3) := by decide +kernel
theorem tb_ml_Paths_83 : mTB (Cond.methodLink "NineBars$Paths" 83 ⟨"NineBars$Graph", "goesFrom", "(II)Z"⟩) := tbq5 15 (by decide +kernel) rfl
theorem tb_im_Graph_goesFrom : mTB (Cond.instanceMethod ⟨"NineBars$Graph", "goesFrom", "(II)Z"⟩) := tbq5 16 (by decide +kernel) rfl
theorem tb_se_Graph_goesFrom : mTB (Cond.selects "NineBars$Graph" ⟨"NineBars$Graph", "goesFrom", "(II)Z"⟩ ⟨"NineBars$Graph", "goesFrom", "(II)Z"⟩) := tbq5 17 (by decide +kernel) rfl
theorem mv_Graph_goesFrom {M : mM} {idx : Nat} (h : mTB (Cond.methodLink (mO M) idx ⟨"NineBars$Graph", "goesFrom", "(II)Z"⟩)) : mCaV M M_Graph_goesFrom idx 4 := ⟨h, tb_im_Graph_goesFrom, tb_se_Graph_goesFrom, by decide, TX4, 11, rfl⟩
theorem d_Paths_lineFrom_24 : decode prog_9_method_12_code 24 = .ok (.ifCond .eq 27, 3) := by decide +kernel
theorem d_Paths_lineFrom_51 : decode prog_9_method_12_code 51 = .ok (.iinc 3 1, 3) := by decide +kernel
theorem d_Paths_lineFrom_54 : decode prog_9_method_12_code 54 = .ok (.goto (-52), 3) := by decide +kernel
theorem d_Paths_lineFrom_27 : decode prog_9_method_12_code 27 = .ok (.aload_n 0, 1) := by decide +kernel
theorem d_Paths_lineFrom_28 : decode prog_9_method_12_code 28 = .ok (.iload_n 2, 1) := by decide +kernel
theorem d_Paths_lineFrom_29 : decode prog_9_method_12_code 29 = .ok (.aload_n 1, 1) := by decide +kernel
theorem d_Paths_lineFrom_30 : decode prog_9_method_12_code 30 = .ok (.getfield 80, 3) := by decide +kernel
theorem d_Paths_lineFrom_33 : decode prog_9_method_12_code 33 = .ok (.iload_n 3, 1) := by decide +kernel
theorem d_Paths_lineFrom_34 : decode prog_9_method_12_code 34 = .ok (.iaload, 1) := by decide +kernel
theorem d_Paths_lineFrom_35 : decode prog_9_method_12_code 35 = .ok (.iadd, 1) := by decide +kernel
theorem d_Paths_lineFrom_36 : decode prog_9_method_12_code 36 = .ok (.invokevirtual 53, 3) := by decide +kernel
theorem d_Paths_lineFrom_39 : decode prog_9_method_12_code 39 = .ok (.aload_n 0, 1) := by decide +kernel
theorem d_Paths_lineFrom_40 : decode prog_9_method_12_code 40 = .ok (.iload_n 2, 1) := by decide +kernel
theorem d_Paths_lineFrom_41 : decode prog_9_method_12_code 41 = .ok (.invokevirtual 53, 3) := by decide +kernel
theorem d_Paths_lineFrom_44 : decode prog_9_method_12_code 44 = .ok (.iconst 1, 1) := by decide +kernel
theorem d_Paths_lineFrom_45 : decode prog_9_method_12_code 45 = .ok (.isub, 1) := by decide +kernel
theorem d_Paths_lineFrom_46 : decode prog_9_method_12_code 46 = .ok (.if_icmp .ne 5, 3) := by decide +kernel
theorem d_Paths_lineFrom_49 : decode prog_9_method_12_code 49 = .ok (.iload_n 3, 1) := by decide +kernel
theorem d_Paths_lineFrom_50 : decode prog_9_method_12_code 50 = .ok (.ireturn, 1) := by decide +kernel
theorem t_Paths_lineFrom_J51 {G : mG} {r : mR} {v0 v1 v2 v3 : Int} {h : mH} {R2 : mH → Int → Option mR} (hR2 : ∀ (h : mH) (w3 : Int) , R2 h w3 = some r → mJ G M_Paths_lineFrom 2 [(2, v0), (2, v1), (0, v2), (0, w3)] [] h r) (hr : f_Paths_lineFrom_J51 R2 v3 h = some r) : mJ G M_Paths_lineFrom 51 [(2, v0), (2, v1), (0, v2), (0, v3)] [] h r := by
  unfold f_Paths_lineFrom_J51 at hr
  refine j_iincW (pc := 51) (L := fun x1 => [(2, v0), (2, v1), (0, v2), (0, x1)]) d_Paths_lineFrom_51 rfl (fun _ => rfl) hr (fun x1 hr => ?_)
  refine j_goto (pc := 54) (tgt := 2) d_Paths_lineFrom_54 ?_
  exact mJ_weak (ls' := [(2, v0), (2, v1), (0, v2), (0, x1)]) (mwk_s (mwk_s (mwk_s (mwk_s mwk_n)))) (hR2 h _ hr)
theorem t_Paths_lineFrom_L2 {G : mG} {r : mR} {v0 v1 v2 : Int}  : ∀ (n : Nat) (h : mH) (v3 : Int), f_Paths_lineFrom_L2 v0 v1 v2 n h v3 = some r → mJ G M_Paths_lineFrom 2 [(2, v0), (2, v1), (0, v2), (0, v3)] [] h r := by
  intro n
  induction n with
  | zero =>
    intro h v3 hr
    rw [f_Paths_lineFrom_L2] at hr
    cases hr
  | succ n hR2 =>
    intro h v3 hr
    rw [f_Paths_lineFrom_L2] at hr
    refine j_iload_n (pc := 2) d_Paths_lineFrom_2 rfl ?_
    refine j_aload_n (pc := 3) d_Paths_lineFrom_3 rfl ?_
    refine j_getf (pc := 4) d_Paths_lineFrom_4 (fd_Paths_77 rfl) hr (fun hr => ?_)
    refine j_icmp_ge (pc := 7) (tgt := 57) d_Paths_lineFrom_7 hr (fun hr => ?_) (fun hr => ?_)
    · refine j_iconst (pc := 57) d_Paths_lineFrom_57 ?_
      exact j_iret (pc := 58) d_Paths_lineFrom_58 rfl hr
    · refine j_aload_n (pc := 10) d_Paths_lineFrom_10 rfl ?_
      refine j_iload_n (pc := 11) d_Paths_lineFrom_11 rfl ?_
      obtain ⟨ha, hr⟩ := chk_some hr
      refine j_callG (pc := 12) (stk := [(0, v2), (2, v0)]) (as := [(2, v0), (0, v2)]) (P := (fun v9 => ((0 : Nat), v9) :: [])) (tg := 0) (My := M_Paths_farOf) (mRunV (as := [(0, v2)]) (st := []) d_Paths_lineFrom_12 (mc_Paths_farOf (by decide)) rfl (mv_Paths_farOf tb_ml_Paths_53) rfl (Nat.le_of_ble_eq_true rfl) ha) (fun v => rfl) rfl hr (fun r1 h1 => t_Paths_farOf _ _ _ _ h1) (fun x2 h1 hr => ?_)
      refine j_if_le (pc := 15) (tgt := 57) d_Paths_lineFrom_15 hr (fun hr => ?_) (fun hr => ?_)
      · refine j_iconst (pc := 57) d_Paths_lineFrom_57 ?_
        exact j_iret (pc := 58) d_Paths_lineFrom_58 rfl hr
      · refine j_aload_n (pc := 18) d_Paths_lineFrom_18 rfl ?_
        refine j_iload_n (pc := 19) d_Paths_lineFrom_19 rfl ?_
        refine j_iload_n (pc := 20) d_Paths_lineFrom_20 rfl ?_
        obtain ⟨ha, hr⟩ := chk_some hr
        refine j_callG (pc := 21) (stk := [(0, v3), (0, v2), (2, v1)]) (as := [(2, v1), (0, v2), (0, v3)]) (P := (fun v9 => ((0 : Nat), v9) :: [])) (tg := 0) (My := M_Graph_goesFrom) (mRunV (as := [(0, v2), (0, v3)]) (st := []) d_Paths_lineFrom_21 (mc_Graph_goesFrom (by decide)) rfl (mv_Graph_goesFrom tb_ml_Paths_83) rfl (Nat.le_of_ble_eq_true rfl) ha) (fun v => rfl) rfl hr (fun r1 h1 => t_Graph_goesFrom _ _ _ _ _ h1) (fun x4 h3 hr => ?_)
        refine j_if_eq (pc := 24) (tgt := 51) d_Paths_lineFrom_24 hr (fun hr => ?_) (fun hr => ?_)
        · exact mJ_weak (ls' := [(2, v0), (2, v1), (0, v2), (0, v3)]) (mwk_s (mwk_s (mwk_s (mwk_s mwk_n)))) (t_Paths_lineFrom_J51 hR2 hr)
        · refine j_aload_n (pc := 27) d_Paths_lineFrom_27 rfl ?_
          refine j_iload_n (pc := 28) d_Paths_lineFrom_28 rfl ?_
          refine j_aload_n (pc := 29) d_Paths_lineFrom_29 rfl ?_
          refine j_getf (pc := 30) d_Paths_lineFrom_30 (fd_Paths_80 rfl) hr (fun hr => ?_)
          refine j_iload_n (pc := 33) d_Paths_lineFrom_33 rfl ?_
          refine j_iaload (pc := 34) d_Paths_lineFrom_34 hr (fun hr => ?_)
          refine j_iadd (pc := 35) d_Paths_lineFrom_35 ?_
          obtain ⟨ha, hr⟩ := chk_some hr
          refine j_callG (pc := 36) (stk := [(0, w32 (v2 + (hpV h3 (hpV h3 v1 5) v3))), (2, v0)]) (as := [(2, v0), (0, w32 (v2 + (hpV h3 (hpV h3 v1 5) v3)))]) (P := (fun v9 => ((0 : Nat), v9) :: [])) (tg := 0) (My := M_Paths_farOf) (mRunV (as := [(0, w32 (v2 + (hpV h3 (hpV h3 v1 5) v3)))]) (st := []) d_Paths_lineFrom_36 (mc_Paths_farOf (by decide)) rfl (mv_Paths_farOf tb_ml_Paths_53) rfl (Nat.le_of_ble_eq_true rfl) ha) (fun v => rfl) rfl hr (fun r1 h1 => t_Paths_farOf _ _ _ _ h1) (fun x6 h5 hr => ?_)
          refine j_aload_n (pc := 39) d_Paths_lineFrom_39 rfl ?_
          refine j_iload_n (pc := 40) d_Paths_lineFrom_40 rfl ?_
          obtain ⟨ha, hr⟩ := chk_some hr
          refine j_callG (pc := 41) (stk := [(0, v2), (2, v0), (0, x6)]) (as := [(2, v0), (0, v2)]) (P := (fun v9 => ((0 : Nat), v9) :: [(0, x6)])) (tg := 0) (My := M_Paths_farOf) (mRunV (as := [(0, v2)]) (st := [(0, x6)]) d_Paths_lineFrom_41 (mc_Paths_farOf (by decide)) rfl (mv_Paths_farOf tb_ml_Paths_53) rfl (Nat.le_of_ble_eq_true rfl) ha) (fun v => rfl) rfl hr (fun r1 h1 => t_Paths_farOf _ _ _ _ h1) (fun x8 h7 hr => ?_)
          refine j_iconst (pc := 44) d_Paths_lineFrom_44 ?_
          refine j_isub (pc := 45) d_Paths_lineFrom_45 ?_
          refine j_icmp_ne (pc := 46) (tgt := 51) d_Paths_lineFrom_46 hr (fun hr => ?_) (fun hr => ?_)
          · exact mJ_weak (ls' := [(2, v0), (2, v1), (0, v2), (0, v3)]) (mwk_s (mwk_s (mwk_s (mwk_s mwk_n)))) (t_Paths_lineFrom_J51 hR2 hr)
          · refine j_iload_n (pc := 49) d_Paths_lineFrom_49 rfl ?_
            exact j_iret (pc := 50) d_Paths_lineFrom_50 rfl hr
theorem t_Paths_lineFrom {G : mG} (h : mH) (v0 v1 v2 : Int) (r : mR) (hr : f_Paths_lineFrom h v0 v1 v2 = some r) : mJM G M_Paths_lineFrom [(2, v0), (2, v1), (0, v2)] h r := by
  refine mJM_of (L := [(2, v0), (2, v1), (0, v2), (9, 0)]) rfl rfl rfl (Nat.le_of_ble_eq_true rfl) ?_
  unfold f_Paths_lineFrom at hr
  refine j_iconst (pc := 0) d_Paths_lineFrom_0 ?_
  refine j_istore_n (pc := 1) (ls' := [(2, v0), (2, v1), (0, v2), (0, 0)]) d_Paths_lineFrom_1 rfl ?_
  refine mJ_weak (ls' := [(2, v0), (2, v1), (0, v2), (0, 0)]) (mwk_s (mwk_s (mwk_s (mwk_s mwk_n)))) (t_Paths_lineFrom_L2  _ _ _ hr)
def M_Paths_lineOf : mM := ("NineBars$Paths", ⟨"NineBars$Paths", "lineOf", "(LNineBars$Graph;II)I"⟩, prog_9_method_13_code, 7, some .int, [], 7)
theorem tb_co_Paths_lineOf : mTB (Cond.code ⟨"NineBars$Paths", "lineOf", "(LNineBars$Graph;II)I"⟩ prog_9_method_13_code 7 (some .int)) := tbq5 10 (by decide +kernel) rfl
theorem mc_Paths_lineOf {M : mM} (hd : 7 < mDp M) : mCal M M_Paths_lineOf 3 := ⟨tb_co_Paths_lineOf, tb_in_NineBars_Paths, ⟨by decide +kernel, by decide +kernel⟩, by decide +kernel, hd, by decide⟩
theorem d_Paths_lineOf_0 : decode prog_9_method_13_code 0 = .ok (.aload_n 0, 1) := by decide +kernel
theorem d_Paths_lineOf_1 : decode prog_9_method_13_code 1 = .ok (.iload_n 2, 1) := by decide +kernel
theorem d_Paths_lineOf_2 : decode prog_9_method_13_code 2 = .ok (.invokevirtual 53, 3) := by decide +kernel
theorem d_Paths_lineOf_5 : decode prog_9_method_13_code 5 = .ok (.istore 4, 2) := by decide +kernel
theorem d_Paths_lineOf_7 : decode prog_9_method_13_code 7 = .ok (.iload_n 3, 1) := by decide +kernel
theorem d_Paths_lineOf_8 : decode prog_9_method_13_code 8 = .ok (.iconst (-1), 1) := by decide +kernel
theorem d_Paths_lineOf_9 : decode prog_9_method_13_code 9 = .ok (.if_icmp .eq 13, 3) := by decide +kernel
theorem d_Paths_lineOf_22 : decode prog_9_method_13_code 22 = .ok (.iload_n 3, 1) := by decide +kernel
theorem d_Paths_lineOf_23 : decode prog_9_method_13_code 23 = .ok (.iconst (-1), 1) := by decide +kernel
theorem d_Paths_lineOf_24 : decode prog_9_method_13_code 24 = .ok (.if_icmp .ne 8, 3) := by decide +kernel
theorem d_Paths_lineOf_32 : decode prog_9_method_13_code 32 = .ok (.iconst (-1), 1) := by decide +kernel
theorem d_Paths_lineOf_33 : decode prog_9_method_13_code 33 = .ok (.ireturn, 1) := by decide +kernel
theorem d_Paths_lineOf_27 : decode prog_9_method_13_code 27 = .ok (.iload 4, 2) := by decide +kernel
theorem d_Paths_lineOf_29 : decode prog_9_method_13_code 29 = .ok (.goto 4, 3) := by decide +kernel
theorem d_Paths_lineOf_12 : decode prog_9_method_13_code 12 = .ok (.iload_n 3, 1) := by decide +kernel
theorem d_Paths_lineOf_13 : decode prog_9_method_13_code 13 = .ok (.ifCond .lt 9, 3) := by decide +kernel
theorem d_Paths_lineOf_16 : decode prog_9_method_13_code 16 = .ok (.iload_n 3, 1) := by decide +kernel
theorem d_Paths_lineOf_17 : decode prog_9_method_13_code 17 = .ok (.iload 4, 2) := by decide +kernel
theorem d_Paths_lineOf_19 : decode prog_9_method_13_code 19 = .ok (.if_icmp .lt 15, 3) := by decide +kernel
theorem d_Paths_lineOf_34 : decode prog_9_method_13_code 34 = .ok (.iload_n 2, 1) := by decide +kernel
theorem d_Paths_lineOf_35 : decode prog_9_method_13_code 35 = .ok (.istore 5, 2) := by decide +kernel
theorem d_Paths_lineOf_37 : decode prog_9_method_13_code 37 = .ok (.iconst 0, 1) := by decide +kernel
theorem d_Paths_lineOf_38 : decode prog_9_method_13_code 38 = .ok (.istore 6, 2) := by decide +kernel
theorem d_Paths_lineOf_40 : decode prog_9_method_13_code 40 = .ok (.iload 6, 2) := by decide +kernel
theorem d_Paths_lineOf_42 : decode prog_9_method_13_code 42 = .ok (.iload_n 3, 1) := by decide +kernel
theorem d_Paths_lineOf_43 : decode prog_9_method_13_code 43 = .ok (.if_icmp .ge 24, 3) := by decide +kernel
theorem d_Paths_lineOf_46 : decode prog_9_method_13_code 46 = .ok (.aload_n 1, 1) := by decide +kernel
theorem d_Paths_lineOf_47 : decode prog_9_method_13_code 47 = .ok (.iload 5, 2) := by decide +kernel
theorem d_Paths_lineOf_49 : decode prog_9_method_13_code 49 = .ok (.aload_n 0, 1) := by decide +kernel
theorem d_Paths_lineOf_50 : decode prog_9_method_13_code 50 = .ok (.aload_n 1, 1) := by decide +kernel
theorem d_Paths_lineOf_51 : decode prog_9_method_13_code 51 = .ok (.iload 5, 2) := by decide +kernel
theorem d_Paths_lineOf_53 : decode prog_9_method_13_code 53 = .ok (.invokevirtual 87, 3) := by decide +kernel
theorem tb_ml_Paths_87 : mTB (Cond.methodLink "NineBars$Paths" 87 ⟨"NineBars$Paths", "lineFrom", "(LNineBars$Graph;I)I"⟩) := tbq5 11 (by decide +kernel) rfl
theorem tb_im_Paths_lineFrom : mTB (Cond.instanceMethod ⟨"NineBars$Paths", "lineFrom", "(LNineBars$Graph;I)I"⟩) := tbq5 12 (by decide +kernel) rfl
theorem tb_se_Paths_lineFrom : mTB (Cond.selects "NineBars$Paths" ⟨"NineBars$Paths", "lineFrom", "(LNineBars$Graph;I)I"⟩ ⟨"NineBars$Paths", "lineFrom", "(LNineBars$Graph;I)I"⟩) := tbq5 13 (by decide +kernel) rfl
theorem mv_Paths_lineFrom {M : mM} {idx : Nat} (h : mTB (Cond.methodLink (mO M) idx ⟨"NineBars$Paths", "lineFrom", "(LNineBars$Graph;I)I"⟩)) : mCaV M M_Paths_lineFrom idx 7 := ⟨h, tb_im_Paths_lineFrom, tb_se_Paths_lineFrom, by decide, TX7, 7, rfl⟩
theorem d_Paths_lineOf_56 : decode prog_9_method_13_code 56 = .ok (.invokevirtual 91, 3) := by decide +kernel
theorem tb_ml_Paths_91 : mTB (Cond.methodLink "NineBars$Paths" 91 ⟨"NineBars$Graph", "behind", "(II)I"⟩) := tbq5 23 (by decide +kernel) rfl
theorem tb_im_Graph_behind : mTB (Cond.instanceMethod ⟨"NineBars$Graph", "behind", "(II)I"⟩) := tbq5 24 (by decide +kernel) rfl
theorem tb_se_Graph_behind : mTB (Cond.selects "NineBars$Graph" ⟨"NineBars$Graph", "behind", "(II)I"⟩ ⟨"NineBars$Graph", "behind", "(II)I"⟩) := tbq5 25 (by decide +kernel) rfl
theorem mv_Graph_behind {M : mM} {idx : Nat} (h : mTB (Cond.methodLink (mO M) idx ⟨"NineBars$Graph", "behind", "(II)I"⟩)) : mCaV M M_Graph_behind idx 4 := ⟨h, tb_im_Graph_behind, tb_se_Graph_behind, by decide, TX4, 11, rfl⟩
theorem d_Paths_lineOf_59 : decode prog_9_method_13_code 59 = .ok (.istore 5, 2) := by decide +kernel
theorem d_Paths_lineOf_61 : decode prog_9_method_13_code 61 = .ok (.iinc 6 1, 3) := by decide +kernel
theorem d_Paths_lineOf_64 : decode prog_9_method_13_code 64 = .ok (.goto (-24), 3) := by decide +kernel
theorem d_Paths_lineOf_67 : decode prog_9_method_13_code 67 = .ok (.aload_n 0, 1) := by decide +kernel
theorem d_Paths_lineOf_68 : decode prog_9_method_13_code 68 = .ok (.aload_n 1, 1) := by decide +kernel
theorem d_Paths_lineOf_69 : decode prog_9_method_13_code 69 = .ok (.iload 5, 2) := by decide +kernel
theorem d_Paths_lineOf_71 : decode prog_9_method_13_code 71 = .ok (.invokevirtual 87, 3) := by decide +kernel
theorem d_Paths_lineOf_74 : decode prog_9_method_13_code 74 = .ok (.ireturn, 1) := by decide +kernel
theorem t_Paths_lineOf_J22 {G : mG} {r : mR} {v3 v4 : Int} {h : mH}  (hr : f_Paths_lineOf_J22 v3 v4 h = some r) : mJ G M_Paths_lineOf 22 [(9, 0), (9, 0), (9, 0), (0, v3), (0, v4), (9, 0), (9, 0)] [] h r := by
  unfold f_Paths_lineOf_J22 at hr
  refine j_iload_n (pc := 22) d_Paths_lineOf_22 rfl ?_
  refine j_iconst (pc := 23) d_Paths_lineOf_23 ?_
  refine j_icmp_ne (pc := 24) (tgt := 32) d_Paths_lineOf_24 hr (fun hr => ?_) (fun hr => ?_)
  · refine j_iconst (pc := 32) d_Paths_lineOf_32 ?_
    exact j_iret (pc := 33) d_Paths_lineOf_33 rfl hr
  · refine j_iload (pc := 27) d_Paths_lineOf_27 rfl ?_
    refine j_goto (pc := 29) (tgt := 33) d_Paths_lineOf_29 ?_
    exact j_iret (pc := 33) d_Paths_lineOf_33 rfl hr
theorem t_Paths_lineOf_L40 {G : mG} {r : mR} {v0 v1 v3 : Int} {K67 : mH → Int → Option mR} (hK67 : ∀ (h : mH) (w5 : Int) , K67 h w5 = some r → mJ G M_Paths_lineOf 67 [(2, v0), (2, v1), (9, 0), (9, 0), (9, 0), (0, w5), (9, 0)] [] h r) : ∀ (n : Nat) (h : mH) (v5 v6 : Int), f_Paths_lineOf_L40 K67 v0 v1 v3 n h v5 v6 = some r → mJ G M_Paths_lineOf 40 [(2, v0), (2, v1), (9, 0), (0, v3), (9, 0), (0, v5), (0, v6)] [] h r := by
  intro n
  induction n with
  | zero =>
    intro h v5 v6 hr
    rw [f_Paths_lineOf_L40] at hr
    cases hr
  | succ n hR40 =>
    intro h v5 v6 hr
    rw [f_Paths_lineOf_L40] at hr
    refine j_iload (pc := 40) d_Paths_lineOf_40 rfl ?_
    refine j_iload_n (pc := 42) d_Paths_lineOf_42 rfl ?_
    refine j_icmp_ge (pc := 43) (tgt := 67) d_Paths_lineOf_43 hr (fun hr => ?_) (fun hr => ?_)
    · exact mJ_weak (ls' := [(2, v0), (2, v1), (9, 0), (9, 0), (9, 0), (0, v5), (9, 0)]) (mwk_s (mwk_s (mwk_s (mwk_d (mwk_s (mwk_s (mwk_d mwk_n))))))) (hK67 h _ hr)
    · refine j_aload_n (pc := 46) d_Paths_lineOf_46 rfl ?_
      refine j_iload (pc := 47) d_Paths_lineOf_47 rfl ?_
      refine j_aload_n (pc := 49) d_Paths_lineOf_49 rfl ?_
      refine j_aload_n (pc := 50) d_Paths_lineOf_50 rfl ?_
      refine j_iload (pc := 51) d_Paths_lineOf_51 rfl ?_
      obtain ⟨ha, hr⟩ := chk_some hr
      refine j_callG (pc := 53) (stk := [(0, v5), (2, v1), (2, v0), (0, v5), (2, v1)]) (as := [(2, v0), (2, v1), (0, v5)]) (P := (fun v9 => ((0 : Nat), v9) :: [(0, v5), (2, v1)])) (tg := 0) (My := M_Paths_lineFrom) (mRunV (as := [(2, v1), (0, v5)]) (st := [(0, v5), (2, v1)]) d_Paths_lineOf_53 (mc_Paths_lineFrom (by decide)) rfl (mv_Paths_lineFrom tb_ml_Paths_87) rfl (Nat.le_of_ble_eq_true rfl) ha) (fun v => rfl) rfl hr (fun r1 h1 => t_Paths_lineFrom _ _ _ _ _ h1) (fun x2 h1 hr => ?_)
      obtain ⟨ha, hr⟩ := chk_some hr
      refine j_callG (pc := 56) (stk := [(0, x2), (0, v5), (2, v1)]) (as := [(2, v1), (0, v5), (0, x2)]) (P := (fun v9 => ((0 : Nat), v9) :: [])) (tg := 0) (My := M_Graph_behind) (mRunV (as := [(0, v5), (0, x2)]) (st := []) d_Paths_lineOf_56 (mc_Graph_behind (by decide)) rfl (mv_Graph_behind tb_ml_Paths_91) rfl (Nat.le_of_ble_eq_true rfl) ha) (fun v => rfl) rfl hr (fun r1 h1 => t_Graph_behind _ _ _ _ _ h1) (fun x4 h3 hr => ?_)
      refine j_istore (pc := 59) (ls' := [(2, v0), (2, v1), (9, 0), (0, v3), (9, 0), (0, x4), (0, v6)]) d_Paths_lineOf_59 rfl ?_
      refine j_iincW (pc := 61) (L := fun x5 => [(2, v0), (2, v1), (9, 0), (0, v3), (9, 0), (0, x4), (0, x5)]) d_Paths_lineOf_61 rfl (fun _ => rfl) hr (fun x5 hr => ?_)
      refine j_goto (pc := 64) (tgt := 40) d_Paths_lineOf_64 ?_
      exact mJ_weak (ls' := [(2, v0), (2, v1), (9, 0), (0, v3), (9, 0), (0, x4), (0, x5)]) (mwk_s (mwk_s (mwk_s (mwk_s (mwk_s (mwk_s (mwk_s mwk_n))))))) (hR40 h3 _ _ hr)
theorem t_Paths_lineOf {G : mG} (h : mH) (v0 v1 v2 v3 : Int) (r : mR) (hr : f_Paths_lineOf h v0 v1 v2 v3 = some r) : mJM G M_Paths_lineOf [(2, v0), (2, v1), (0, v2), (0, v3)] h r := by
  refine mJM_of (L := [(2, v0), (2, v1), (0, v2), (0, v3), (9, 0), (9, 0), (9, 0)]) rfl rfl rfl (Nat.le_of_ble_eq_true rfl) ?_
  unfold f_Paths_lineOf at hr
  refine j_aload_n (pc := 0) d_Paths_lineOf_0 rfl ?_
  refine j_iload_n (pc := 1) d_Paths_lineOf_1 rfl ?_
  obtain ⟨ha, hr⟩ := chk_some hr
  refine j_callG (pc := 2) (stk := [(0, v2), (2, v0)]) (as := [(2, v0), (0, v2)]) (P := (fun v9 => ((0 : Nat), v9) :: [])) (tg := 0) (My := M_Paths_farOf) (mRunV (as := [(0, v2)]) (st := []) d_Paths_lineOf_2 (mc_Paths_farOf (by decide)) rfl (mv_Paths_farOf tb_ml_Paths_53) rfl (Nat.le_of_ble_eq_true rfl) ha) (fun v => rfl) rfl hr (fun r1 h1 => t_Paths_farOf _ _ _ _ h1) (fun x2 h1 hr => ?_)
  refine j_istore (pc := 5) (ls' := [(2, v0), (2, v1), (0, v2), (0, v3), (0, x2), (9, 0), (9, 0)]) d_Paths_lineOf_5 rfl ?_
  refine j_iload_n (pc := 7) d_Paths_lineOf_7 rfl ?_
  refine j_iconst (pc := 8) d_Paths_lineOf_8 ?_
  refine j_icmp_eq (pc := 9) (tgt := 22) d_Paths_lineOf_9 hr (fun hr => ?_) (fun hr => ?_)
  · exact mJ_weak (ls' := [(9, 0), (9, 0), (9, 0), (0, v3), (0, x2), (9, 0), (9, 0)]) (mwk_d (mwk_d (mwk_d (mwk_s (mwk_s (mwk_s (mwk_s mwk_n))))))) (t_Paths_lineOf_J22  hr)
  · refine j_iload_n (pc := 12) d_Paths_lineOf_12 rfl ?_
    refine j_if_lt (pc := 13) (tgt := 22) d_Paths_lineOf_13 hr (fun hr => ?_) (fun hr => ?_)
    · exact mJ_weak (ls' := [(9, 0), (9, 0), (9, 0), (0, v3), (0, x2), (9, 0), (9, 0)]) (mwk_d (mwk_d (mwk_d (mwk_s (mwk_s (mwk_s (mwk_s mwk_n))))))) (t_Paths_lineOf_J22  hr)
    · refine j_iload_n (pc := 16) d_Paths_lineOf_16 rfl ?_
      refine j_iload (pc := 17) d_Paths_lineOf_17 rfl ?_
      refine j_icmp_lt (pc := 19) (tgt := 34) d_Paths_lineOf_19 hr (fun hr => ?_) (fun hr => ?_)
      · refine j_iload_n (pc := 34) d_Paths_lineOf_34 rfl ?_
        refine j_istore (pc := 35) (ls' := [(2, v0), (2, v1), (0, v2), (0, v3), (0, x2), (0, v2), (9, 0)]) d_Paths_lineOf_35 rfl ?_
        refine j_iconst (pc := 37) d_Paths_lineOf_37 ?_
        refine j_istore (pc := 38) (ls' := [(2, v0), (2, v1), (0, v2), (0, v3), (0, x2), (0, v2), (0, 0)]) d_Paths_lineOf_38 rfl ?_
        refine mJ_weak (ls' := [(2, v0), (2, v1), (9, 0), (0, v3), (9, 0), (0, v2), (0, 0)]) (mwk_s (mwk_s (mwk_d (mwk_s (mwk_d (mwk_s (mwk_s mwk_n))))))) (t_Paths_lineOf_L40 (fun h3 x4 hr => ?_) _ _ _ _ hr)
        · refine j_aload_n (pc := 67) d_Paths_lineOf_67 rfl ?_
          refine j_aload_n (pc := 68) d_Paths_lineOf_68 rfl ?_
          refine j_iload (pc := 69) d_Paths_lineOf_69 rfl ?_
          obtain ⟨ha, hr⟩ := chk_some hr
          refine j_callG (pc := 71) (stk := [(0, x4), (2, v1), (2, v0)]) (as := [(2, v0), (2, v1), (0, x4)]) (P := (fun v9 => ((0 : Nat), v9) :: [])) (tg := 0) (My := M_Paths_lineFrom) (mRunV (as := [(2, v1), (0, x4)]) (st := []) d_Paths_lineOf_71 (mc_Paths_lineFrom (by decide)) rfl (mv_Paths_lineFrom tb_ml_Paths_87) rfl (Nat.le_of_ble_eq_true rfl) ha) (fun v => rfl) rfl hr (fun r1 h1 => t_Paths_lineFrom _ _ _ _ _ h1) (fun x6 h5 hr => ?_)
          exact j_iret (pc := 74) d_Paths_lineOf_74 rfl hr
      · exact mJ_weak (ls' := [(9, 0), (9, 0), (9, 0), (0, v3), (0, x2), (9, 0), (9, 0)]) (mwk_d (mwk_d (mwk_d (mwk_s (mwk_s (mwk_s (mwk_s mwk_n))))))) (t_Paths_lineOf_J22  hr)
def M_Nb_shortest : mM := ("NineBars", ⟨"NineBars", "shortest", "(III)I"⟩, prog_1_method_18_code, 4, some .int, [], 13)
theorem tb_co_Nb_shortest : mTB (Cond.code ⟨"NineBars", "shortest", "(III)I"⟩ prog_1_method_18_code 4 (some .int)) := tbq5 6 (by decide +kernel) rfl
theorem mc_Nb_shortest {M : mM} (hd : 13 < mDp M) : mCal M M_Nb_shortest 3 := ⟨tb_co_Nb_shortest, tb_in_NineBars, ⟨by decide +kernel, by decide +kernel⟩, by decide +kernel, hd, by decide⟩
theorem d_Nb_shortest_0 : decode prog_1_method_18_code 0 = .ok (.aload_n 0, 1) := by decide +kernel
theorem d_Nb_shortest_1 : decode prog_1_method_18_code 1 = .ok (.iload_n 1, 1) := by decide +kernel
theorem d_Nb_shortest_2 : decode prog_1_method_18_code 2 = .ok (.invokevirtual 202, 3) := by decide +kernel
theorem d_Nb_shortest_5 : decode prog_1_method_18_code 5 = .ok (.aload_n 0, 1) := by decide +kernel
theorem d_Nb_shortest_6 : decode prog_1_method_18_code 6 = .ok (.iload_n 2, 1) := by decide +kernel
theorem d_Nb_shortest_7 : decode prog_1_method_18_code 7 = .ok (.invokevirtual 202, 3) := by decide +kernel
theorem d_Nb_shortest_10 : decode prog_1_method_18_code 10 = .ok (.aload_n 0, 1) := by decide +kernel
theorem d_Nb_shortest_11 : decode prog_1_method_18_code 11 = .ok (.invokevirtual 260, 3) := by decide +kernel
theorem d_Nb_shortest_14 : decode prog_1_method_18_code 14 = .ok (.aload_n 0, 1) := by decide +kernel
theorem d_Nb_shortest_15 : decode prog_1_method_18_code 15 = .ok (.getfield 61, 3) := by decide +kernel
theorem d_Nb_shortest_18 : decode prog_1_method_18_code 18 = .ok (.aload_n 0, 1) := by decide +kernel
theorem d_Nb_shortest_19 : decode prog_1_method_18_code 19 = .ok (.getfield 48, 3) := by decide +kernel
theorem d_Nb_shortest_22 : decode prog_1_method_18_code 22 = .ok (.iload_n 2, 1) := by decide +kernel
theorem d_Nb_shortest_23 : decode prog_1_method_18_code 23 = .ok (.invokevirtual 266, 3) := by decide +kernel
theorem d_Nb_shortest_26 : decode prog_1_method_18_code 26 = .ok (.aload_n 0, 1) := by decide +kernel
theorem d_Nb_shortest_27 : decode prog_1_method_18_code 27 = .ok (.getfield 61, 3) := by decide +kernel
theorem d_Nb_shortest_30 : decode prog_1_method_18_code 30 = .ok (.aload_n 0, 1) := by decide +kernel
theorem d_Nb_shortest_31 : decode prog_1_method_18_code 31 = .ok (.getfield 48, 3) := by decide +kernel
theorem d_Nb_shortest_34 : decode prog_1_method_18_code 34 = .ok (.iload_n 1, 1) := by decide +kernel
theorem d_Nb_shortest_35 : decode prog_1_method_18_code 35 = .ok (.iload_n 3, 1) := by decide +kernel
theorem d_Nb_shortest_36 : decode prog_1_method_18_code 36 = .ok (.invokevirtual 270, 3) := by decide +kernel
theorem tb_ml_Nb_270 : mTB (Cond.methodLink "NineBars" 270 ⟨"NineBars$Paths", "lineOf", "(LNineBars$Graph;II)I"⟩) := tbq5 7 (by decide +kernel) rfl
theorem tb_im_Paths_lineOf : mTB (Cond.instanceMethod ⟨"NineBars$Paths", "lineOf", "(LNineBars$Graph;II)I"⟩) := tbq5 8 (by decide +kernel) rfl
theorem tb_se_Paths_lineOf : mTB (Cond.selects "NineBars$Paths" ⟨"NineBars$Paths", "lineOf", "(LNineBars$Graph;II)I"⟩ ⟨"NineBars$Paths", "lineOf", "(LNineBars$Graph;II)I"⟩) := tbq5 9 (by decide +kernel) rfl
theorem mv_Paths_lineOf {M : mM} {idx : Nat} (h : mTB (Cond.methodLink (mO M) idx ⟨"NineBars$Paths", "lineOf", "(LNineBars$Graph;II)I"⟩)) : mCaV M M_Paths_lineOf idx 7 := ⟨h, tb_im_Paths_lineOf, tb_se_Paths_lineOf, by decide, TX7, 7, rfl⟩
theorem d_Nb_shortest_39 : decode prog_1_method_18_code 39 = .ok (.ireturn, 1) := by decide +kernel
theorem t_Nb_shortest {G : mG} (h : mH) (v0 v1 v2 v3 : Int) (r : mR) (hr : f_Nb_shortest h v0 v1 v2 v3 = some r) : mJM G M_Nb_shortest [(2, v0), (0, v1), (0, v2), (0, v3)] h r := by
  refine mJM_of (L := [(2, v0), (0, v1), (0, v2), (0, v3)]) rfl rfl rfl (Nat.le_of_ble_eq_true rfl) ?_
  unfold f_Nb_shortest at hr
  refine j_aload_n (pc := 0) d_Nb_shortest_0 rfl ?_
  refine j_iload_n (pc := 1) d_Nb_shortest_1 rfl ?_
  obtain ⟨ha, hr⟩ := chk_some hr
  refine j_callG (pc := 2) (stk := [(0, v1), (2, v0)]) (as := [(2, v0), (0, v1)]) (P := (fun v9 => [])) (tg := 3) (My := M_Nb_needStand) (mRunV (as := [(0, v1)]) (st := []) d_Nb_shortest_2 (mc_Nb_needStand (by decide)) rfl (mv_Nb_needStand tb_ml_Nb_202) rfl (Nat.le_of_ble_eq_true rfl) ha) (fun v => rfl) rfl hr (fun r1 h1 => t_Nb_needStand _ _ _ _ h1) (fun x2 h1 hr => ?_)
  refine j_aload_n (pc := 5) d_Nb_shortest_5 rfl ?_
  refine j_iload_n (pc := 6) d_Nb_shortest_6 rfl ?_
  obtain ⟨ha, hr⟩ := chk_some hr
  refine j_callG (pc := 7) (stk := [(0, v2), (2, v0)]) (as := [(2, v0), (0, v2)]) (P := (fun v9 => [])) (tg := 3) (My := M_Nb_needStand) (mRunV (as := [(0, v2)]) (st := []) d_Nb_shortest_7 (mc_Nb_needStand (by decide)) rfl (mv_Nb_needStand tb_ml_Nb_202) rfl (Nat.le_of_ble_eq_true rfl) ha) (fun v => rfl) rfl hr (fun r1 h1 => t_Nb_needStand _ _ _ _ h1) (fun x4 h3 hr => ?_)
  refine j_aload_n (pc := 10) d_Nb_shortest_10 rfl ?_
  obtain ⟨ha, hr⟩ := chk_some hr
  refine j_callG (pc := 11) (stk := [(2, v0)]) (as := [(2, v0)]) (P := (fun v9 => [])) (tg := 3) (My := M_Nb_needGraph) (mRunV (as := []) (st := []) d_Nb_shortest_11 (mc_Nb_needGraph (by decide)) rfl (mv_Nb_needGraph tb_ml_Nb_260) rfl (Nat.le_of_ble_eq_true rfl) ha) (fun v => rfl) rfl hr (fun r1 h1 => t_Nb_needGraph _ _ _ h1) (fun x6 h5 hr => ?_)
  refine j_aload_n (pc := 14) d_Nb_shortest_14 rfl ?_
  refine j_getf (pc := 15) d_Nb_shortest_15 (fd_Nb_61 rfl) hr (fun hr => ?_)
  refine j_aload_n (pc := 18) d_Nb_shortest_18 rfl ?_
  refine j_getf (pc := 19) d_Nb_shortest_19 (fd_Nb_48 rfl) hr (fun hr => ?_)
  refine j_iload_n (pc := 22) d_Nb_shortest_22 rfl ?_
  obtain ⟨ha, hr⟩ := chk_some hr
  refine j_callG (pc := 23) (stk := [(0, v2), (2, hpV h5 v0 10), (2, hpV h5 v0 12)]) (as := [(2, hpV h5 v0 12), (2, hpV h5 v0 10), (0, v2)]) (P := (fun v9 => [])) (tg := 3) (My := M_Paths_seek) (mRunV (as := [(2, hpV h5 v0 10), (0, v2)]) (st := []) d_Nb_shortest_23 (mc_Paths_seek (by decide)) rfl (mv_Paths_seek tb_ml_Nb_266) rfl (Nat.le_of_ble_eq_true rfl) ha) (fun v => rfl) rfl hr (fun r1 h1 => t_Paths_seek _ _ _ _ _ h1) (fun x8 h7 hr => ?_)
  refine j_aload_n (pc := 26) d_Nb_shortest_26 rfl ?_
  refine j_getf (pc := 27) d_Nb_shortest_27 (fd_Nb_61 rfl) hr (fun hr => ?_)
  refine j_aload_n (pc := 30) d_Nb_shortest_30 rfl ?_
  refine j_getf (pc := 31) d_Nb_shortest_31 (fd_Nb_48 rfl) hr (fun hr => ?_)
  refine j_iload_n (pc := 34) d_Nb_shortest_34 rfl ?_
  refine j_iload_n (pc := 35) d_Nb_shortest_35 rfl ?_
  obtain ⟨ha, hr⟩ := chk_some hr
  refine j_callG (pc := 36) (stk := [(0, v3), (0, v1), (2, hpV h7 v0 10), (2, hpV h7 v0 12)]) (as := [(2, hpV h7 v0 12), (2, hpV h7 v0 10), (0, v1), (0, v3)]) (P := (fun v9 => ((0 : Nat), v9) :: [])) (tg := 0) (My := M_Paths_lineOf) (mRunV (as := [(2, hpV h7 v0 10), (0, v1), (0, v3)]) (st := []) d_Nb_shortest_36 (mc_Paths_lineOf (by decide)) rfl (mv_Paths_lineOf tb_ml_Nb_270) rfl (Nat.le_of_ble_eq_true rfl) ha) (fun v => rfl) rfl hr (fun r1 h1 => t_Paths_lineOf _ _ _ _ _ _ h1) (fun x10 h9 hr => ?_)
  exact j_iret (pc := 39) d_Nb_shortest_39 rfl hr
def M_Nb_toOpen : mM := ("NineBars", ⟨"NineBars", "toOpen", "()LNineBars$Paths;"⟩, prog_1_method_57_code, 1, some (.object "NineBars$Paths"), [], 9)
theorem tb_co_Nb_toOpen : mTB (Cond.code ⟨"NineBars", "toOpen", "()LNineBars$Paths;"⟩ prog_1_method_57_code 1 (some (.object "NineBars$Paths"))) := tbq5 37 (by decide +kernel) rfl
theorem mc_Nb_toOpen {M : mM} (hd : 9 < mDp M) : mCal M M_Nb_toOpen 0 := ⟨tb_co_Nb_toOpen, tb_in_NineBars, ⟨by decide +kernel, by decide +kernel⟩, by decide +kernel, hd, by decide⟩
theorem d_Nb_toOpen_0 : decode prog_1_method_57_code 0 = .ok (.aload_n 0, 1) := by decide +kernel
theorem d_Nb_toOpen_1 : decode prog_1_method_57_code 1 = .ok (.getfield 61, 3) := by decide +kernel
theorem d_Nb_toOpen_4 : decode prog_1_method_57_code 4 = .ok (.aload_n 0, 1) := by decide +kernel
theorem d_Nb_toOpen_5 : decode prog_1_method_57_code 5 = .ok (.getfield 48, 3) := by decide +kernel
theorem d_Nb_toOpen_8 : decode prog_1_method_57_code 8 = .ok (.aload_n 0, 1) := by decide +kernel
theorem d_Nb_toOpen_9 : decode prog_1_method_57_code 9 = .ok (.getfield 48, 3) := by decide +kernel
theorem tb_fl_Nb_387 : mTN (Cond.fieldLinkNest "NineBars" 387 "NineBars$Graph" "openStand" "I" "NineBars") := tbqn1 210 (by decide +kernel) rfl
theorem fd_Nb_387 {M : mM} (h : mO M = "NineBars") : mFld M 387 4 4 0 := ⟨_, _, _, tyX4, rfl, by decide, by decide, rfl, uw_4, tyX4_ok, nmX4, by rw [h]; exact Or.inr ⟨_, tb_fl_Nb_387⟩⟩
theorem d_Nb_toOpen_12 : decode prog_1_method_57_code 12 = .ok (.getfield 387, 3) := by decide +kernel
theorem d_Nb_toOpen_15 : decode prog_1_method_57_code 15 = .ok (.invokevirtual 266, 3) := by decide +kernel
theorem d_Nb_toOpen_18 : decode prog_1_method_57_code 18 = .ok (.aload_n 0, 1) := by decide +kernel
theorem d_Nb_toOpen_19 : decode prog_1_method_57_code 19 = .ok (.getfield 61, 3) := by decide +kernel
theorem d_Nb_toOpen_22 : decode prog_1_method_57_code 22 = .ok (.areturn, 1) := by decide +kernel
theorem t_Nb_toOpen {G : mG} (h : mH) (v0 : Int) (r : mR) (hr : f_Nb_toOpen h v0 = some r) : mJM G M_Nb_toOpen [(2, v0)] h r := by
  refine mJM_of (L := [(2, v0)]) rfl rfl rfl (Nat.le_of_ble_eq_true rfl) ?_
  unfold f_Nb_toOpen at hr
  refine j_aload_n (pc := 0) d_Nb_toOpen_0 rfl ?_
  refine j_getf (pc := 1) d_Nb_toOpen_1 (fd_Nb_61 rfl) hr (fun hr => ?_)
  refine j_aload_n (pc := 4) d_Nb_toOpen_4 rfl ?_
  refine j_getf (pc := 5) d_Nb_toOpen_5 (fd_Nb_48 rfl) hr (fun hr => ?_)
  refine j_aload_n (pc := 8) d_Nb_toOpen_8 rfl ?_
  refine j_getf (pc := 9) d_Nb_toOpen_9 (fd_Nb_48 rfl) hr (fun hr => ?_)
  refine j_getf (pc := 12) d_Nb_toOpen_12 (fd_Nb_387 rfl) hr (fun hr => ?_)
  obtain ⟨ha, hr⟩ := chk_some hr
  refine j_callG (pc := 15) (stk := [(0, hpV h (hpV h v0 10) 4), (2, hpV h v0 10), (2, hpV h v0 12)]) (as := [(2, hpV h v0 12), (2, hpV h v0 10), (0, hpV h (hpV h v0 10) 4)]) (P := (fun v9 => [])) (tg := 3) (My := M_Paths_seek) (mRunV (as := [(2, hpV h v0 10), (0, hpV h (hpV h v0 10) 4)]) (st := []) d_Nb_toOpen_15 (mc_Paths_seek (by decide)) rfl (mv_Paths_seek tb_ml_Nb_266) rfl (Nat.le_of_ble_eq_true rfl) ha) (fun v => rfl) rfl hr (fun r1 h1 => t_Paths_seek _ _ _ _ _ h1) (fun x2 h1 hr => ?_)
  refine j_aload_n (pc := 18) d_Nb_toOpen_18 rfl ?_
  refine j_getf (pc := 19) d_Nb_toOpen_19 (fd_Nb_61 rfl) hr (fun hr => ?_)
  exact j_aret (pc := 22) d_Nb_toOpen_22 rfl (Or.inl ⟨_, rfl⟩) hr
def M_Nb_opening : mM := ("NineBars", ⟨"NineBars", "opening", "(I)I"⟩, prog_1_method_19_code, 2, some .int, [], 13)
theorem tb_co_Nb_opening : mTB (Cond.code ⟨"NineBars", "opening", "(I)I"⟩ prog_1_method_19_code 2 (some .int)) := tbq5 33 (by decide +kernel) rfl
theorem mc_Nb_opening {M : mM} (hd : 13 < mDp M) : mCal M M_Nb_opening 1 := ⟨tb_co_Nb_opening, tb_in_NineBars, ⟨by decide +kernel, by decide +kernel⟩, by decide +kernel, hd, by decide⟩
theorem d_Nb_opening_0 : decode prog_1_method_19_code 0 = .ok (.aload_n 0, 1) := by decide +kernel
theorem d_Nb_opening_1 : decode prog_1_method_19_code 1 = .ok (.invokevirtual 260, 3) := by decide +kernel
theorem d_Nb_opening_4 : decode prog_1_method_19_code 4 = .ok (.aload_n 0, 1) := by decide +kernel
theorem d_Nb_opening_5 : decode prog_1_method_19_code 5 = .ok (.invokevirtual 274, 3) := by decide +kernel
theorem tb_ml_Nb_274 : mTB (Cond.methodLink "NineBars" 274 ⟨"NineBars", "toOpen", "()LNineBars$Paths;"⟩) := tbq5 34 (by decide +kernel) rfl
theorem tb_im_Nb_toOpen : mTB (Cond.instanceMethod ⟨"NineBars", "toOpen", "()LNineBars$Paths;"⟩) := tbq5 36 (by decide +kernel) rfl
theorem tb_se_Nb_toOpen : mTB (Cond.selects "NineBars" ⟨"NineBars", "toOpen", "()LNineBars$Paths;"⟩ ⟨"NineBars", "toOpen", "()LNineBars$Paths;"⟩) := tbqp 26 (by decide +kernel) rfl
theorem mv_Nb_toOpen {M : mM} {idx : Nat} (h : mTB (Cond.methodLink (mO M) idx ⟨"NineBars", "toOpen", "()LNineBars$Paths;"⟩)) : mCaV M M_Nb_toOpen idx 10 := ⟨h, tb_im_Nb_toOpen, tb_se_Nb_toOpen, by decide, TX10, 19, rfl⟩
theorem d_Nb_opening_8 : decode prog_1_method_19_code 8 = .ok (.aload_n 0, 1) := by decide +kernel
theorem d_Nb_opening_9 : decode prog_1_method_19_code 9 = .ok (.getfield 48, 3) := by decide +kernel
theorem d_Nb_opening_12 : decode prog_1_method_19_code 12 = .ok (.aload_n 0, 1) := by decide +kernel
theorem d_Nb_opening_13 : decode prog_1_method_19_code 13 = .ok (.getfield 27, 3) := by decide +kernel
theorem d_Nb_opening_16 : decode prog_1_method_19_code 16 = .ok (.aload_n 0, 1) := by decide +kernel
theorem d_Nb_opening_17 : decode prog_1_method_19_code 17 = .ok (.getfield 27, 3) := by decide +kernel
theorem d_Nb_opening_20 : decode prog_1_method_19_code 20 = .ok (.getfield 149, 3) := by decide +kernel
theorem d_Nb_opening_23 : decode prog_1_method_19_code 23 = .ok (.invokevirtual 198, 3) := by decide +kernel
theorem d_Nb_opening_26 : decode prog_1_method_19_code 26 = .ok (.iload_n 1, 1) := by decide +kernel
theorem d_Nb_opening_27 : decode prog_1_method_19_code 27 = .ok (.invokevirtual 270, 3) := by decide +kernel
theorem d_Nb_opening_30 : decode prog_1_method_19_code 30 = .ok (.ireturn, 1) := by decide +kernel
theorem t_Nb_opening {G : mG} (h : mH) (v0 v1 : Int) (r : mR) (hr : f_Nb_opening h v0 v1 = some r) : mJM G M_Nb_opening [(2, v0), (0, v1)] h r := by
  refine mJM_of (L := [(2, v0), (0, v1)]) rfl rfl rfl (Nat.le_of_ble_eq_true rfl) ?_
  unfold f_Nb_opening at hr
  refine j_aload_n (pc := 0) d_Nb_opening_0 rfl ?_
  obtain ⟨ha, hr⟩ := chk_some hr
  refine j_callG (pc := 1) (stk := [(2, v0)]) (as := [(2, v0)]) (P := (fun v9 => [])) (tg := 3) (My := M_Nb_needGraph) (mRunV (as := []) (st := []) d_Nb_opening_1 (mc_Nb_needGraph (by decide)) rfl (mv_Nb_needGraph tb_ml_Nb_260) rfl (Nat.le_of_ble_eq_true rfl) ha) (fun v => rfl) rfl hr (fun r1 h1 => t_Nb_needGraph _ _ _ h1) (fun x2 h1 hr => ?_)
  refine j_aload_n (pc := 4) d_Nb_opening_4 rfl ?_
  obtain ⟨ha, hr⟩ := chk_some hr
  refine j_callG (pc := 5) (stk := [(2, v0)]) (as := [(2, v0)]) (P := (fun v9 => ((2 : Nat), v9) :: [])) (tg := 2) (My := M_Nb_toOpen) (mRunV (as := []) (st := []) d_Nb_opening_5 (mc_Nb_toOpen (by decide)) rfl (mv_Nb_toOpen tb_ml_Nb_274) rfl (Nat.le_of_ble_eq_true rfl) ha) (fun v => rfl) rfl hr (fun r1 h1 => t_Nb_toOpen _ _ _ h1) (fun x4 h3 hr => ?_)
  refine j_aload_n (pc := 8) d_Nb_opening_8 rfl ?_
  refine j_getf (pc := 9) d_Nb_opening_9 (fd_Nb_48 rfl) hr (fun hr => ?_)
  refine j_aload_n (pc := 12) d_Nb_opening_12 rfl ?_
  refine j_getf (pc := 13) d_Nb_opening_13 (fd_Nb_27 rfl) hr (fun hr => ?_)
  refine j_aload_n (pc := 16) d_Nb_opening_16 rfl ?_
  refine j_getf (pc := 17) d_Nb_opening_17 (fd_Nb_27 rfl) hr (fun hr => ?_)
  refine j_getf (pc := 20) d_Nb_opening_20 (fd_Nb_149 rfl) hr (fun hr => ?_)
  obtain ⟨ha, hr⟩ := chk_some hr
  refine j_callG (pc := 23) (stk := [(2, hpV h3 (hpV h3 v0 6) 9), (2, hpV h3 v0 6), (2, hpV h3 v0 10), (2, x4)]) (as := [(2, hpV h3 v0 6), (2, hpV h3 (hpV h3 v0 6) 9)]) (P := (fun v9 => ((0 : Nat), v9) :: [(2, hpV h3 v0 10), (2, x4)])) (tg := 0) (My := M_Box_standOf) (mRunV (as := [(2, hpV h3 (hpV h3 v0 6) 9)]) (st := [(2, hpV h3 v0 10), (2, x4)]) d_Nb_opening_23 (mc_Box_standOf (by decide)) rfl (mv_Box_standOf tb_ml_Nb_198) rfl (Nat.le_of_ble_eq_true rfl) ha) (fun v => rfl) rfl hr (fun r1 h1 => t_Box_standOf _ _ _ _ h1) (fun x6 h5 hr => ?_)
  refine j_iload_n (pc := 26) d_Nb_opening_26 rfl ?_
  obtain ⟨ha, hr⟩ := chk_some hr
  refine j_callG (pc := 27) (stk := [(0, v1), (0, x6), (2, hpV h3 v0 10), (2, x4)]) (as := [(2, x4), (2, hpV h3 v0 10), (0, x6), (0, v1)]) (P := (fun v9 => ((0 : Nat), v9) :: [])) (tg := 0) (My := M_Paths_lineOf) (mRunV (as := [(2, hpV h3 v0 10), (0, x6), (0, v1)]) (st := []) d_Nb_opening_27 (mc_Paths_lineOf (by decide)) rfl (mv_Paths_lineOf tb_ml_Nb_270) rfl (Nat.le_of_ble_eq_true rfl) ha) (fun v => rfl) rfl hr (fun r1 h1 => t_Paths_lineOf _ _ _ _ _ _ h1) (fun x8 h7 hr => ?_)
  exact j_iret (pc := 30) d_Nb_opening_30 rfl hr
