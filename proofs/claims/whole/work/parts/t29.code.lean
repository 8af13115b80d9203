def M_Game_settle : mM := ("NineBars$Game", ⟨"NineBars$Game", "settle", "(II)V"⟩, prog_5_method_5_code, 3, none, [], 1)
theorem tb_co_Game_settle : mTB (Cond.code ⟨"NineBars$Game", "settle", "(II)V"⟩ prog_5_method_5_code 3 (none)) := tbq6 116 (by decide +kernel) rfl
theorem mc_Game_settle {M : mM} (hd : 1 < mDp M) : mCal M M_Game_settle 2 := ⟨tb_co_Game_settle, tb_in_NineBars_Game, ⟨by decide +kernel, by decide +kernel⟩, by decide +kernel, hd, by decide⟩
theorem d_Game_settle_0 : decode prog_5_method_5_code 0 = .ok (.iload_n 1, 1) := by decide +kernel
theorem d_Game_settle_1 : decode prog_5_method_5_code 1 = .ok (.ifCond .lt 61, 3) := by decide +kernel
theorem d_Game_settle_62 : decode prog_5_method_5_code 62 = .ok (.return_, 1) := by decide +kernel
theorem d_Game_settle_4 : decode prog_5_method_5_code 4 = .ok (.iload_n 1, 1) := by decide +kernel
theorem d_Game_settle_5 : decode prog_5_method_5_code 5 = .ok (.aload_n 0, 1) := by decide +kernel
theorem d_Game_settle_6 : decode prog_5_method_5_code 6 = .ok (.getfield 9, 3) := by decide +kernel
theorem d_Game_settle_9 : decode prog_5_method_5_code 9 = .ok (.arraylength, 1) := by decide +kernel
theorem d_Game_settle_10 : decode prog_5_method_5_code 10 = .ok (.if_icmp .ge 52, 3) := by decide +kernel
theorem d_Game_settle_13 : decode prog_5_method_5_code 13 = .ok (.aload_n 0, 1) := by decide +kernel
theorem d_Game_settle_14 : decode prog_5_method_5_code 14 = .ok (.getfield 9, 3) := by decide +kernel
theorem d_Game_settle_17 : decode prog_5_method_5_code 17 = .ok (.iload_n 1, 1) := by decide +kernel
theorem d_Game_settle_18 : decode prog_5_method_5_code 18 = .ok (.iaload, 1) := by decide +kernel
theorem d_Game_settle_19 : decode prog_5_method_5_code 19 = .ok (.iconst (-1), 1) := by decide +kernel
theorem d_Game_settle_20 : decode prog_5_method_5_code 20 = .ok (.if_icmp .ne 42, 3) := by decide +kernel
theorem d_Game_settle_23 : decode prog_5_method_5_code 23 = .ok (.aload_n 0, 1) := by decide +kernel
theorem d_Game_settle_24 : decode prog_5_method_5_code 24 = .ok (.getfield 35, 3) := by decide +kernel
theorem d_Game_settle_27 : decode prog_5_method_5_code 27 = .ok (.aload_n 0, 1) := by decide +kernel
theorem d_Game_settle_28 : decode prog_5_method_5_code 28 = .ok (.getfield 18, 3) := by decide +kernel
theorem d_Game_settle_31 : decode prog_5_method_5_code 31 = .ok (.arraylength, 1) := by decide +kernel
theorem d_Game_settle_32 : decode prog_5_method_5_code 32 = .ok (.if_icmp .ge 30, 3) := by decide +kernel
theorem d_Game_settle_35 : decode prog_5_method_5_code 35 = .ok (.aload_n 0, 1) := by decide +kernel
theorem d_Game_settle_36 : decode prog_5_method_5_code 36 = .ok (.getfield 9, 3) := by decide +kernel
theorem d_Game_settle_39 : decode prog_5_method_5_code 39 = .ok (.iload_n 1, 1) := by decide +kernel
theorem d_Game_settle_40 : decode prog_5_method_5_code 40 = .ok (.iload_n 2, 1) := by decide +kernel
theorem d_Game_settle_41 : decode prog_5_method_5_code 41 = .ok (.iastore, 1) := by decide +kernel
theorem d_Game_settle_42 : decode prog_5_method_5_code 42 = .ok (.aload_n 0, 1) := by decide +kernel
theorem d_Game_settle_43 : decode prog_5_method_5_code 43 = .ok (.getfield 18, 3) := by decide +kernel
theorem d_Game_settle_46 : decode prog_5_method_5_code 46 = .ok (.aload_n 0, 1) := by decide +kernel
theorem d_Game_settle_47 : decode prog_5_method_5_code 47 = .ok (.getfield 35, 3) := by decide +kernel
theorem d_Game_settle_50 : decode prog_5_method_5_code 50 = .ok (.iload_n 1, 1) := by decide +kernel
theorem d_Game_settle_51 : decode prog_5_method_5_code 51 = .ok (.iastore, 1) := by decide +kernel
theorem d_Game_settle_52 : decode prog_5_method_5_code 52 = .ok (.aload_n 0, 1) := by decide +kernel
theorem d_Game_settle_53 : decode prog_5_method_5_code 53 = .ok (.dup, 1) := by decide +kernel
theorem d_Game_settle_54 : decode prog_5_method_5_code 54 = .ok (.getfield 35, 3) := by decide +kernel
theorem d_Game_settle_57 : decode prog_5_method_5_code 57 = .ok (.iconst 1, 1) := by decide +kernel
theorem d_Game_settle_58 : decode prog_5_method_5_code 58 = .ok (.iadd, 1) := by decide +kernel
theorem d_Game_settle_59 : decode prog_5_method_5_code 59 = .ok (.putfield 35, 3) := by decide +kernel
theorem t_Game_settle {G : mG} (h : mH) (v0 v1 v2 : Int) (r : mR) (hr : f_Game_settle h v0 v1 v2 = some r) : mJM G M_Game_settle [(2, v0), (0, v1), (0, v2)] h r := by
  refine mJM_of (L := [(2, v0), (0, v1), (0, v2)]) rfl rfl rfl (Nat.le_of_ble_eq_true rfl) ?_
  unfold f_Game_settle at hr
  refine j_iload_n (pc := 0) d_Game_settle_0 rfl ?_
  refine j_if_lt (pc := 1) (tgt := 62) d_Game_settle_1 hr (fun hr => ?_) (fun hr => ?_)
  · exact j_vret (pc := 62) d_Game_settle_62 rfl hr
  · refine j_iload_n (pc := 4) d_Game_settle_4 rfl ?_
    refine j_aload_n (pc := 5) d_Game_settle_5 rfl ?_
    refine j_getf (pc := 6) d_Game_settle_6 (fd_Game_9 rfl) hr (fun hr => ?_)
    refine j_alen (pc := 9) d_Game_settle_9 hr (fun hr => ?_)
    refine j_icmp_ge (pc := 10) (tgt := 62) d_Game_settle_10 hr (fun hr => ?_) (fun hr => ?_)
    · exact j_vret (pc := 62) d_Game_settle_62 rfl hr
    · refine j_aload_n (pc := 13) d_Game_settle_13 rfl ?_
      refine j_getf (pc := 14) d_Game_settle_14 (fd_Game_9 rfl) hr (fun hr => ?_)
      refine j_iload_n (pc := 17) d_Game_settle_17 rfl ?_
      refine j_iaload (pc := 18) d_Game_settle_18 hr (fun hr => ?_)
      refine j_iconst (pc := 19) d_Game_settle_19 ?_
      refine j_icmp_ne (pc := 20) (tgt := 62) d_Game_settle_20 hr (fun hr => ?_) (fun hr => ?_)
      · exact j_vret (pc := 62) d_Game_settle_62 rfl hr
      · refine j_aload_n (pc := 23) d_Game_settle_23 rfl ?_
        refine j_getf (pc := 24) d_Game_settle_24 (fd_Game_35 rfl) hr (fun hr => ?_)
        refine j_aload_n (pc := 27) d_Game_settle_27 rfl ?_
        refine j_getf (pc := 28) d_Game_settle_28 (fd_Game_18 rfl) hr (fun hr => ?_)
        refine j_alen (pc := 31) d_Game_settle_31 hr (fun hr => ?_)
        refine j_icmp_ge (pc := 32) (tgt := 62) d_Game_settle_32 hr (fun hr => ?_) (fun hr => ?_)
        · exact j_vret (pc := 62) d_Game_settle_62 rfl hr
        · refine j_aload_n (pc := 35) d_Game_settle_35 rfl ?_
          refine j_getf (pc := 36) d_Game_settle_36 (fd_Game_9 rfl) hr (fun hr => ?_)
          refine j_iload_n (pc := 39) d_Game_settle_39 rfl ?_
          refine j_iload_n (pc := 40) d_Game_settle_40 rfl ?_
          refine j_iastore (pc := 41) d_Game_settle_41 hr (fun h1 hr => ?_)
          refine j_aload_n (pc := 42) d_Game_settle_42 rfl ?_
          refine j_getf (pc := 43) d_Game_settle_43 (fd_Game_18 rfl) hr (fun hr => ?_)
          refine j_aload_n (pc := 46) d_Game_settle_46 rfl ?_
          refine j_getf (pc := 47) d_Game_settle_47 (fd_Game_35 rfl) hr (fun hr => ?_)
          refine j_iload_n (pc := 50) d_Game_settle_50 rfl ?_
          refine j_iastore (pc := 51) d_Game_settle_51 hr (fun h2 hr => ?_)
          refine j_aload_n (pc := 52) d_Game_settle_52 rfl ?_
          refine j_dup (pc := 53) d_Game_settle_53 ?_
          refine j_getf (pc := 54) d_Game_settle_54 (fd_Game_35 rfl) hr (fun hr => ?_)
          refine j_iconst (pc := 57) d_Game_settle_57 ?_
          refine j_iadd (pc := 58) d_Game_settle_58 ?_
          refine j_puti (pc := 59) d_Game_settle_59 (fd_Game_35 rfl) (⟨_, _, _, rfl, Or.inl rfl, rfl⟩ : mFldW M_Game_settle 35 3 3 .int) hr (fun h3 hr => ?_)
          exact j_vret (pc := 62) d_Game_settle_62 rfl hr
def M_Game_isLastOf : mM := ("NineBars$Game", ⟨"NineBars$Game", "isLastOf", "(I)Z"⟩, prog_5_method_7_code, 2, some .boolean, [], 1)
theorem tb_co_Game_isLastOf : mTB (Cond.code ⟨"NineBars$Game", "isLastOf", "(I)Z"⟩ prog_5_method_7_code 2 (some .boolean)) := tbq6 129 (by decide +kernel) rfl
theorem mc_Game_isLastOf {M : mM} (hd : 1 < mDp M) : mCal M M_Game_isLastOf 1 := ⟨tb_co_Game_isLastOf, tb_in_NineBars_Game, ⟨by decide +kernel, by decide +kernel⟩, by decide +kernel, hd, by decide⟩
theorem d_Game_isLastOf_0 : decode prog_5_method_7_code 0 = .ok (.iload_n 1, 1) := by decide +kernel
theorem d_Game_isLastOf_1 : decode prog_5_method_7_code 1 = .ok (.ifCond .lt 12, 3) := by decide +kernel
theorem d_Game_isLastOf_13 : decode prog_5_method_7_code 13 = .ok (.iconst 0, 1) := by decide +kernel
theorem d_Game_isLastOf_14 : decode prog_5_method_7_code 14 = .ok (.ireturn, 1) := by decide +kernel
theorem d_Game_isLastOf_4 : decode prog_5_method_7_code 4 = .ok (.iload_n 1, 1) := by decide +kernel
theorem d_Game_isLastOf_5 : decode prog_5_method_7_code 5 = .ok (.aload_n 0, 1) := by decide +kernel
theorem d_Game_isLastOf_6 : decode prog_5_method_7_code 6 = .ok (.getfield 15, 3) := by decide +kernel
theorem d_Game_isLastOf_9 : decode prog_5_method_7_code 9 = .ok (.arraylength, 1) := by decide +kernel
theorem d_Game_isLastOf_10 : decode prog_5_method_7_code 10 = .ok (.if_icmp .lt 5, 3) := by decide +kernel
theorem d_Game_isLastOf_15 : decode prog_5_method_7_code 15 = .ok (.aload_n 0, 1) := by decide +kernel
theorem d_Game_isLastOf_16 : decode prog_5_method_7_code 16 = .ok (.getfield 15, 3) := by decide +kernel
theorem d_Game_isLastOf_19 : decode prog_5_method_7_code 19 = .ok (.iload_n 1, 1) := by decide +kernel
theorem d_Game_isLastOf_20 : decode prog_5_method_7_code 20 = .ok (.dup2, 1) := by decide +kernel
theorem d_Game_isLastOf_21 : decode prog_5_method_7_code 21 = .ok (.iaload, 1) := by decide +kernel
theorem d_Game_isLastOf_22 : decode prog_5_method_7_code 22 = .ok (.iconst 1, 1) := by decide +kernel
theorem d_Game_isLastOf_23 : decode prog_5_method_7_code 23 = .ok (.isub, 1) := by decide +kernel
theorem d_Game_isLastOf_24 : decode prog_5_method_7_code 24 = .ok (.iastore, 1) := by decide +kernel
theorem d_Game_isLastOf_25 : decode prog_5_method_7_code 25 = .ok (.aload_n 0, 1) := by decide +kernel
theorem d_Game_isLastOf_26 : decode prog_5_method_7_code 26 = .ok (.getfield 15, 3) := by decide +kernel
theorem d_Game_isLastOf_29 : decode prog_5_method_7_code 29 = .ok (.iload_n 1, 1) := by decide +kernel
theorem d_Game_isLastOf_30 : decode prog_5_method_7_code 30 = .ok (.iaload, 1) := by decide +kernel
theorem d_Game_isLastOf_31 : decode prog_5_method_7_code 31 = .ok (.ifCond .ne 7, 3) := by decide +kernel
theorem d_Game_isLastOf_38 : decode prog_5_method_7_code 38 = .ok (.iconst 0, 1) := by decide +kernel
theorem d_Game_isLastOf_39 : decode prog_5_method_7_code 39 = .ok (.ireturn, 1) := by decide +kernel
theorem d_Game_isLastOf_34 : decode prog_5_method_7_code 34 = .ok (.iconst 1, 1) := by decide +kernel
theorem d_Game_isLastOf_35 : decode prog_5_method_7_code 35 = .ok (.goto 4, 3) := by decide +kernel
theorem t_Game_isLastOf {G : mG} (h : mH) (v0 v1 : Int) (r : mR) (hr : f_Game_isLastOf h v0 v1 = some r) : mJM G M_Game_isLastOf [(2, v0), (0, v1)] h r := by
  refine mJM_of (L := [(2, v0), (0, v1)]) rfl rfl rfl (Nat.le_of_ble_eq_true rfl) ?_
  unfold f_Game_isLastOf at hr
  refine j_iload_n (pc := 0) d_Game_isLastOf_0 rfl ?_
  refine j_if_lt (pc := 1) (tgt := 13) d_Game_isLastOf_1 hr (fun hr => ?_) (fun hr => ?_)
  · refine j_iconst (pc := 13) d_Game_isLastOf_13 ?_
    exact j_zret (pc := 14) d_Game_isLastOf_14 rfl hr
  · refine j_iload_n (pc := 4) d_Game_isLastOf_4 rfl ?_
    refine j_aload_n (pc := 5) d_Game_isLastOf_5 rfl ?_
    refine j_getf (pc := 6) d_Game_isLastOf_6 (fd_Game_15 rfl) hr (fun hr => ?_)
    refine j_alen (pc := 9) d_Game_isLastOf_9 hr (fun hr => ?_)
    refine j_icmp_lt (pc := 10) (tgt := 15) d_Game_isLastOf_10 hr (fun hr => ?_) (fun hr => ?_)
    · refine j_aload_n (pc := 15) d_Game_isLastOf_15 rfl ?_
      refine j_getf (pc := 16) d_Game_isLastOf_16 (fd_Game_15 rfl) hr (fun hr => ?_)
      refine j_iload_n (pc := 19) d_Game_isLastOf_19 rfl ?_
      refine j_dup2 (pc := 20) d_Game_isLastOf_20 ?_
      refine j_iaload (pc := 21) d_Game_isLastOf_21 hr (fun hr => ?_)
      refine j_iconst (pc := 22) d_Game_isLastOf_22 ?_
      refine j_isub (pc := 23) d_Game_isLastOf_23 ?_
      refine j_iastore (pc := 24) d_Game_isLastOf_24 hr (fun h1 hr => ?_)
      refine j_aload_n (pc := 25) d_Game_isLastOf_25 rfl ?_
      refine j_getf (pc := 26) d_Game_isLastOf_26 (fd_Game_15 rfl) hr (fun hr => ?_)
      refine j_iload_n (pc := 29) d_Game_isLastOf_29 rfl ?_
      refine j_iaload (pc := 30) d_Game_isLastOf_30 hr (fun hr => ?_)
      refine j_if_ne (pc := 31) (tgt := 38) d_Game_isLastOf_31 hr (fun hr => ?_) (fun hr => ?_)
      · refine j_iconst (pc := 38) d_Game_isLastOf_38 ?_
        exact j_zret (pc := 39) d_Game_isLastOf_39 rfl hr
      · refine j_iconst (pc := 34) d_Game_isLastOf_34 ?_
        refine j_goto (pc := 35) (tgt := 39) d_Game_isLastOf_35 ?_
        exact j_zret (pc := 39) d_Game_isLastOf_39 rfl hr
    · refine j_iconst (pc := 13) d_Game_isLastOf_13 ?_
      exact j_zret (pc := 14) d_Game_isLastOf_14 rfl hr
def M_Game_turnsOf : mM := ("NineBars$Game", ⟨"NineBars$Game", "turnsOf", "(I)I"⟩, prog_5_method_4_code, 2, some .int, [], 1)
theorem tb_co_Game_turnsOf : mTB (Cond.code ⟨"NineBars$Game", "turnsOf", "(I)I"⟩ prog_5_method_4_code 2 (some .int)) := tbq6 120 (by decide +kernel) rfl
theorem mc_Game_turnsOf {M : mM} (hd : 1 < mDp M) : mCal M M_Game_turnsOf 1 := ⟨tb_co_Game_turnsOf, tb_in_NineBars_Game, ⟨by decide +kernel, by decide +kernel⟩, by decide +kernel, hd, by decide⟩
theorem d_Game_turnsOf_0 : decode prog_5_method_4_code 0 = .ok (.iload_n 1, 1) := by decide +kernel
theorem d_Game_turnsOf_1 : decode prog_5_method_4_code 1 = .ok (.ifCond .lt 21, 3) := by decide +kernel
theorem d_Game_turnsOf_22 : decode prog_5_method_4_code 22 = .ok (.iconst (-1), 1) := by decide +kernel
theorem d_Game_turnsOf_23 : decode prog_5_method_4_code 23 = .ok (.ireturn, 1) := by decide +kernel
theorem d_Game_turnsOf_4 : decode prog_5_method_4_code 4 = .ok (.iload_n 1, 1) := by decide +kernel
theorem d_Game_turnsOf_5 : decode prog_5_method_4_code 5 = .ok (.aload_n 0, 1) := by decide +kernel
theorem d_Game_turnsOf_6 : decode prog_5_method_4_code 6 = .ok (.getfield 9, 3) := by decide +kernel
theorem d_Game_turnsOf_9 : decode prog_5_method_4_code 9 = .ok (.arraylength, 1) := by decide +kernel
theorem d_Game_turnsOf_10 : decode prog_5_method_4_code 10 = .ok (.if_icmp .ge 12, 3) := by decide +kernel
theorem d_Game_turnsOf_13 : decode prog_5_method_4_code 13 = .ok (.aload_n 0, 1) := by decide +kernel
theorem d_Game_turnsOf_14 : decode prog_5_method_4_code 14 = .ok (.getfield 9, 3) := by decide +kernel
theorem d_Game_turnsOf_17 : decode prog_5_method_4_code 17 = .ok (.iload_n 1, 1) := by decide +kernel
theorem d_Game_turnsOf_18 : decode prog_5_method_4_code 18 = .ok (.iaload, 1) := by decide +kernel
theorem d_Game_turnsOf_19 : decode prog_5_method_4_code 19 = .ok (.goto 4, 3) := by decide +kernel
theorem t_Game_turnsOf_J22 {G : mG} {r : mR} {h : mH}  (hr : f_Game_turnsOf_J22 h = some r) : mJ G M_Game_turnsOf 22 [(9, 0), (9, 0)] [] h r := by
  unfold f_Game_turnsOf_J22 at hr
  refine j_iconst (pc := 22) d_Game_turnsOf_22 ?_
  exact j_iret (pc := 23) d_Game_turnsOf_23 rfl hr
theorem t_Game_turnsOf {G : mG} (h : mH) (v0 v1 : Int) (r : mR) (hr : f_Game_turnsOf h v0 v1 = some r) : mJM G M_Game_turnsOf [(2, v0), (0, v1)] h r := by
  refine mJM_of (L := [(2, v0), (0, v1)]) rfl rfl rfl (Nat.le_of_ble_eq_true rfl) ?_
  unfold f_Game_turnsOf at hr
  refine j_iload_n (pc := 0) d_Game_turnsOf_0 rfl ?_
  refine j_if_lt (pc := 1) (tgt := 22) d_Game_turnsOf_1 hr (fun hr => ?_) (fun hr => ?_)
  · exact mJ_weak (ls' := [(9, 0), (9, 0)]) (mwk_d (mwk_d mwk_n)) (t_Game_turnsOf_J22  hr)
  · refine j_iload_n (pc := 4) d_Game_turnsOf_4 rfl ?_
    refine j_aload_n (pc := 5) d_Game_turnsOf_5 rfl ?_
    refine j_getf (pc := 6) d_Game_turnsOf_6 (fd_Game_9 rfl) hr (fun hr => ?_)
    refine j_alen (pc := 9) d_Game_turnsOf_9 hr (fun hr => ?_)
    refine j_icmp_ge (pc := 10) (tgt := 22) d_Game_turnsOf_10 hr (fun hr => ?_) (fun hr => ?_)
    · exact mJ_weak (ls' := [(9, 0), (9, 0)]) (mwk_d (mwk_d mwk_n)) (t_Game_turnsOf_J22  hr)
    · refine j_aload_n (pc := 13) d_Game_turnsOf_13 rfl ?_
      refine j_getf (pc := 14) d_Game_turnsOf_14 (fd_Game_9 rfl) hr (fun hr => ?_)
      refine j_iload_n (pc := 17) d_Game_turnsOf_17 rfl ?_
      refine j_iaload (pc := 18) d_Game_turnsOf_18 hr (fun hr => ?_)
      refine j_goto (pc := 19) (tgt := 23) d_Game_turnsOf_19 ?_
      exact j_iret (pc := 23) d_Game_turnsOf_23 rfl hr
def M_Game_settleAhead : mM := ("NineBars$Game", ⟨"NineBars$Game", "settleAhead", "(LNineBars$Graph;I)V"⟩, prog_5_method_6_code, 8, none, [], 5)
theorem tb_co_Game_settleAhead : mTB (Cond.code ⟨"NineBars$Game", "settleAhead", "(LNineBars$Graph;I)V"⟩ prog_5_method_6_code 8 (none)) := tbq6 124 (by decide +kernel) rfl
theorem mc_Game_settleAhead {M : mM} (hd : 5 < mDp M) : mCal M M_Game_settleAhead 2 := ⟨tb_co_Game_settleAhead, tb_in_NineBars_Game, ⟨by decide +kernel, by decide +kernel⟩, by decide +kernel, hd, by decide⟩
theorem d_Game_settleAhead_0 : decode prog_5_method_6_code 0 = .ok (.iload_n 2, 1) := by decide +kernel
theorem d_Game_settleAhead_1 : decode prog_5_method_6_code 1 = .ok (.iconst 1, 1) := by decide +kernel
theorem d_Game_settleAhead_2 : decode prog_5_method_6_code 2 = .ok (.ishr, 1) := by decide +kernel
theorem d_Game_settleAhead_3 : decode prog_5_method_6_code 3 = .ok (.istore_n 3, 1) := by decide +kernel
theorem d_Game_settleAhead_4 : decode prog_5_method_6_code 4 = .ok (.aload_n 0, 1) := by decide +kernel
theorem d_Game_settleAhead_5 : decode prog_5_method_6_code 5 = .ok (.iload_n 2, 1) := by decide +kernel
theorem d_Game_settleAhead_6 : decode prog_5_method_6_code 6 = .ok (.invokevirtual 38, 3) := by decide +kernel
theorem tb_ml_Game_38 : mTB (Cond.methodLink "NineBars$Game" 38 ⟨"NineBars$Game", "turnsOf", "(I)I"⟩) := tbq6 117 (by decide +kernel) rfl
theorem tb_im_Game_turnsOf : mTB (Cond.instanceMethod ⟨"NineBars$Game", "turnsOf", "(I)I"⟩) := tbq6 119 (by decide +kernel) rfl
theorem tb_se_Game_turnsOf : mTB (Cond.selects "NineBars$Game" ⟨"NineBars$Game", "turnsOf", "(I)I"⟩ ⟨"NineBars$Game", "turnsOf", "(I)I"⟩) := tbqp 41 (by decide +kernel) rfl
theorem mv_Game_turnsOf {M : mM} {idx : Nat} (h : mTB (Cond.methodLink (mO M) idx ⟨"NineBars$Game", "turnsOf", "(I)I"⟩)) : mCaV M M_Game_turnsOf idx 3 := ⟨h, tb_im_Game_turnsOf, tb_se_Game_turnsOf, by decide, TX3, 4, rfl⟩
theorem d_Game_settleAhead_9 : decode prog_5_method_6_code 9 = .ok (.iconst 1, 1) := by decide +kernel
theorem d_Game_settleAhead_10 : decode prog_5_method_6_code 10 = .ok (.iadd, 1) := by decide +kernel
theorem d_Game_settleAhead_11 : decode prog_5_method_6_code 11 = .ok (.istore 4, 2) := by decide +kernel
theorem d_Game_settleAhead_13 : decode prog_5_method_6_code 13 = .ok (.iload_n 2, 1) := by decide +kernel
theorem d_Game_settleAhead_14 : decode prog_5_method_6_code 14 = .ok (.iconst 1, 1) := by decide +kernel
theorem d_Game_settleAhead_15 : decode prog_5_method_6_code 15 = .ok (.iand, 1) := by decide +kernel
theorem d_Game_settleAhead_16 : decode prog_5_method_6_code 16 = .ok (.ifCond .ne 7, 3) := by decide +kernel
theorem d_Game_settleAhead_23 : decode prog_5_method_6_code 23 = .ok (.iconst 0, 1) := by decide +kernel
theorem d_Game_settleAhead_24 : decode prog_5_method_6_code 24 = .ok (.istore 5, 2) := by decide +kernel
theorem d_Game_settleAhead_26 : decode prog_5_method_6_code 26 = .ok (.aload_n 1, 1) := by decide +kernel
theorem d_Game_settleAhead_27 : decode prog_5_method_6_code 27 = .ok (.iload_n 3, 1) := by decide +kernel
theorem d_Game_settleAhead_28 : decode prog_5_method_6_code 28 = .ok (.invokevirtual 54, 3) := by decide +kernel
theorem d_Game_settleAhead_31 : decode prog_5_method_6_code 31 = .ok (.ifCond .ne 12, 3) := by decide +kernel
theorem d_Game_settleAhead_43 : decode prog_5_method_6_code 43 = .ok (.iconst 0, 1) := by decide +kernel
theorem d_Game_settleAhead_44 : decode prog_5_method_6_code 44 = .ok (.istore 6, 2) := by decide +kernel
theorem d_Game_settleAhead_46 : decode prog_5_method_6_code 46 = .ok (.iload 6, 2) := by decide +kernel
theorem d_Game_settleAhead_48 : decode prog_5_method_6_code 48 = .ok (.aload_n 1, 1) := by decide +kernel
theorem tb_fl_Game_62 : mTN (Cond.fieldLinkNest "NineBars$Game" 62 "NineBars$Graph" "steps" "I" "NineBars") := tbqn1 203 (by decide +kernel) rfl
theorem fd_Game_62 {M : mM} (h : mO M = "NineBars$Game") : mFld M 62 4 3 0 := ⟨_, _, _, tyX4, rfl, by decide, by decide, rfl, uw_4, tyX4_ok, nmX4, by rw [h]; exact Or.inr ⟨_, tb_fl_Game_62⟩⟩
theorem d_Game_settleAhead_49 : decode prog_5_method_6_code 49 = .ok (.getfield 62, 3) := by decide +kernel
theorem d_Game_settleAhead_52 : decode prog_5_method_6_code 52 = .ok (.if_icmp .ge 73, 3) := by decide +kernel
theorem d_Game_settleAhead_125 : decode prog_5_method_6_code 125 = .ok (.return_, 1) := by decide +kernel
theorem d_Game_settleAhead_55 : decode prog_5_method_6_code 55 = .ok (.iload_n 3, 1) := by decide +kernel
theorem d_Game_settleAhead_56 : decode prog_5_method_6_code 56 = .ok (.aload_n 1, 1) := by decide +kernel
theorem tb_fl_Game_65 : mTN (Cond.fieldLinkNest "NineBars$Game" 65 "NineBars$Graph" "shift" "[I" "NineBars") := tbqn1 213 (by decide +kernel) rfl
theorem fd_Game_65 {M : mM} (h : mO M = "NineBars$Game") : mFld M 65 4 5 2 := ⟨_, _, _, tyX4, rfl, by decide, by decide, rfl, uw_4, tyX4_ok, nmX4, by rw [h]; exact Or.inr ⟨_, tb_fl_Game_65⟩⟩
theorem d_Game_settleAhead_57 : decode prog_5_method_6_code 57 = .ok (.getfield 65, 3) := by decide +kernel
theorem d_Game_settleAhead_60 : decode prog_5_method_6_code 60 = .ok (.iload 6, 2) := by decide +kernel
theorem d_Game_settleAhead_62 : decode prog_5_method_6_code 62 = .ok (.iaload, 1) := by decide +kernel
theorem d_Game_settleAhead_63 : decode prog_5_method_6_code 63 = .ok (.isub, 1) := by decide +kernel
theorem d_Game_settleAhead_64 : decode prog_5_method_6_code 64 = .ok (.istore 7, 2) := by decide +kernel
theorem d_Game_settleAhead_66 : decode prog_5_method_6_code 66 = .ok (.aload_n 1, 1) := by decide +kernel
theorem d_Game_settleAhead_67 : decode prog_5_method_6_code 67 = .ok (.iload 7, 2) := by decide +kernel
theorem d_Game_settleAhead_69 : decode prog_5_method_6_code 69 = .ok (.iload 6, 2) := by decide +kernel
theorem d_Game_settleAhead_71 : decode prog_5_method_6_code 71 = .ok (.invokevirtual 68, 3) := by decide +kernel
theorem tb_ml_Game_68 : mTB (Cond.methodLink "NineBars$Game" 68 ⟨"NineBars$Graph", "goesFrom", "(II)Z"⟩) := tbq6 125 (by decide +kernel) rfl
theorem d_Game_settleAhead_74 : decode prog_5_method_6_code 74 = .ok (.ifCond .ne 6, 3) := by decide +kernel
theorem d_Game_settleAhead_80 : decode prog_5_method_6_code 80 = .ok (.iload 5, 2) := by decide +kernel
theorem d_Game_settleAhead_82 : decode prog_5_method_6_code 82 = .ok (.ifCond .ne 16, 3) := by decide +kernel
theorem d_Game_settleAhead_98 : decode prog_5_method_6_code 98 = .ok (.aload_n 0, 1) := by decide +kernel
theorem d_Game_settleAhead_99 : decode prog_5_method_6_code 99 = .ok (.iload 7, 2) := by decide +kernel
theorem d_Game_settleAhead_101 : decode prog_5_method_6_code 101 = .ok (.invokevirtual 72, 3) := by decide +kernel
theorem tb_ml_Game_72 : mTB (Cond.methodLink "NineBars$Game" 72 ⟨"NineBars$Game", "isLastOf", "(I)Z"⟩) := tbq6 126 (by decide +kernel) rfl
theorem tb_im_Game_isLastOf : mTB (Cond.instanceMethod ⟨"NineBars$Game", "isLastOf", "(I)Z"⟩) := tbq6 128 (by decide +kernel) rfl
theorem tb_se_Game_isLastOf : mTB (Cond.selects "NineBars$Game" ⟨"NineBars$Game", "isLastOf", "(I)Z"⟩ ⟨"NineBars$Game", "isLastOf", "(I)Z"⟩) := tbqp 43 (by decide +kernel) rfl
theorem mv_Game_isLastOf {M : mM} {idx : Nat} (h : mTB (Cond.methodLink (mO M) idx ⟨"NineBars$Game", "isLastOf", "(I)Z"⟩)) : mCaV M M_Game_isLastOf idx 3 := ⟨h, tb_im_Game_isLastOf, tb_se_Game_isLastOf, by decide, TX3, 4, rfl⟩
theorem d_Game_settleAhead_104 : decode prog_5_method_6_code 104 = .ok (.ifCond .eq 15, 3) := by decide +kernel
theorem d_Game_settleAhead_119 : decode prog_5_method_6_code 119 = .ok (.iinc 6 1, 3) := by decide +kernel
theorem d_Game_settleAhead_122 : decode prog_5_method_6_code 122 = .ok (.goto (-76), 3) := by decide +kernel
theorem d_Game_settleAhead_107 : decode prog_5_method_6_code 107 = .ok (.aload_n 0, 1) := by decide +kernel
theorem d_Game_settleAhead_108 : decode prog_5_method_6_code 108 = .ok (.iconst 2, 1) := by decide +kernel
theorem d_Game_settleAhead_109 : decode prog_5_method_6_code 109 = .ok (.iload 7, 2) := by decide +kernel
theorem d_Game_settleAhead_111 : decode prog_5_method_6_code 111 = .ok (.imul, 1) := by decide +kernel
theorem d_Game_settleAhead_112 : decode prog_5_method_6_code 112 = .ok (.iconst 1, 1) := by decide +kernel
theorem d_Game_settleAhead_113 : decode prog_5_method_6_code 113 = .ok (.iadd, 1) := by decide +kernel
theorem d_Game_settleAhead_114 : decode prog_5_method_6_code 114 = .ok (.iload 4, 2) := by decide +kernel
theorem d_Game_settleAhead_116 : decode prog_5_method_6_code 116 = .ok (.invokevirtual 31, 3) := by decide +kernel
theorem tb_ml_Game_31 : mTB (Cond.methodLink "NineBars$Game" 31 ⟨"NineBars$Game", "settle", "(II)V"⟩) := tbq6 113 (by decide +kernel) rfl
theorem tb_im_Game_settle : mTB (Cond.instanceMethod ⟨"NineBars$Game", "settle", "(II)V"⟩) := tbq6 115 (by decide +kernel) rfl
theorem tb_se_Game_settle : mTB (Cond.selects "NineBars$Game" ⟨"NineBars$Game", "settle", "(II)V"⟩ ⟨"NineBars$Game", "settle", "(II)V"⟩) := tbqp 40 (by decide +kernel) rfl
theorem mv_Game_settle {M : mM} {idx : Nat} (h : mTB (Cond.methodLink (mO M) idx ⟨"NineBars$Game", "settle", "(II)V"⟩)) : mCaV M M_Game_settle idx 3 := ⟨h, tb_im_Game_settle, tb_se_Game_settle, by decide, TX3, 4, rfl⟩
theorem d_Game_settleAhead_85 : decode prog_5_method_6_code 85 = .ok (.aload_n 0, 1) := by decide +kernel
theorem d_Game_settleAhead_86 : decode prog_5_method_6_code 86 = .ok (.iconst 2, 1) := by decide +kernel
theorem d_Game_settleAhead_87 : decode prog_5_method_6_code 87 = .ok (.iload 7, 2) := by decide +kernel
theorem d_Game_settleAhead_89 : decode prog_5_method_6_code 89 = .ok (.imul, 1) := by decide +kernel
theorem d_Game_settleAhead_90 : decode prog_5_method_6_code 90 = .ok (.iload 4, 2) := by decide +kernel
theorem d_Game_settleAhead_92 : decode prog_5_method_6_code 92 = .ok (.invokevirtual 31, 3) := by decide +kernel
theorem d_Game_settleAhead_95 : decode prog_5_method_6_code 95 = .ok (.goto 24, 3) := by decide +kernel
theorem d_Game_settleAhead_77 : decode prog_5_method_6_code 77 = .ok (.goto 42, 3) := by decide +kernel
theorem d_Game_settleAhead_34 : decode prog_5_method_6_code 34 = .ok (.aload_n 0, 1) := by decide +kernel
theorem d_Game_settleAhead_35 : decode prog_5_method_6_code 35 = .ok (.iload_n 2, 1) := by decide +kernel
theorem d_Game_settleAhead_36 : decode prog_5_method_6_code 36 = .ok (.iconst 1, 1) := by decide +kernel
theorem d_Game_settleAhead_37 : decode prog_5_method_6_code 37 = .ok (.ixor, 1) := by decide +kernel
theorem d_Game_settleAhead_38 : decode prog_5_method_6_code 38 = .ok (.iload 4, 2) := by decide +kernel
theorem d_Game_settleAhead_40 : decode prog_5_method_6_code 40 = .ok (.invokevirtual 31, 3) := by decide +kernel
theorem d_Game_settleAhead_19 : decode prog_5_method_6_code 19 = .ok (.iconst 1, 1) := by decide +kernel
theorem d_Game_settleAhead_20 : decode prog_5_method_6_code 20 = .ok (.goto 4, 3) := by decide +kernel
theorem t_Game_settleAhead_J119 {G : mG} {r : mR} {v0 v1 v3 v4 v5 v6 : Int} {h : mH} {R46 : mH → Int → Option mR} (hR46 : ∀ (h : mH) (w6 : Int) , R46 h w6 = some r → mJ G M_Game_settleAhead 46 [(2, v0), (2, v1), (9, 0), (0, v3), (0, v4), (0, v5), (0, w6), (9, 0)] [] h r) (hr : f_Game_settleAhead_J119 R46 v6 h = some r) : mJ G M_Game_settleAhead 119 [(2, v0), (2, v1), (9, 0), (0, v3), (0, v4), (0, v5), (0, v6), (9, 0)] [] h r := by
  unfold f_Game_settleAhead_J119 at hr
  refine j_iincW (pc := 119) (L := fun x1 => [(2, v0), (2, v1), (9, 0), (0, v3), (0, v4), (0, v5), (0, x1), (9, 0)]) d_Game_settleAhead_119 rfl (fun _ => rfl) hr (fun x1 hr => ?_)
  refine j_goto (pc := 122) (tgt := 46) d_Game_settleAhead_122 ?_
  exact mJ_weak (ls' := [(2, v0), (2, v1), (9, 0), (0, v3), (0, v4), (0, v5), (0, x1), (9, 0)]) (mwk_s (mwk_s (mwk_s (mwk_s (mwk_s (mwk_s (mwk_s (mwk_s mwk_n)))))))) (hR46 h _ hr)
theorem t_Game_settleAhead_L46 {G : mG} {r : mR} {v0 v1 v3 v4 v5 : Int}  : ∀ (n : Nat) (h : mH) (v6 : Int), f_Game_settleAhead_L46 v0 v1 v3 v4 v5 n h v6 = some r → mJ G M_Game_settleAhead 46 [(2, v0), (2, v1), (9, 0), (0, v3), (0, v4), (0, v5), (0, v6), (9, 0)] [] h r := by
  intro n
  induction n with
  | zero =>
    intro h v6 hr
    rw [f_Game_settleAhead_L46] at hr
    cases hr
  | succ n hR46 =>
    intro h v6 hr
    rw [f_Game_settleAhead_L46] at hr
    refine j_iload (pc := 46) d_Game_settleAhead_46 rfl ?_
    refine j_aload_n (pc := 48) d_Game_settleAhead_48 rfl ?_
    refine j_getf (pc := 49) d_Game_settleAhead_49 (fd_Game_62 rfl) hr (fun hr => ?_)
    refine j_icmp_ge (pc := 52) (tgt := 125) d_Game_settleAhead_52 hr (fun hr => ?_) (fun hr => ?_)
    · exact j_vret (pc := 125) d_Game_settleAhead_125 rfl hr
    · refine j_iload_n (pc := 55) d_Game_settleAhead_55 rfl ?_
      refine j_aload_n (pc := 56) d_Game_settleAhead_56 rfl ?_
      refine j_getf (pc := 57) d_Game_settleAhead_57 (fd_Game_65 rfl) hr (fun hr => ?_)
      refine j_iload (pc := 60) d_Game_settleAhead_60 rfl ?_
      refine j_iaload (pc := 62) d_Game_settleAhead_62 hr (fun hr => ?_)
      refine j_isub (pc := 63) d_Game_settleAhead_63 ?_
      refine j_istoreW (pc := 64) (L := fun x1 => [(2, v0), (2, v1), (9, 0), (0, v3), (0, v4), (0, v5), (0, v6), (0, x1)]) d_Game_settleAhead_64 (fun _ => rfl) hr (fun x1 hr => ?_)
      refine j_aload_n (pc := 66) d_Game_settleAhead_66 rfl ?_
      refine j_iload (pc := 67) d_Game_settleAhead_67 rfl ?_
      refine j_iload (pc := 69) d_Game_settleAhead_69 rfl ?_
      obtain ⟨ha, hr⟩ := chk_some hr
      refine j_callG (pc := 71) (stk := [(0, v6), (0, x1), (2, v1)]) (as := [(2, v1), (0, x1), (0, v6)]) (P := (fun v9 => ((0 : Nat), v9) :: [])) (tg := 0) (My := M_Graph_goesFrom) (mRunV (as := [(0, x1), (0, v6)]) (st := []) d_Game_settleAhead_71 (mc_Graph_goesFrom (by decide)) rfl (mv_Graph_goesFrom tb_ml_Game_68) rfl (Nat.le_of_ble_eq_true rfl) ha) (fun v => rfl) rfl hr (fun r1 h1 => t_Graph_goesFrom _ _ _ _ _ h1) (fun x3 h2 hr => ?_)
      refine j_if_ne (pc := 74) (tgt := 80) d_Game_settleAhead_74 hr (fun hr => ?_) (fun hr => ?_)
      · refine j_iload (pc := 80) d_Game_settleAhead_80 rfl ?_
        refine j_if_ne (pc := 82) (tgt := 98) d_Game_settleAhead_82 hr (fun hr => ?_) (fun hr => ?_)
        · refine j_aload_n (pc := 98) d_Game_settleAhead_98 rfl ?_
          refine j_iload (pc := 99) d_Game_settleAhead_99 rfl ?_
          obtain ⟨ha, hr⟩ := chk_some hr
          refine j_callG (pc := 101) (stk := [(0, x1), (2, v0)]) (as := [(2, v0), (0, x1)]) (P := (fun v9 => ((0 : Nat), v9) :: [])) (tg := 0) (My := M_Game_isLastOf) (mRunV (as := [(0, x1)]) (st := []) d_Game_settleAhead_101 (mc_Game_isLastOf (by decide)) rfl (mv_Game_isLastOf tb_ml_Game_72) rfl (Nat.le_of_ble_eq_true rfl) ha) (fun v => rfl) rfl hr (fun r1 h1 => t_Game_isLastOf _ _ _ _ h1) (fun x5 h4 hr => ?_)
          refine j_if_eq (pc := 104) (tgt := 119) d_Game_settleAhead_104 hr (fun hr => ?_) (fun hr => ?_)
          · exact mJ_weak (ls' := [(2, v0), (2, v1), (9, 0), (0, v3), (0, v4), (0, v5), (0, v6), (9, 0)]) (mwk_s (mwk_s (mwk_s (mwk_s (mwk_s (mwk_s (mwk_s (mwk_d mwk_n)))))))) (t_Game_settleAhead_J119 hR46 hr)
          · refine j_aload_n (pc := 107) d_Game_settleAhead_107 rfl ?_
            refine j_iconst (pc := 108) d_Game_settleAhead_108 ?_
            refine j_iload (pc := 109) d_Game_settleAhead_109 rfl ?_
            refine j_imul (pc := 111) d_Game_settleAhead_111 ?_
            refine j_iconst (pc := 112) d_Game_settleAhead_112 ?_
            refine j_iadd (pc := 113) d_Game_settleAhead_113 ?_
            refine j_iload (pc := 114) d_Game_settleAhead_114 rfl ?_
            obtain ⟨ha, hr⟩ := chk_some hr
            refine j_callG (pc := 116) (stk := [(0, v4), (0, w32 ((w32 (2 * x1)) + 1)), (2, v0)]) (as := [(2, v0), (0, w32 ((w32 (2 * x1)) + 1)), (0, v4)]) (P := (fun v9 => [])) (tg := 3) (My := M_Game_settle) (mRunV (as := [(0, w32 ((w32 (2 * x1)) + 1)), (0, v4)]) (st := []) d_Game_settleAhead_116 (mc_Game_settle (by decide)) rfl (mv_Game_settle tb_ml_Game_31) rfl (Nat.le_of_ble_eq_true rfl) ha) (fun v => rfl) rfl hr (fun r1 h1 => t_Game_settle _ _ _ _ _ h1) (fun x7 h6 hr => ?_)
            exact mJ_weak (ls' := [(2, v0), (2, v1), (9, 0), (0, v3), (0, v4), (0, v5), (0, v6), (9, 0)]) (mwk_s (mwk_s (mwk_s (mwk_s (mwk_s (mwk_s (mwk_s (mwk_d mwk_n)))))))) (t_Game_settleAhead_J119 hR46 hr)
        · refine j_aload_n (pc := 85) d_Game_settleAhead_85 rfl ?_
          refine j_iconst (pc := 86) d_Game_settleAhead_86 ?_
          refine j_iload (pc := 87) d_Game_settleAhead_87 rfl ?_
          refine j_imul (pc := 89) d_Game_settleAhead_89 ?_
          refine j_iload (pc := 90) d_Game_settleAhead_90 rfl ?_
          obtain ⟨ha, hr⟩ := chk_some hr
          refine j_callG (pc := 92) (stk := [(0, v4), (0, w32 (2 * x1)), (2, v0)]) (as := [(2, v0), (0, w32 (2 * x1)), (0, v4)]) (P := (fun v9 => [])) (tg := 3) (My := M_Game_settle) (mRunV (as := [(0, w32 (2 * x1)), (0, v4)]) (st := []) d_Game_settleAhead_92 (mc_Game_settle (by decide)) rfl (mv_Game_settle tb_ml_Game_31) rfl (Nat.le_of_ble_eq_true rfl) ha) (fun v => rfl) rfl hr (fun r1 h1 => t_Game_settle _ _ _ _ _ h1) (fun x9 h8 hr => ?_)
          refine j_goto (pc := 95) (tgt := 119) d_Game_settleAhead_95 ?_
          exact mJ_weak (ls' := [(2, v0), (2, v1), (9, 0), (0, v3), (0, v4), (0, v5), (0, v6), (9, 0)]) (mwk_s (mwk_s (mwk_s (mwk_s (mwk_s (mwk_s (mwk_s (mwk_d mwk_n)))))))) (t_Game_settleAhead_J119 hR46 hr)
      · refine j_goto (pc := 77) (tgt := 119) d_Game_settleAhead_77 ?_
        exact mJ_weak (ls' := [(2, v0), (2, v1), (9, 0), (0, v3), (0, v4), (0, v5), (0, v6), (9, 0)]) (mwk_s (mwk_s (mwk_s (mwk_s (mwk_s (mwk_s (mwk_s (mwk_d mwk_n)))))))) (t_Game_settleAhead_J119 hR46 hr)
theorem t_Game_settleAhead_J43 {G : mG} {r : mR} {v0 v1 v3 v4 v5 : Int} {h : mH}  (hr : f_Game_settleAhead_J43 v0 v1 v3 v4 v5 h = some r) : mJ G M_Game_settleAhead 43 [(2, v0), (2, v1), (9, 0), (0, v3), (0, v4), (0, v5), (9, 0), (9, 0)] [] h r := by
  unfold f_Game_settleAhead_J43 at hr
  refine j_iconst (pc := 43) d_Game_settleAhead_43 ?_
  refine j_istore (pc := 44) (ls' := [(2, v0), (2, v1), (9, 0), (0, v3), (0, v4), (0, v5), (0, 0), (9, 0)]) d_Game_settleAhead_44 rfl ?_
  refine mJ_weak (ls' := [(2, v0), (2, v1), (9, 0), (0, v3), (0, v4), (0, v5), (0, 0), (9, 0)]) (mwk_s (mwk_s (mwk_s (mwk_s (mwk_s (mwk_s (mwk_s (mwk_s mwk_n)))))))) (t_Game_settleAhead_L46  _ _ _ hr)
theorem t_Game_settleAhead_J24 {G : mG} {r : mR} {v0 v1 v2 v3 v4 s0 : Int} {h : mH}  (hr : f_Game_settleAhead_J24 v0 v1 v2 v3 v4 s0 h = some r) : mJ G M_Game_settleAhead 24 [(2, v0), (2, v1), (0, v2), (0, v3), (0, v4), (9, 0), (9, 0), (9, 0)] [(0, s0)] h r := by
  unfold f_Game_settleAhead_J24 at hr
  refine j_istore (pc := 24) (ls' := [(2, v0), (2, v1), (0, v2), (0, v3), (0, v4), (0, s0), (9, 0), (9, 0)]) d_Game_settleAhead_24 rfl ?_
  refine j_aload_n (pc := 26) d_Game_settleAhead_26 rfl ?_
  refine j_iload_n (pc := 27) d_Game_settleAhead_27 rfl ?_
  obtain ⟨ha, hr⟩ := chk_some hr
  refine j_callG (pc := 28) (stk := [(0, v3), (2, v1)]) (as := [(2, v1), (0, v3)]) (P := (fun v9 => ((0 : Nat), v9) :: [])) (tg := 0) (My := M_Graph_stepsFrom) (mRunV (as := [(0, v3)]) (st := []) d_Game_settleAhead_28 (mc_Graph_stepsFrom (by decide)) rfl (mv_Graph_stepsFrom tb_ml_Game_54) rfl (Nat.le_of_ble_eq_true rfl) ha) (fun v => rfl) rfl hr (fun r1 h1 => t_Graph_stepsFrom _ _ _ _ h1) (fun x2 h1 hr => ?_)
  refine j_if_ne (pc := 31) (tgt := 43) d_Game_settleAhead_31 hr (fun hr => ?_) (fun hr => ?_)
  · exact mJ_weak (ls' := [(2, v0), (2, v1), (9, 0), (0, v3), (0, v4), (0, s0), (9, 0), (9, 0)]) (mwk_s (mwk_s (mwk_d (mwk_s (mwk_s (mwk_s (mwk_s (mwk_s mwk_n)))))))) (t_Game_settleAhead_J43  hr)
  · refine j_aload_n (pc := 34) d_Game_settleAhead_34 rfl ?_
    refine j_iload_n (pc := 35) d_Game_settleAhead_35 rfl ?_
    refine j_iconst (pc := 36) d_Game_settleAhead_36 ?_
    refine j_ixor (pc := 37) d_Game_settleAhead_37 ?_
    refine j_iload (pc := 38) d_Game_settleAhead_38 rfl ?_
    obtain ⟨ha, hr⟩ := chk_some hr
    refine j_callG (pc := 40) (stk := [(0, v4), (0, qxor v2 1), (2, v0)]) (as := [(2, v0), (0, qxor v2 1), (0, v4)]) (P := (fun v9 => [])) (tg := 3) (My := M_Game_settle) (mRunV (as := [(0, qxor v2 1), (0, v4)]) (st := []) d_Game_settleAhead_40 (mc_Game_settle (by decide)) rfl (mv_Game_settle tb_ml_Game_31) rfl (Nat.le_of_ble_eq_true rfl) ha) (fun v => rfl) rfl hr (fun r1 h1 => t_Game_settle _ _ _ _ _ h1) (fun x4 h3 hr => ?_)
    exact mJ_weak (ls' := [(2, v0), (2, v1), (9, 0), (0, v3), (0, v4), (0, s0), (9, 0), (9, 0)]) (mwk_s (mwk_s (mwk_d (mwk_s (mwk_s (mwk_s (mwk_s (mwk_s mwk_n)))))))) (t_Game_settleAhead_J43  hr)
theorem t_Game_settleAhead {G : mG} (h : mH) (v0 v1 v2 : Int) (r : mR) (hr : f_Game_settleAhead h v0 v1 v2 = some r) : mJM G M_Game_settleAhead [(2, v0), (2, v1), (0, v2)] h r := by
  refine mJM_of (L := [(2, v0), (2, v1), (0, v2), (9, 0), (9, 0), (9, 0), (9, 0), (9, 0)]) rfl rfl rfl (Nat.le_of_ble_eq_true rfl) ?_
  unfold f_Game_settleAhead at hr
  refine j_iload_n (pc := 0) d_Game_settleAhead_0 rfl ?_
  refine j_iconst (pc := 1) d_Game_settleAhead_1 ?_
  refine j_ishr (pc := 2) d_Game_settleAhead_2 ?_
  refine j_istoreW_n (pc := 3) (L := fun x1 => [(2, v0), (2, v1), (0, v2), (0, x1), (9, 0), (9, 0), (9, 0), (9, 0)]) d_Game_settleAhead_3 (fun _ => rfl) hr (fun x1 hr => ?_)
  refine j_aload_n (pc := 4) d_Game_settleAhead_4 rfl ?_
  refine j_iload_n (pc := 5) d_Game_settleAhead_5 rfl ?_
  obtain ⟨ha, hr⟩ := chk_some hr
  refine j_callG (pc := 6) (stk := [(0, v2), (2, v0)]) (as := [(2, v0), (0, v2)]) (P := (fun v9 => ((0 : Nat), v9) :: [])) (tg := 0) (My := M_Game_turnsOf) (mRunV (as := [(0, v2)]) (st := []) d_Game_settleAhead_6 (mc_Game_turnsOf (by decide)) rfl (mv_Game_turnsOf tb_ml_Game_38) rfl (Nat.le_of_ble_eq_true rfl) ha) (fun v => rfl) rfl hr (fun r1 h1 => t_Game_turnsOf _ _ _ _ h1) (fun x3 h2 hr => ?_)
  refine j_iconst (pc := 9) d_Game_settleAhead_9 ?_
  refine j_iadd (pc := 10) d_Game_settleAhead_10 ?_
  refine j_istoreW (pc := 11) (L := fun x4 => [(2, v0), (2, v1), (0, v2), (0, x1), (0, x4), (9, 0), (9, 0), (9, 0)]) d_Game_settleAhead_11 (fun _ => rfl) hr (fun x4 hr => ?_)
  refine j_iload_n (pc := 13) d_Game_settleAhead_13 rfl ?_
  refine j_iconst (pc := 14) d_Game_settleAhead_14 ?_
  refine j_iand (pc := 15) d_Game_settleAhead_15 ?_
  refine j_if_ne (pc := 16) (tgt := 23) d_Game_settleAhead_16 hr (fun hr => ?_) (fun hr => ?_)
  · refine j_iconst (pc := 23) d_Game_settleAhead_23 ?_
    exact mJ_weak (ls' := [(2, v0), (2, v1), (0, v2), (0, x1), (0, x4), (9, 0), (9, 0), (9, 0)]) (mwk_s (mwk_s (mwk_s (mwk_s (mwk_s (mwk_s (mwk_s (mwk_s mwk_n)))))))) (t_Game_settleAhead_J24  hr)
  · refine j_iconst (pc := 19) d_Game_settleAhead_19 ?_
    refine j_goto (pc := 20) (tgt := 24) d_Game_settleAhead_20 ?_
    exact mJ_weak (ls' := [(2, v0), (2, v1), (0, v2), (0, x1), (0, x4), (9, 0), (9, 0), (9, 0)]) (mwk_s (mwk_s (mwk_s (mwk_s (mwk_s (mwk_s (mwk_s (mwk_s mwk_n)))))))) (t_Game_settleAhead_J24  hr)
def M_Game_turnsToOpen : mM := ("NineBars$Game", ⟨"NineBars$Game", "turnsToOpen", "(LNineBars$Graph;I)I"⟩, prog_5_method_2_code, 4, some .int, [], 7)
theorem tb_co_Game_turnsToOpen : mTB (Cond.code ⟨"NineBars$Game", "turnsToOpen", "(LNineBars$Graph;I)I"⟩ prog_5_method_2_code 4 (some .int)) := tbq6 99 (by decide +kernel) rfl
theorem mc_Game_turnsToOpen {M : mM} (hd : 7 < mDp M) : mCal M M_Game_turnsToOpen 2 := ⟨tb_co_Game_turnsToOpen, tb_in_NineBars_Game, ⟨by decide +kernel, by decide +kernel⟩, by decide +kernel, hd, by decide⟩
theorem d_Game_turnsToOpen_0 : decode prog_5_method_2_code 0 = .ok (.aload_n 0, 1) := by decide +kernel
theorem d_Game_turnsToOpen_1 : decode prog_5_method_2_code 1 = .ok (.aload_n 1, 1) := by decide +kernel
theorem d_Game_turnsToOpen_2 : decode prog_5_method_2_code 2 = .ok (.invokevirtual 21, 3) := by decide +kernel
theorem tb_ml_Game_21 : mTB (Cond.methodLink "NineBars$Game" 21 ⟨"NineBars$Game", "begin", "(LNineBars$Graph;)V"⟩) := tbq6 100 (by decide +kernel) rfl
theorem tb_im_Game_begin : mTB (Cond.instanceMethod ⟨"NineBars$Game", "begin", "(LNineBars$Graph;)V"⟩) := tbq6 102 (by decide +kernel) rfl
theorem tb_se_Game_begin : mTB (Cond.selects "NineBars$Game" ⟨"NineBars$Game", "begin", "(LNineBars$Graph;)V"⟩ ⟨"NineBars$Game", "begin", "(LNineBars$Graph;)V"⟩) := tbqp 39 (by decide +kernel) rfl
theorem mv_Game_begin {M : mM} {idx : Nat} (h : mTB (Cond.methodLink (mO M) idx ⟨"NineBars$Game", "begin", "(LNineBars$Graph;)V"⟩)) : mCaV M M_Game_begin idx 3 := ⟨h, tb_im_Game_begin, tb_se_Game_begin, by decide, TX3, 4, rfl⟩
theorem d_Game_turnsToOpen_5 : decode prog_5_method_2_code 5 = .ok (.aload_n 0, 1) := by decide +kernel
theorem d_Game_turnsToOpen_6 : decode prog_5_method_2_code 6 = .ok (.iconst 2, 1) := by decide +kernel
theorem d_Game_turnsToOpen_7 : decode prog_5_method_2_code 7 = .ok (.aload_n 1, 1) := by decide +kernel
theorem tb_fl_Game_25 : mTN (Cond.fieldLinkNest "NineBars$Game" 25 "NineBars$Graph" "openStand" "I" "NineBars") := tbqn1 205 (by decide +kernel) rfl
theorem fd_Game_25 {M : mM} (h : mO M = "NineBars$Game") : mFld M 25 4 4 0 := ⟨_, _, _, tyX4, rfl, by decide, by decide, rfl, uw_4, tyX4_ok, nmX4, by rw [h]; exact Or.inr ⟨_, tb_fl_Game_25⟩⟩
theorem d_Game_turnsToOpen_8 : decode prog_5_method_2_code 8 = .ok (.getfield 25, 3) := by decide +kernel
theorem d_Game_turnsToOpen_11 : decode prog_5_method_2_code 11 = .ok (.imul, 1) := by decide +kernel
theorem d_Game_turnsToOpen_12 : decode prog_5_method_2_code 12 = .ok (.iconst 0, 1) := by decide +kernel
theorem d_Game_turnsToOpen_13 : decode prog_5_method_2_code 13 = .ok (.invokevirtual 31, 3) := by decide +kernel
theorem d_Game_turnsToOpen_16 : decode prog_5_method_2_code 16 = .ok (.aload_n 0, 1) := by decide +kernel
theorem d_Game_turnsToOpen_17 : decode prog_5_method_2_code 17 = .ok (.iconst 2, 1) := by decide +kernel
theorem d_Game_turnsToOpen_18 : decode prog_5_method_2_code 18 = .ok (.aload_n 1, 1) := by decide +kernel
theorem d_Game_turnsToOpen_19 : decode prog_5_method_2_code 19 = .ok (.getfield 25, 3) := by decide +kernel
theorem d_Game_turnsToOpen_22 : decode prog_5_method_2_code 22 = .ok (.imul, 1) := by decide +kernel
theorem d_Game_turnsToOpen_23 : decode prog_5_method_2_code 23 = .ok (.iconst 1, 1) := by decide +kernel
theorem d_Game_turnsToOpen_24 : decode prog_5_method_2_code 24 = .ok (.iadd, 1) := by decide +kernel
theorem d_Game_turnsToOpen_25 : decode prog_5_method_2_code 25 = .ok (.iconst 0, 1) := by decide +kernel
theorem d_Game_turnsToOpen_26 : decode prog_5_method_2_code 26 = .ok (.invokevirtual 31, 3) := by decide +kernel
theorem d_Game_turnsToOpen_29 : decode prog_5_method_2_code 29 = .ok (.iconst 0, 1) := by decide +kernel
theorem d_Game_turnsToOpen_30 : decode prog_5_method_2_code 30 = .ok (.istore_n 3, 1) := by decide +kernel
theorem d_Game_turnsToOpen_31 : decode prog_5_method_2_code 31 = .ok (.iload_n 3, 1) := by decide +kernel
theorem d_Game_turnsToOpen_32 : decode prog_5_method_2_code 32 = .ok (.aload_n 0, 1) := by decide +kernel
theorem d_Game_turnsToOpen_33 : decode prog_5_method_2_code 33 = .ok (.getfield 18, 3) := by decide +kernel
theorem d_Game_turnsToOpen_36 : decode prog_5_method_2_code 36 = .ok (.arraylength, 1) := by decide +kernel
theorem d_Game_turnsToOpen_37 : decode prog_5_method_2_code 37 = .ok (.if_icmp .ge 54, 3) := by decide +kernel
theorem d_Game_turnsToOpen_40 : decode prog_5_method_2_code 40 = .ok (.iload_n 3, 1) := by decide +kernel
theorem d_Game_turnsToOpen_41 : decode prog_5_method_2_code 41 = .ok (.aload_n 0, 1) := by decide +kernel
theorem d_Game_turnsToOpen_42 : decode prog_5_method_2_code 42 = .ok (.getfield 35, 3) := by decide +kernel
theorem d_Game_turnsToOpen_45 : decode prog_5_method_2_code 45 = .ok (.if_icmp .ge 46, 3) := by decide +kernel
theorem d_Game_turnsToOpen_48 : decode prog_5_method_2_code 48 = .ok (.aload_n 0, 1) := by decide +kernel
theorem d_Game_turnsToOpen_49 : decode prog_5_method_2_code 49 = .ok (.iconst 2, 1) := by decide +kernel
theorem d_Game_turnsToOpen_50 : decode prog_5_method_2_code 50 = .ok (.iload_n 2, 1) := by decide +kernel
theorem d_Game_turnsToOpen_51 : decode prog_5_method_2_code 51 = .ok (.imul, 1) := by decide +kernel
theorem d_Game_turnsToOpen_52 : decode prog_5_method_2_code 52 = .ok (.invokevirtual 38, 3) := by decide +kernel
theorem d_Game_turnsToOpen_55 : decode prog_5_method_2_code 55 = .ok (.iconst (-1), 1) := by decide +kernel
theorem d_Game_turnsToOpen_56 : decode prog_5_method_2_code 56 = .ok (.if_icmp .ne 35, 3) := by decide +kernel
theorem d_Game_turnsToOpen_59 : decode prog_5_method_2_code 59 = .ok (.aload_n 0, 1) := by decide +kernel
theorem d_Game_turnsToOpen_60 : decode prog_5_method_2_code 60 = .ok (.aload_n 0, 1) := by decide +kernel
theorem d_Game_turnsToOpen_61 : decode prog_5_method_2_code 61 = .ok (.getfield 18, 3) := by decide +kernel
theorem d_Game_turnsToOpen_64 : decode prog_5_method_2_code 64 = .ok (.iload_n 3, 1) := by decide +kernel
theorem d_Game_turnsToOpen_65 : decode prog_5_method_2_code 65 = .ok (.iaload, 1) := by decide +kernel
theorem d_Game_turnsToOpen_66 : decode prog_5_method_2_code 66 = .ok (.invokevirtual 38, 3) := by decide +kernel
theorem d_Game_turnsToOpen_69 : decode prog_5_method_2_code 69 = .ok (.bipush 60, 2) := by decide +kernel
theorem d_Game_turnsToOpen_71 : decode prog_5_method_2_code 71 = .ok (.if_icmp .ge 14, 3) := by decide +kernel
theorem d_Game_turnsToOpen_85 : decode prog_5_method_2_code 85 = .ok (.iinc 3 1, 3) := by decide +kernel
theorem d_Game_turnsToOpen_88 : decode prog_5_method_2_code 88 = .ok (.goto (-57), 3) := by decide +kernel
theorem d_Game_turnsToOpen_74 : decode prog_5_method_2_code 74 = .ok (.aload_n 0, 1) := by decide +kernel
theorem d_Game_turnsToOpen_75 : decode prog_5_method_2_code 75 = .ok (.aload_n 1, 1) := by decide +kernel
theorem d_Game_turnsToOpen_76 : decode prog_5_method_2_code 76 = .ok (.aload_n 0, 1) := by decide +kernel
theorem d_Game_turnsToOpen_77 : decode prog_5_method_2_code 77 = .ok (.getfield 18, 3) := by decide +kernel
theorem d_Game_turnsToOpen_80 : decode prog_5_method_2_code 80 = .ok (.iload_n 3, 1) := by decide +kernel
theorem d_Game_turnsToOpen_81 : decode prog_5_method_2_code 81 = .ok (.iaload, 1) := by decide +kernel
theorem d_Game_turnsToOpen_82 : decode prog_5_method_2_code 82 = .ok (.invokevirtual 42, 3) := by decide +kernel
theorem tb_ml_Game_42 : mTB (Cond.methodLink "NineBars$Game" 42 ⟨"NineBars$Game", "settleAhead", "(LNineBars$Graph;I)V"⟩) := tbq6 121 (by decide +kernel) rfl
theorem tb_im_Game_settleAhead : mTB (Cond.instanceMethod ⟨"NineBars$Game", "settleAhead", "(LNineBars$Graph;I)V"⟩) := tbq6 123 (by decide +kernel) rfl
theorem tb_se_Game_settleAhead : mTB (Cond.selects "NineBars$Game" ⟨"NineBars$Game", "settleAhead", "(LNineBars$Graph;I)V"⟩ ⟨"NineBars$Game", "settleAhead", "(LNineBars$Graph;I)V"⟩) := tbqp 42 (by decide +kernel) rfl
theorem mv_Game_settleAhead {M : mM} {idx : Nat} (h : mTB (Cond.methodLink (mO M) idx ⟨"NineBars$Game", "settleAhead", "(LNineBars$Graph;I)V"⟩)) : mCaV M M_Game_settleAhead idx 3 := ⟨h, tb_im_Game_settleAhead, tb_se_Game_settleAhead, by decide, TX3, 4, rfl⟩
theorem d_Game_turnsToOpen_91 : decode prog_5_method_2_code 91 = .ok (.aload_n 0, 1) := by decide +kernel
theorem d_Game_turnsToOpen_92 : decode prog_5_method_2_code 92 = .ok (.iconst 2, 1) := by decide +kernel
theorem d_Game_turnsToOpen_93 : decode prog_5_method_2_code 93 = .ok (.iload_n 2, 1) := by decide +kernel
theorem d_Game_turnsToOpen_94 : decode prog_5_method_2_code 94 = .ok (.imul, 1) := by decide +kernel
theorem d_Game_turnsToOpen_95 : decode prog_5_method_2_code 95 = .ok (.invokevirtual 38, 3) := by decide +kernel
theorem d_Game_turnsToOpen_98 : decode prog_5_method_2_code 98 = .ok (.ireturn, 1) := by decide +kernel
theorem t_Game_turnsToOpen_J85 {G : mG} {r : mR} {v0 v1 v2 v3 : Int} {h : mH} {R31 : mH → Int → Option mR} (hR31 : ∀ (h : mH) (w3 : Int) , R31 h w3 = some r → mJ G M_Game_turnsToOpen 31 [(2, v0), (2, v1), (0, v2), (0, w3)] [] h r) (hr : f_Game_turnsToOpen_J85 R31 v3 h = some r) : mJ G M_Game_turnsToOpen 85 [(2, v0), (2, v1), (0, v2), (0, v3)] [] h r := by
  unfold f_Game_turnsToOpen_J85 at hr
  refine j_iincW (pc := 85) (L := fun x1 => [(2, v0), (2, v1), (0, v2), (0, x1)]) d_Game_turnsToOpen_85 rfl (fun _ => rfl) hr (fun x1 hr => ?_)
  refine j_goto (pc := 88) (tgt := 31) d_Game_turnsToOpen_88 ?_
  exact mJ_weak (ls' := [(2, v0), (2, v1), (0, v2), (0, x1)]) (mwk_s (mwk_s (mwk_s (mwk_s mwk_n)))) (hR31 h _ hr)
theorem t_Game_turnsToOpen_L31 {G : mG} {r : mR} {v0 v1 v2 : Int} {K91 : mH → Option mR} (hK91 : ∀ (h : mH) , K91 h  = some r → mJ G M_Game_turnsToOpen 91 [(2, v0), (9, 0), (0, v2), (9, 0)] [] h r) : ∀ (n : Nat) (h : mH) (v3 : Int), f_Game_turnsToOpen_L31 K91 v0 v1 v2 n h v3 = some r → mJ G M_Game_turnsToOpen 31 [(2, v0), (2, v1), (0, v2), (0, v3)] [] h r := by
  intro n
  induction n with
  | zero =>
    intro h v3 hr
    rw [f_Game_turnsToOpen_L31] at hr
    cases hr
  | succ n hR31 =>
    intro h v3 hr
    rw [f_Game_turnsToOpen_L31] at hr
    refine j_iload_n (pc := 31) d_Game_turnsToOpen_31 rfl ?_
    refine j_aload_n (pc := 32) d_Game_turnsToOpen_32 rfl ?_
    refine j_getf (pc := 33) d_Game_turnsToOpen_33 (fd_Game_18 rfl) hr (fun hr => ?_)
    refine j_alen (pc := 36) d_Game_turnsToOpen_36 hr (fun hr => ?_)
    refine j_icmp_ge (pc := 37) (tgt := 91) d_Game_turnsToOpen_37 hr (fun hr => ?_) (fun hr => ?_)
    · exact mJ_weak (ls' := [(2, v0), (9, 0), (0, v2), (9, 0)]) (mwk_s (mwk_d (mwk_s (mwk_d mwk_n)))) (hK91 h  hr)
    · refine j_iload_n (pc := 40) d_Game_turnsToOpen_40 rfl ?_
      refine j_aload_n (pc := 41) d_Game_turnsToOpen_41 rfl ?_
      refine j_getf (pc := 42) d_Game_turnsToOpen_42 (fd_Game_35 rfl) hr (fun hr => ?_)
      refine j_icmp_ge (pc := 45) (tgt := 91) d_Game_turnsToOpen_45 hr (fun hr => ?_) (fun hr => ?_)
      · exact mJ_weak (ls' := [(2, v0), (9, 0), (0, v2), (9, 0)]) (mwk_s (mwk_d (mwk_s (mwk_d mwk_n)))) (hK91 h  hr)
      · refine j_aload_n (pc := 48) d_Game_turnsToOpen_48 rfl ?_
        refine j_iconst (pc := 49) d_Game_turnsToOpen_49 ?_
        refine j_iload_n (pc := 50) d_Game_turnsToOpen_50 rfl ?_
        refine j_imul (pc := 51) d_Game_turnsToOpen_51 ?_
        obtain ⟨ha, hr⟩ := chk_some hr
        refine j_callG (pc := 52) (stk := [(0, w32 (2 * v2)), (2, v0)]) (as := [(2, v0), (0, w32 (2 * v2))]) (P := (fun v9 => ((0 : Nat), v9) :: [])) (tg := 0) (My := M_Game_turnsOf) (mRunV (as := [(0, w32 (2 * v2))]) (st := []) d_Game_turnsToOpen_52 (mc_Game_turnsOf (by decide)) rfl (mv_Game_turnsOf tb_ml_Game_38) rfl (Nat.le_of_ble_eq_true rfl) ha) (fun v => rfl) rfl hr (fun r1 h1 => t_Game_turnsOf _ _ _ _ h1) (fun x2 h1 hr => ?_)
        refine j_iconst (pc := 55) d_Game_turnsToOpen_55 ?_
        refine j_icmp_ne (pc := 56) (tgt := 91) d_Game_turnsToOpen_56 hr (fun hr => ?_) (fun hr => ?_)
        · exact mJ_weak (ls' := [(2, v0), (9, 0), (0, v2), (9, 0)]) (mwk_s (mwk_d (mwk_s (mwk_d mwk_n)))) (hK91 h1  hr)
        · refine j_aload_n (pc := 59) d_Game_turnsToOpen_59 rfl ?_
          refine j_aload_n (pc := 60) d_Game_turnsToOpen_60 rfl ?_
          refine j_getf (pc := 61) d_Game_turnsToOpen_61 (fd_Game_18 rfl) hr (fun hr => ?_)
          refine j_iload_n (pc := 64) d_Game_turnsToOpen_64 rfl ?_
          refine j_iaload (pc := 65) d_Game_turnsToOpen_65 hr (fun hr => ?_)
          obtain ⟨ha, hr⟩ := chk_some hr
          refine j_callG (pc := 66) (stk := [(0, hpV h1 (hpV h1 v0 2) v3), (2, v0)]) (as := [(2, v0), (0, hpV h1 (hpV h1 v0 2) v3)]) (P := (fun v9 => ((0 : Nat), v9) :: [])) (tg := 0) (My := M_Game_turnsOf) (mRunV (as := [(0, hpV h1 (hpV h1 v0 2) v3)]) (st := []) d_Game_turnsToOpen_66 (mc_Game_turnsOf (by decide)) rfl (mv_Game_turnsOf tb_ml_Game_38) rfl (Nat.le_of_ble_eq_true rfl) ha) (fun v => rfl) rfl hr (fun r1 h1 => t_Game_turnsOf _ _ _ _ h1) (fun x4 h3 hr => ?_)
          refine j_bipush (pc := 69) d_Game_turnsToOpen_69 ?_
          refine j_icmp_ge (pc := 71) (tgt := 85) d_Game_turnsToOpen_71 hr (fun hr => ?_) (fun hr => ?_)
          · exact mJ_weak (ls' := [(2, v0), (2, v1), (0, v2), (0, v3)]) (mwk_s (mwk_s (mwk_s (mwk_s mwk_n)))) (t_Game_turnsToOpen_J85 hR31 hr)
          · refine j_aload_n (pc := 74) d_Game_turnsToOpen_74 rfl ?_
            refine j_aload_n (pc := 75) d_Game_turnsToOpen_75 rfl ?_
            refine j_aload_n (pc := 76) d_Game_turnsToOpen_76 rfl ?_
            refine j_getf (pc := 77) d_Game_turnsToOpen_77 (fd_Game_18 rfl) hr (fun hr => ?_)
            refine j_iload_n (pc := 80) d_Game_turnsToOpen_80 rfl ?_
            refine j_iaload (pc := 81) d_Game_turnsToOpen_81 hr (fun hr => ?_)
            obtain ⟨ha, hr⟩ := chk_some hr
            refine j_callG (pc := 82) (stk := [(0, hpV h3 (hpV h3 v0 2) v3), (2, v1), (2, v0)]) (as := [(2, v0), (2, v1), (0, hpV h3 (hpV h3 v0 2) v3)]) (P := (fun v9 => [])) (tg := 3) (My := M_Game_settleAhead) (mRunV (as := [(2, v1), (0, hpV h3 (hpV h3 v0 2) v3)]) (st := []) d_Game_turnsToOpen_82 (mc_Game_settleAhead (by decide)) rfl (mv_Game_settleAhead tb_ml_Game_42) rfl (Nat.le_of_ble_eq_true rfl) ha) (fun v => rfl) rfl hr (fun r1 h1 => t_Game_settleAhead _ _ _ _ _ h1) (fun x6 h5 hr => ?_)
            exact mJ_weak (ls' := [(2, v0), (2, v1), (0, v2), (0, v3)]) (mwk_s (mwk_s (mwk_s (mwk_s mwk_n)))) (t_Game_turnsToOpen_J85 hR31 hr)
theorem t_Game_turnsToOpen_J91 {G : mG} {r : mR} {v0 v2 : Int} {h : mH}  (hr : f_Game_turnsToOpen_J91 v0 v2 h = some r) : mJ G M_Game_turnsToOpen 91 [(2, v0), (9, 0), (0, v2), (9, 0)] [] h r := by
  unfold f_Game_turnsToOpen_J91 at hr
  refine j_aload_n (pc := 91) d_Game_turnsToOpen_91 rfl ?_
  refine j_iconst (pc := 92) d_Game_turnsToOpen_92 ?_
  refine j_iload_n (pc := 93) d_Game_turnsToOpen_93 rfl ?_
  refine j_imul (pc := 94) d_Game_turnsToOpen_94 ?_
  obtain ⟨ha, hr⟩ := chk_some hr
  refine j_callG (pc := 95) (stk := [(0, w32 (2 * v2)), (2, v0)]) (as := [(2, v0), (0, w32 (2 * v2))]) (P := (fun v9 => ((0 : Nat), v9) :: [])) (tg := 0) (My := M_Game_turnsOf) (mRunV (as := [(0, w32 (2 * v2))]) (st := []) d_Game_turnsToOpen_95 (mc_Game_turnsOf (by decide)) rfl (mv_Game_turnsOf tb_ml_Game_38) rfl (Nat.le_of_ble_eq_true rfl) ha) (fun v => rfl) rfl hr (fun r1 h1 => t_Game_turnsOf _ _ _ _ h1) (fun x2 h1 hr => ?_)
  exact j_iret (pc := 98) d_Game_turnsToOpen_98 rfl hr
theorem t_Game_turnsToOpen {G : mG} (h : mH) (v0 v1 v2 : Int) (r : mR) (hr : f_Game_turnsToOpen h v0 v1 v2 = some r) : mJM G M_Game_turnsToOpen [(2, v0), (2, v1), (0, v2)] h r := by
  refine mJM_of (L := [(2, v0), (2, v1), (0, v2), (9, 0)]) rfl rfl rfl (Nat.le_of_ble_eq_true rfl) ?_
  unfold f_Game_turnsToOpen at hr
  refine j_aload_n (pc := 0) d_Game_turnsToOpen_0 rfl ?_
  refine j_aload_n (pc := 1) d_Game_turnsToOpen_1 rfl ?_
  obtain ⟨ha, hr⟩ := chk_some hr
  refine j_callG (pc := 2) (stk := [(2, v1), (2, v0)]) (as := [(2, v0), (2, v1)]) (P := (fun v9 => [])) (tg := 3) (My := M_Game_begin) (mRunV (as := [(2, v1)]) (st := []) d_Game_turnsToOpen_2 (mc_Game_begin (by decide)) rfl (mv_Game_begin tb_ml_Game_21) rfl (Nat.le_of_ble_eq_true rfl) ha) (fun v => rfl) rfl hr (fun r1 h1 => t_Game_begin _ _ _ _ h1) (fun x2 h1 hr => ?_)
  refine j_aload_n (pc := 5) d_Game_turnsToOpen_5 rfl ?_
  refine j_iconst (pc := 6) d_Game_turnsToOpen_6 ?_
  refine j_aload_n (pc := 7) d_Game_turnsToOpen_7 rfl ?_
  refine j_getf (pc := 8) d_Game_turnsToOpen_8 (fd_Game_25 rfl) hr (fun hr => ?_)
  refine j_imul (pc := 11) d_Game_turnsToOpen_11 ?_
  refine j_iconst (pc := 12) d_Game_turnsToOpen_12 ?_
  obtain ⟨ha, hr⟩ := chk_some hr
  refine j_callG (pc := 13) (stk := [(0, 0), (0, w32 (2 * (hpV h1 v1 4))), (2, v0)]) (as := [(2, v0), (0, w32 (2 * (hpV h1 v1 4))), (0, 0)]) (P := (fun v9 => [])) (tg := 3) (My := M_Game_settle) (mRunV (as := [(0, w32 (2 * (hpV h1 v1 4))), (0, 0)]) (st := []) d_Game_turnsToOpen_13 (mc_Game_settle (by decide)) rfl (mv_Game_settle tb_ml_Game_31) rfl (Nat.le_of_ble_eq_true rfl) ha) (fun v => rfl) rfl hr (fun r1 h1 => t_Game_settle _ _ _ _ _ h1) (fun x4 h3 hr => ?_)
  refine j_aload_n (pc := 16) d_Game_turnsToOpen_16 rfl ?_
  refine j_iconst (pc := 17) d_Game_turnsToOpen_17 ?_
  refine j_aload_n (pc := 18) d_Game_turnsToOpen_18 rfl ?_
  refine j_getf (pc := 19) d_Game_turnsToOpen_19 (fd_Game_25 rfl) hr (fun hr => ?_)
  refine j_imul (pc := 22) d_Game_turnsToOpen_22 ?_
  refine j_iconst (pc := 23) d_Game_turnsToOpen_23 ?_
  refine j_iadd (pc := 24) d_Game_turnsToOpen_24 ?_
  refine j_iconst (pc := 25) d_Game_turnsToOpen_25 ?_
  obtain ⟨ha, hr⟩ := chk_some hr
  refine j_callG (pc := 26) (stk := [(0, 0), (0, w32 ((w32 (2 * (hpV h3 v1 4))) + 1)), (2, v0)]) (as := [(2, v0), (0, w32 ((w32 (2 * (hpV h3 v1 4))) + 1)), (0, 0)]) (P := (fun v9 => [])) (tg := 3) (My := M_Game_settle) (mRunV (as := [(0, w32 ((w32 (2 * (hpV h3 v1 4))) + 1)), (0, 0)]) (st := []) d_Game_turnsToOpen_26 (mc_Game_settle (by decide)) rfl (mv_Game_settle tb_ml_Game_31) rfl (Nat.le_of_ble_eq_true rfl) ha) (fun v => rfl) rfl hr (fun r1 h1 => t_Game_settle _ _ _ _ _ h1) (fun x6 h5 hr => ?_)
  refine j_iconst (pc := 29) d_Game_turnsToOpen_29 ?_
  refine j_istore_n (pc := 30) (ls' := [(2, v0), (2, v1), (0, v2), (0, 0)]) d_Game_turnsToOpen_30 rfl ?_
  refine mJ_weak (ls' := [(2, v0), (2, v1), (0, v2), (0, 0)]) (mwk_s (mwk_s (mwk_s (mwk_s mwk_n)))) (t_Game_turnsToOpen_L31 (fun h7  hr => ?_) _ _ _ hr)
  · exact mJ_weak (ls' := [(2, v0), (9, 0), (0, v2), (9, 0)]) (mwk_s (mwk_s (mwk_s (mwk_s mwk_n)))) (t_Game_turnsToOpen_J91  hr)
def M_Nb_keys : mM := ("NineBars", ⟨"NineBars", "keys", "()I"⟩, prog_1_method_38_code, 1, some .int, [], 13)
theorem tb_co_Nb_keys : mTB (Cond.code ⟨"NineBars", "keys", "()I"⟩ prog_1_method_38_code 1 (some .int)) := tbq6 95 (by decide +kernel) rfl
theorem mc_Nb_keys {M : mM} (hd : 13 < mDp M) : mCal M M_Nb_keys 0 := ⟨tb_co_Nb_keys, tb_in_NineBars, ⟨by decide +kernel, by decide +kernel⟩, by decide +kernel, hd, by decide⟩
theorem d_Nb_keys_0 : decode prog_1_method_38_code 0 = .ok (.aload_n 0, 1) := by decide +kernel
theorem d_Nb_keys_1 : decode prog_1_method_38_code 1 = .ok (.invokevirtual 260, 3) := by decide +kernel
theorem d_Nb_keys_4 : decode prog_1_method_38_code 4 = .ok (.aload_n 0, 1) := by decide +kernel
theorem d_Nb_keys_5 : decode prog_1_method_38_code 5 = .ok (.getfield 77, 3) := by decide +kernel
theorem d_Nb_keys_8 : decode prog_1_method_38_code 8 = .ok (.aload_n 0, 1) := by decide +kernel
theorem d_Nb_keys_9 : decode prog_1_method_38_code 9 = .ok (.getfield 48, 3) := by decide +kernel
theorem d_Nb_keys_12 : decode prog_1_method_38_code 12 = .ok (.aload_n 0, 1) := by decide +kernel
theorem d_Nb_keys_13 : decode prog_1_method_38_code 13 = .ok (.getfield 27, 3) := by decide +kernel
theorem d_Nb_keys_16 : decode prog_1_method_38_code 16 = .ok (.aload_n 0, 1) := by decide +kernel
theorem d_Nb_keys_17 : decode prog_1_method_38_code 17 = .ok (.getfield 27, 3) := by decide +kernel
theorem d_Nb_keys_20 : decode prog_1_method_38_code 20 = .ok (.getfield 149, 3) := by decide +kernel
theorem d_Nb_keys_23 : decode prog_1_method_38_code 23 = .ok (.invokevirtual 198, 3) := by decide +kernel
theorem d_Nb_keys_26 : decode prog_1_method_38_code 26 = .ok (.invokevirtual 390, 3) := by decide +kernel
theorem tb_ml_Nb_390 : mTB (Cond.methodLink "NineBars" 390 ⟨"NineBars$Game", "turnsToOpen", "(LNineBars$Graph;I)I"⟩) := tbq6 96 (by decide +kernel) rfl
theorem tb_im_Game_turnsToOpen : mTB (Cond.instanceMethod ⟨"NineBars$Game", "turnsToOpen", "(LNineBars$Graph;I)I"⟩) := tbq6 97 (by decide +kernel) rfl
theorem tb_se_Game_turnsToOpen : mTB (Cond.selects "NineBars$Game" ⟨"NineBars$Game", "turnsToOpen", "(LNineBars$Graph;I)I"⟩ ⟨"NineBars$Game", "turnsToOpen", "(LNineBars$Graph;I)I"⟩) := tbq6 98 (by decide +kernel) rfl
theorem mv_Game_turnsToOpen {M : mM} {idx : Nat} (h : mTB (Cond.methodLink (mO M) idx ⟨"NineBars$Game", "turnsToOpen", "(LNineBars$Graph;I)I"⟩)) : mCaV M M_Game_turnsToOpen idx 3 := ⟨h, tb_im_Game_turnsToOpen, tb_se_Game_turnsToOpen, by decide, TX3, 4, rfl⟩
theorem d_Nb_keys_29 : decode prog_1_method_38_code 29 = .ok (.ireturn, 1) := by decide +kernel
theorem t_Nb_keys {G : mG} (h : mH) (v0 : Int) (r : mR) (hr : f_Nb_keys h v0 = some r) : mJM G M_Nb_keys [(2, v0)] h r := by
  refine mJM_of (L := [(2, v0)]) rfl rfl rfl (Nat.le_of_ble_eq_true rfl) ?_
  unfold f_Nb_keys at hr
  refine j_aload_n (pc := 0) d_Nb_keys_0 rfl ?_
  obtain ⟨ha, hr⟩ := chk_some hr
  refine j_callG (pc := 1) (stk := [(2, v0)]) (as := [(2, v0)]) (P := (fun v9 => [])) (tg := 3) (My := M_Nb_needGraph) (mRunV (as := []) (st := []) d_Nb_keys_1 (mc_Nb_needGraph (by decide)) rfl (mv_Nb_needGraph tb_ml_Nb_260) rfl (Nat.le_of_ble_eq_true rfl) ha) (fun v => rfl) rfl hr (fun r1 h1 => t_Nb_needGraph _ _ _ h1) (fun x2 h1 hr => ?_)
  refine j_aload_n (pc := 4) d_Nb_keys_4 rfl ?_
  refine j_getf (pc := 5) d_Nb_keys_5 (fd_Nb_77 rfl) hr (fun hr => ?_)
  refine j_aload_n (pc := 8) d_Nb_keys_8 rfl ?_
  refine j_getf (pc := 9) d_Nb_keys_9 (fd_Nb_48 rfl) hr (fun hr => ?_)
  refine j_aload_n (pc := 12) d_Nb_keys_12 rfl ?_
  refine j_getf (pc := 13) d_Nb_keys_13 (fd_Nb_27 rfl) hr (fun hr => ?_)
  refine j_aload_n (pc := 16) d_Nb_keys_16 rfl ?_
  refine j_getf (pc := 17) d_Nb_keys_17 (fd_Nb_27 rfl) hr (fun hr => ?_)
  refine j_getf (pc := 20) d_Nb_keys_20 (fd_Nb_149 rfl) hr (fun hr => ?_)
  obtain ⟨ha, hr⟩ := chk_some hr
  refine j_callG (pc := 23) (stk := [(2, hpV h1 (hpV h1 v0 6) 9), (2, hpV h1 v0 6), (2, hpV h1 v0 10), (2, hpV h1 v0 15)]) (as := [(2, hpV h1 v0 6), (2, hpV h1 (hpV h1 v0 6) 9)]) (P := (fun v9 => ((0 : Nat), v9) :: [(2, hpV h1 v0 10), (2, hpV h1 v0 15)])) (tg := 0) (My := M_Box_standOf) (mRunV (as := [(2, hpV h1 (hpV h1 v0 6) 9)]) (st := [(2, hpV h1 v0 10), (2, hpV h1 v0 15)]) d_Nb_keys_23 (mc_Box_standOf (by decide)) rfl (mv_Box_standOf tb_ml_Nb_198) rfl (Nat.le_of_ble_eq_true rfl) ha) (fun v => rfl) rfl hr (fun r1 h1 => t_Box_standOf _ _ _ _ h1) (fun x4 h3 hr => ?_)
  obtain ⟨ha, hr⟩ := chk_some hr
  refine j_callG (pc := 26) (stk := [(0, x4), (2, hpV h1 v0 10), (2, hpV h1 v0 15)]) (as := [(2, hpV h1 v0 15), (2, hpV h1 v0 10), (0, x4)]) (P := (fun v9 => ((0 : Nat), v9) :: [])) (tg := 0) (My := M_Game_turnsToOpen) (mRunV (as := [(2, hpV h1 v0 10), (0, x4)]) (st := []) d_Nb_keys_26 (mc_Game_turnsToOpen (by decide)) rfl (mv_Game_turnsToOpen tb_ml_Nb_390) rfl (Nat.le_of_ble_eq_true rfl) ha) (fun v => rfl) rfl hr (fun r1 h1 => t_Game_turnsToOpen _ _ _ _ _ h1) (fun x6 h5 hr => ?_)
  exact j_iret (pc := 29) d_Nb_keys_29 rfl hr
def M_Tray_layOut : mM := ("NineBars$Tray", ⟨"NineBars$Tray", "layOut", "(II)V"⟩, prog_11_method_2_code, 4, none, [], 1)
theorem tb_co_Tray_layOut : mTB (Cond.code ⟨"NineBars$Tray", "layOut", "(II)V"⟩ prog_11_method_2_code 4 (none)) := tbq6 141 (by decide +kernel) rfl
theorem mc_Tray_layOut {M : mM} (hd : 1 < mDp M) : mCal M M_Tray_layOut 2 := ⟨tb_co_Tray_layOut, tb_in_NineBars_Tray, ⟨by decide +kernel, by decide +kernel⟩, by decide +kernel, hd, by decide⟩
theorem d_Tray_layOut_0 : decode prog_11_method_2_code 0 = .ok (.aload_n 0, 1) := by decide +kernel
theorem d_Tray_layOut_1 : decode prog_11_method_2_code 1 = .ok (.iload_n 1, 1) := by decide +kernel
theorem tb_fl_Tray_19 : mTB (Cond.fieldLink "NineBars$Tray" 19 "NineBars$Tray" "sort" "I") := tbq1 172 (by decide +kernel) rfl
theorem fd_Tray_19 {M : mM} (h : mO M = "NineBars$Tray") : mFld M 19 9 1 0 := ⟨_, _, _, tyX9, rfl, by decide, by decide, rfl, uw_9, tyX9_ok, nmX9, by rw [h]; exact Or.inl tb_fl_Tray_19⟩
theorem d_Tray_layOut_2 : decode prog_11_method_2_code 2 = .ok (.putfield 19, 3) := by decide +kernel
theorem d_Tray_layOut_5 : decode prog_11_method_2_code 5 = .ok (.aload_n 0, 1) := by decide +kernel
theorem d_Tray_layOut_6 : decode prog_11_method_2_code 6 = .ok (.iload_n 2, 1) := by decide +kernel
theorem d_Tray_layOut_7 : decode prog_11_method_2_code 7 = .ok (.putfield 15, 3) := by decide +kernel
theorem d_Tray_layOut_10 : decode prog_11_method_2_code 10 = .ok (.iconst 0, 1) := by decide +kernel
theorem d_Tray_layOut_11 : decode prog_11_method_2_code 11 = .ok (.istore_n 3, 1) := by decide +kernel
theorem d_Tray_layOut_12 : decode prog_11_method_2_code 12 = .ok (.iload_n 3, 1) := by decide +kernel
theorem d_Tray_layOut_13 : decode prog_11_method_2_code 13 = .ok (.bipush 40, 2) := by decide +kernel
theorem d_Tray_layOut_15 : decode prog_11_method_2_code 15 = .ok (.if_icmp .ge 16, 3) := by decide +kernel
theorem d_Tray_layOut_31 : decode prog_11_method_2_code 31 = .ok (.return_, 1) := by decide +kernel
theorem d_Tray_layOut_18 : decode prog_11_method_2_code 18 = .ok (.aload_n 0, 1) := by decide +kernel
theorem d_Tray_layOut_19 : decode prog_11_method_2_code 19 = .ok (.getfield 9, 3) := by decide +kernel
theorem d_Tray_layOut_22 : decode prog_11_method_2_code 22 = .ok (.iload_n 3, 1) := by decide +kernel
theorem d_Tray_layOut_23 : decode prog_11_method_2_code 23 = .ok (.lconst 0, 1) := by decide +kernel
theorem d_Tray_layOut_24 : decode prog_11_method_2_code 24 = .ok (.lastore, 1) := by decide +kernel
theorem d_Tray_layOut_25 : decode prog_11_method_2_code 25 = .ok (.iinc 3 1, 3) := by decide +kernel
theorem d_Tray_layOut_28 : decode prog_11_method_2_code 28 = .ok (.goto (-16), 3) := by decide +kernel
theorem t_Tray_layOut_L12 {G : mG} {r : mR} {v0 : Int}  : ∀ (n : Nat) (h : mH) (v3 : Int), f_Tray_layOut_L12 v0 n h v3 = some r → mJ G M_Tray_layOut 12 [(2, v0), (9, 0), (9, 0), (0, v3)] [] h r := by
  intro n
  induction n with
  | zero =>
    intro h v3 hr
    rw [f_Tray_layOut_L12] at hr
    cases hr
  | succ n hR12 =>
    intro h v3 hr
    rw [f_Tray_layOut_L12] at hr
    refine j_iload_n (pc := 12) d_Tray_layOut_12 rfl ?_
    refine j_bipush (pc := 13) d_Tray_layOut_13 ?_
    refine j_icmp_ge (pc := 15) (tgt := 31) d_Tray_layOut_15 hr (fun hr => ?_) (fun hr => ?_)
    · exact j_vret (pc := 31) d_Tray_layOut_31 rfl hr
    · refine j_aload_n (pc := 18) d_Tray_layOut_18 rfl ?_
      refine j_getf (pc := 19) d_Tray_layOut_19 (fd_Tray_9 rfl) hr (fun hr => ?_)
      refine j_iload_n (pc := 22) d_Tray_layOut_22 rfl ?_
      refine j_lconst (pc := 23) (z := 0) d_Tray_layOut_23 ?_
      refine j_lastore (pc := 24) d_Tray_layOut_24 hr (fun h1 hr => ?_)
      refine j_iincW (pc := 25) (L := fun x2 => [(2, v0), (9, 0), (9, 0), (0, x2)]) d_Tray_layOut_25 rfl (fun _ => rfl) hr (fun x2 hr => ?_)
      refine j_goto (pc := 28) (tgt := 12) d_Tray_layOut_28 ?_
      exact mJ_weak (ls' := [(2, v0), (9, 0), (9, 0), (0, x2)]) (mwk_s (mwk_s (mwk_s (mwk_s mwk_n)))) (hR12 h1 _ hr)
theorem t_Tray_layOut {G : mG} (h : mH) (v0 v1 v2 : Int) (r : mR) (hr : f_Tray_layOut h v0 v1 v2 = some r) : mJM G M_Tray_layOut [(2, v0), (0, v1), (0, v2)] h r := by
  refine mJM_of (L := [(2, v0), (0, v1), (0, v2), (9, 0)]) rfl rfl rfl (Nat.le_of_ble_eq_true rfl) ?_
  unfold f_Tray_layOut at hr
  refine j_aload_n (pc := 0) d_Tray_layOut_0 rfl ?_
  refine j_iload_n (pc := 1) d_Tray_layOut_1 rfl ?_
  refine j_puti (pc := 2) d_Tray_layOut_2 (fd_Tray_19 rfl) (⟨_, _, _, rfl, Or.inl rfl, rfl⟩ : mFldW M_Tray_layOut 19 9 1 .int) hr (fun h1 hr => ?_)
  refine j_aload_n (pc := 5) d_Tray_layOut_5 rfl ?_
  refine j_iload_n (pc := 6) d_Tray_layOut_6 rfl ?_
  refine j_puti (pc := 7) d_Tray_layOut_7 (fd_Tray_15 rfl) (⟨_, _, _, rfl, Or.inl rfl, rfl⟩ : mFldW M_Tray_layOut 15 9 2 .int) hr (fun h2 hr => ?_)
  refine j_iconst (pc := 10) d_Tray_layOut_10 ?_
  refine j_istore_n (pc := 11) (ls' := [(2, v0), (0, v1), (0, v2), (0, 0)]) d_Tray_layOut_11 rfl ?_
  refine mJ_weak (ls' := [(2, v0), (9, 0), (9, 0), (0, 0)]) (mwk_s (mwk_d (mwk_d (mwk_s mwk_n)))) (t_Tray_layOut_L12  _ _ _ hr)
def M_Nb_tray : mM := ("NineBars", ⟨"NineBars", "tray", "(III)V"⟩, prog_1_method_39_code, 4, none, [], 3)
theorem tb_co_Nb_tray : mTB (Cond.code ⟨"NineBars", "tray", "(III)V"⟩ prog_1_method_39_code 4 (none)) := tbq6 136 (by decide +kernel) rfl
theorem mc_Nb_tray {M : mM} (hd : 3 < mDp M) : mCal M M_Nb_tray 3 := ⟨tb_co_Nb_tray, tb_in_NineBars, ⟨by decide +kernel, by decide +kernel⟩, by decide +kernel, hd, by decide⟩
theorem d_Nb_tray_0 : decode prog_1_method_39_code 0 = .ok (.aload_n 0, 1) := by decide +kernel
theorem d_Nb_tray_1 : decode prog_1_method_39_code 1 = .ok (.iload_n 1, 1) := by decide +kernel
theorem d_Nb_tray_2 : decode prog_1_method_39_code 2 = .ok (.invokevirtual 394, 3) := by decide +kernel
theorem d_Nb_tray_5 : decode prog_1_method_39_code 5 = .ok (.iload_n 2, 1) := by decide +kernel
theorem d_Nb_tray_6 : decode prog_1_method_39_code 6 = .ok (.ifCond .lt 18, 3) := by decide +kernel
theorem d_Nb_tray_24 : decode prog_1_method_39_code 24 = .ok (.new 109, 3) := by decide +kernel
theorem d_Nb_tray_27 : decode prog_1_method_39_code 27 = .ok (.dup, 1) := by decide +kernel
theorem d_Nb_tray_28 : decode prog_1_method_39_code 28 = .ok (.ldc_w 397, 3) := by decide +kernel
theorem d_Nb_tray_31 : decode prog_1_method_39_code 31 = .ok (.invokespecial 113, 3) := by decide +kernel
theorem d_Nb_tray_34 : decode prog_1_method_39_code 34 = .ok (.athrow, 1) := by decide +kernel
theorem d_Nb_tray_9 : decode prog_1_method_39_code 9 = .ok (.iload_n 2, 1) := by decide +kernel
theorem d_Nb_tray_10 : decode prog_1_method_39_code 10 = .ok (.iconst 4, 1) := by decide +kernel
theorem d_Nb_tray_11 : decode prog_1_method_39_code 11 = .ok (.if_icmp .ge 13, 3) := by decide +kernel
theorem d_Nb_tray_14 : decode prog_1_method_39_code 14 = .ok (.iload_n 3, 1) := by decide +kernel
theorem d_Nb_tray_15 : decode prog_1_method_39_code 15 = .ok (.ifCond .lt 9, 3) := by decide +kernel
theorem d_Nb_tray_18 : decode prog_1_method_39_code 18 = .ok (.iload_n 3, 1) := by decide +kernel
theorem d_Nb_tray_19 : decode prog_1_method_39_code 19 = .ok (.bipush 40, 2) := by decide +kernel
theorem d_Nb_tray_21 : decode prog_1_method_39_code 21 = .ok (.if_icmp .le 14, 3) := by decide +kernel
theorem d_Nb_tray_35 : decode prog_1_method_39_code 35 = .ok (.aload_n 0, 1) := by decide +kernel
theorem d_Nb_tray_36 : decode prog_1_method_39_code 36 = .ok (.getfield 40, 3) := by decide +kernel
theorem d_Nb_tray_39 : decode prog_1_method_39_code 39 = .ok (.iload_n 1, 1) := by decide +kernel
theorem d_Nb_tray_40 : decode prog_1_method_39_code 40 = .ok (.aaload, 1) := by decide +kernel
theorem d_Nb_tray_41 : decode prog_1_method_39_code 41 = .ok (.iload_n 2, 1) := by decide +kernel
theorem d_Nb_tray_42 : decode prog_1_method_39_code 42 = .ok (.iload_n 3, 1) := by decide +kernel
theorem d_Nb_tray_43 : decode prog_1_method_39_code 43 = .ok (.invokevirtual 399, 3) := by decide +kernel
theorem tb_ml_Nb_399 : mTB (Cond.methodLink "NineBars" 399 ⟨"NineBars$Tray", "layOut", "(II)V"⟩) := tbq6 138 (by decide +kernel) rfl
theorem tb_im_Tray_layOut : mTB (Cond.instanceMethod ⟨"NineBars$Tray", "layOut", "(II)V"⟩) := tbq6 139 (by decide +kernel) rfl
theorem tb_se_Tray_layOut : mTB (Cond.selects "NineBars$Tray" ⟨"NineBars$Tray", "layOut", "(II)V"⟩ ⟨"NineBars$Tray", "layOut", "(II)V"⟩) := tbq6 140 (by decide +kernel) rfl
theorem mv_Tray_layOut {M : mM} {idx : Nat} (h : mTB (Cond.methodLink (mO M) idx ⟨"NineBars$Tray", "layOut", "(II)V"⟩)) : mCaV M M_Tray_layOut idx 9 := ⟨h, tb_im_Tray_layOut, tb_se_Tray_layOut, by decide, TX9, 3, rfl⟩
theorem d_Nb_tray_46 : decode prog_1_method_39_code 46 = .ok (.return_, 1) := by decide +kernel
theorem t_Nb_tray {G : mG} (h : mH) (v0 v1 v2 v3 : Int) (r : mR) (hr : f_Nb_tray h v0 v1 v2 v3 = some r) : mJM G M_Nb_tray [(2, v0), (0, v1), (0, v2), (0, v3)] h r := by
  refine mJM_of (L := [(2, v0), (0, v1), (0, v2), (0, v3)]) rfl rfl rfl (Nat.le_of_ble_eq_true rfl) ?_
  unfold f_Nb_tray at hr
  refine j_aload_n (pc := 0) d_Nb_tray_0 rfl ?_
  refine j_iload_n (pc := 1) d_Nb_tray_1 rfl ?_
  obtain ⟨ha, hr⟩ := chk_some hr
  refine j_callG (pc := 2) (stk := [(0, v1), (2, v0)]) (as := [(2, v0), (0, v1)]) (P := (fun v9 => [])) (tg := 3) (My := M_Nb_needTrayNumber) (mRunV (as := [(0, v1)]) (st := []) d_Nb_tray_2 (mc_Nb_needTrayNumber (by decide)) rfl (mv_Nb_needTrayNumber tb_ml_Nb_394) rfl (Nat.le_of_ble_eq_true rfl) ha) (fun v => rfl) rfl hr (fun r1 h1 => t_Nb_needTrayNumber _ _ _ _ h1) (fun x2 h1 hr => ?_)
  refine j_iload_n (pc := 5) d_Nb_tray_5 rfl ?_
  refine j_if_lt (pc := 6) (tgt := 24) d_Nb_tray_6 hr (fun hr => ?_) (fun hr => ?_)
  · exact j_throwW (pc := 24) (x9 := 7) (text := "no such sort, or not so many") (k := 32) d_Nb_tray_24 d_Nb_tray_27 d_Nb_tray_28 d_Nb_tray_31 d_Nb_tray_34 rfl (by decide +kernel) tb_cl_Nb_109 tb_in_java_lang_IllegalArgumentException (by decide +kernel) rfl (Nat.le_of_ble_eq_true rfl) hr
  · refine j_iload_n (pc := 9) d_Nb_tray_9 rfl ?_
    refine j_iconst (pc := 10) d_Nb_tray_10 ?_
    refine j_icmp_ge (pc := 11) (tgt := 24) d_Nb_tray_11 hr (fun hr => ?_) (fun hr => ?_)
    · exact j_throwW (pc := 24) (x9 := 7) (text := "no such sort, or not so many") (k := 32) d_Nb_tray_24 d_Nb_tray_27 d_Nb_tray_28 d_Nb_tray_31 d_Nb_tray_34 rfl (by decide +kernel) tb_cl_Nb_109 tb_in_java_lang_IllegalArgumentException (by decide +kernel) rfl (Nat.le_of_ble_eq_true rfl) hr
    · refine j_iload_n (pc := 14) d_Nb_tray_14 rfl ?_
      refine j_if_lt (pc := 15) (tgt := 24) d_Nb_tray_15 hr (fun hr => ?_) (fun hr => ?_)
      · exact j_throwW (pc := 24) (x9 := 7) (text := "no such sort, or not so many") (k := 32) d_Nb_tray_24 d_Nb_tray_27 d_Nb_tray_28 d_Nb_tray_31 d_Nb_tray_34 rfl (by decide +kernel) tb_cl_Nb_109 tb_in_java_lang_IllegalArgumentException (by decide +kernel) rfl (Nat.le_of_ble_eq_true rfl) hr
      · refine j_iload_n (pc := 18) d_Nb_tray_18 rfl ?_
        refine j_bipush (pc := 19) d_Nb_tray_19 ?_
        refine j_icmp_le (pc := 21) (tgt := 35) d_Nb_tray_21 hr (fun hr => ?_) (fun hr => ?_)
        · refine j_aload_n (pc := 35) d_Nb_tray_35 rfl ?_
          refine j_getf (pc := 36) d_Nb_tray_36 (fd_Nb_40 rfl) hr (fun hr => ?_)
          refine j_iload_n (pc := 39) d_Nb_tray_39 rfl ?_
          refine j_aaload (pc := 40) d_Nb_tray_40 (by decide) hr (fun hr => ?_)
          refine j_iload_n (pc := 41) d_Nb_tray_41 rfl ?_
          refine j_iload_n (pc := 42) d_Nb_tray_42 rfl ?_
          obtain ⟨ha, hr⟩ := chk_some hr
          refine j_callG (pc := 43) (stk := [(0, v3), (0, v2), (2, hpV h1 (hpV h1 v0 9) v1)]) (as := [(2, hpV h1 (hpV h1 v0 9) v1), (0, v2), (0, v3)]) (P := (fun v9 => [])) (tg := 3) (My := M_Tray_layOut) (mRunV (as := [(0, v2), (0, v3)]) (st := []) d_Nb_tray_43 (mc_Tray_layOut (by decide)) rfl (mv_Tray_layOut tb_ml_Nb_399) rfl (Nat.le_of_ble_eq_true rfl) ha) (fun v => rfl) rfl hr (fun r1 h1 => t_Tray_layOut _ _ _ _ _ h1) (fun x4 h3 hr => ?_)
          exact j_vret (pc := 46) d_Nb_tray_46 rfl hr
        · exact j_throwW (pc := 24) (x9 := 7) (text := "no such sort, or not so many") (k := 32) d_Nb_tray_24 d_Nb_tray_27 d_Nb_tray_28 d_Nb_tray_31 d_Nb_tray_34 rfl (by decide +kernel) tb_cl_Nb_109 tb_in_java_lang_IllegalArgumentException (by decide +kernel) rfl (Nat.le_of_ble_eq_true rfl) hr
def M_Tray_put : mM := ("NineBars$Tray", ⟨"NineBars$Tray", "put", "(IJ)J"⟩, prog_11_method_3_code, 4, some .long, [], 1)
theorem tb_co_Tray_put : mTB (Cond.code ⟨"NineBars$Tray", "put", "(IJ)J"⟩ prog_11_method_3_code 4 (some .long)) := tbq6 169 (by decide +kernel) rfl
theorem mc_Tray_put {M : mM} (hd : 1 < mDp M) : mCal M M_Tray_put 2 := ⟨tb_co_Tray_put, tb_in_NineBars_Tray, ⟨by decide +kernel, by decide +kernel⟩, by decide +kernel, hd, by decide⟩
theorem d_Tray_put_0 : decode prog_11_method_3_code 0 = .ok (.iload_n 1, 1) := by decide +kernel
theorem d_Tray_put_1 : decode prog_11_method_3_code 1 = .ok (.ifCond .lt 9, 3) := by decide +kernel
theorem tb_cj_Tray_22 : mTB (Cond.constantLong "NineBars$Tray" 22 (-1)) := tbq6 170 (by decide +kernel) rfl
theorem d_Tray_put_10 : decode prog_11_method_3_code 10 = .ok (.ldc2_w 22, 3) := by decide +kernel
theorem d_Tray_put_13 : decode prog_11_method_3_code 13 = .ok (.lreturn, 1) := by decide +kernel
theorem d_Tray_put_4 : decode prog_11_method_3_code 4 = .ok (.iload_n 1, 1) := by decide +kernel
theorem d_Tray_put_5 : decode prog_11_method_3_code 5 = .ok (.bipush 40, 2) := by decide +kernel
theorem d_Tray_put_7 : decode prog_11_method_3_code 7 = .ok (.if_icmp .lt 7, 3) := by decide +kernel
theorem d_Tray_put_14 : decode prog_11_method_3_code 14 = .ok (.aload_n 0, 1) := by decide +kernel
theorem d_Tray_put_15 : decode prog_11_method_3_code 15 = .ok (.getfield 9, 3) := by decide +kernel
theorem d_Tray_put_18 : decode prog_11_method_3_code 18 = .ok (.iload_n 1, 1) := by decide +kernel
theorem d_Tray_put_19 : decode prog_11_method_3_code 19 = .ok (.aload_n 0, 1) := by decide +kernel
theorem d_Tray_put_20 : decode prog_11_method_3_code 20 = .ok (.getfield 19, 3) := by decide +kernel
theorem d_Tray_put_23 : decode prog_11_method_3_code 23 = .ok (.ifCond .ne 10, 3) := by decide +kernel
theorem d_Tray_put_33 : decode prog_11_method_3_code 33 = .ok (.aload_n 0, 1) := by decide +kernel
theorem d_Tray_put_34 : decode prog_11_method_3_code 34 = .ok (.getfield 19, 3) := by decide +kernel
theorem d_Tray_put_37 : decode prog_11_method_3_code 37 = .ok (.iconst 1, 1) := by decide +kernel
theorem d_Tray_put_38 : decode prog_11_method_3_code 38 = .ok (.if_icmp .ne 10, 3) := by decide +kernel
theorem d_Tray_put_48 : decode prog_11_method_3_code 48 = .ok (.aload_n 0, 1) := by decide +kernel
theorem d_Tray_put_49 : decode prog_11_method_3_code 49 = .ok (.getfield 19, 3) := by decide +kernel
theorem d_Tray_put_52 : decode prog_11_method_3_code 52 = .ok (.iconst 2, 1) := by decide +kernel
theorem d_Tray_put_53 : decode prog_11_method_3_code 53 = .ok (.if_icmp .ne 9, 3) := by decide +kernel
theorem d_Tray_put_62 : decode prog_11_method_3_code 62 = .ok (.lload_n 2, 1) := by decide +kernel
theorem d_Tray_put_63 : decode prog_11_method_3_code 63 = .ok (.lastore, 1) := by decide +kernel
theorem d_Tray_put_64 : decode prog_11_method_3_code 64 = .ok (.aload_n 0, 1) := by decide +kernel
theorem d_Tray_put_65 : decode prog_11_method_3_code 65 = .ok (.getfield 9, 3) := by decide +kernel
theorem d_Tray_put_68 : decode prog_11_method_3_code 68 = .ok (.iload_n 1, 1) := by decide +kernel
theorem d_Tray_put_69 : decode prog_11_method_3_code 69 = .ok (.laload, 1) := by decide +kernel
theorem d_Tray_put_70 : decode prog_11_method_3_code 70 = .ok (.lreturn, 1) := by decide +kernel
theorem d_Tray_put_56 : decode prog_11_method_3_code 56 = .ok (.lload_n 2, 1) := by decide +kernel
theorem d_Tray_put_57 : decode prog_11_method_3_code 57 = .ok (.l2i, 1) := by decide +kernel
theorem d_Tray_put_58 : decode prog_11_method_3_code 58 = .ok (.i2l, 1) := by decide +kernel
theorem d_Tray_put_59 : decode prog_11_method_3_code 59 = .ok (.goto 4, 3) := by decide +kernel
theorem d_Tray_put_41 : decode prog_11_method_3_code 41 = .ok (.lload_n 2, 1) := by decide +kernel
theorem d_Tray_put_42 : decode prog_11_method_3_code 42 = .ok (.l2i, 1) := by decide +kernel
theorem d_Tray_put_43 : decode prog_11_method_3_code 43 = .ok (.i2s, 1) := by decide +kernel
theorem d_Tray_put_44 : decode prog_11_method_3_code 44 = .ok (.i2l, 1) := by decide +kernel
theorem d_Tray_put_45 : decode prog_11_method_3_code 45 = .ok (.goto 18, 3) := by decide +kernel
theorem d_Tray_put_26 : decode prog_11_method_3_code 26 = .ok (.lload_n 2, 1) := by decide +kernel
theorem d_Tray_put_27 : decode prog_11_method_3_code 27 = .ok (.l2i, 1) := by decide +kernel
theorem d_Tray_put_28 : decode prog_11_method_3_code 28 = .ok (.i2b, 1) := by decide +kernel
theorem d_Tray_put_29 : decode prog_11_method_3_code 29 = .ok (.i2l, 1) := by decide +kernel
theorem d_Tray_put_30 : decode prog_11_method_3_code 30 = .ok (.goto 33, 3) := by decide +kernel
theorem t_Tray_put_J63 {G : mG} {r : mR} {v0 v1 s0 s1 s2 : Int} {h : mH}  (hr : f_Tray_put_J63 v0 v1 s0 s1 s2 h = some r) : mJ G M_Tray_put 63 [(2, v0), (0, v1), (9, 0), (9, 0)] [(1, s2), (0, s1), (2, s0)] h r := by
  unfold f_Tray_put_J63 at hr
  refine j_lastore (pc := 63) d_Tray_put_63 hr (fun h1 hr => ?_)
  refine j_aload_n (pc := 64) d_Tray_put_64 rfl ?_
  refine j_getf (pc := 65) d_Tray_put_65 (fd_Tray_9 rfl) hr (fun hr => ?_)
  refine j_iload_n (pc := 68) d_Tray_put_68 rfl ?_
  refine j_laload (pc := 69) d_Tray_put_69 hr (fun hr => ?_)
  exact j_lret (pc := 70) d_Tray_put_70 rfl hr
theorem t_Tray_put {G : mG} (h : mH) (v0 v1 v2 : Int) (r : mR) (hr : f_Tray_put h v0 v1 v2 = some r) : mJM G M_Tray_put [(2, v0), (0, v1), (1, v2)] h r := by
  refine mJM_of (L := [(2, v0), (0, v1), (1, v2), (9, 0)]) rfl rfl rfl (Nat.le_of_ble_eq_true rfl) ?_
  unfold f_Tray_put at hr
  refine j_iload_n (pc := 0) d_Tray_put_0 rfl ?_
  refine j_if_lt (pc := 1) (tgt := 10) d_Tray_put_1 hr (fun hr => ?_) (fun hr => ?_)
  · refine j_ldc2 (pc := 10) (z := (-1)) d_Tray_put_10 tb_cj_Tray_22 rfl ?_
    exact j_lret (pc := 13) d_Tray_put_13 rfl hr
  · refine j_iload_n (pc := 4) d_Tray_put_4 rfl ?_
    refine j_bipush (pc := 5) d_Tray_put_5 ?_
    refine j_icmp_lt (pc := 7) (tgt := 14) d_Tray_put_7 hr (fun hr => ?_) (fun hr => ?_)
    · refine j_aload_n (pc := 14) d_Tray_put_14 rfl ?_
      refine j_getf (pc := 15) d_Tray_put_15 (fd_Tray_9 rfl) hr (fun hr => ?_)
      refine j_iload_n (pc := 18) d_Tray_put_18 rfl ?_
      refine j_aload_n (pc := 19) d_Tray_put_19 rfl ?_
      refine j_getf (pc := 20) d_Tray_put_20 (fd_Tray_19 rfl) hr (fun hr => ?_)
      refine j_if_ne (pc := 23) (tgt := 33) d_Tray_put_23 hr (fun hr => ?_) (fun hr => ?_)
      · refine j_aload_n (pc := 33) d_Tray_put_33 rfl ?_
        refine j_getf (pc := 34) d_Tray_put_34 (fd_Tray_19 rfl) hr (fun hr => ?_)
        refine j_iconst (pc := 37) d_Tray_put_37 ?_
        refine j_icmp_ne (pc := 38) (tgt := 48) d_Tray_put_38 hr (fun hr => ?_) (fun hr => ?_)
        · refine j_aload_n (pc := 48) d_Tray_put_48 rfl ?_
          refine j_getf (pc := 49) d_Tray_put_49 (fd_Tray_19 rfl) hr (fun hr => ?_)
          refine j_iconst (pc := 52) d_Tray_put_52 ?_
          refine j_icmp_ne (pc := 53) (tgt := 62) d_Tray_put_53 hr (fun hr => ?_) (fun hr => ?_)
          · refine j_lload_n (pc := 62) d_Tray_put_62 rfl ?_
            exact mJ_weak (ls' := [(2, v0), (0, v1), (9, 0), (9, 0)]) (mwk_s (mwk_s (mwk_d (mwk_s mwk_n)))) (t_Tray_put_J63  hr)
          · refine j_lload_n (pc := 56) d_Tray_put_56 rfl ?_
            refine j_l2i (pc := 57) d_Tray_put_57 ?_
            refine j_i2l (pc := 58) d_Tray_put_58 ?_
            refine j_goto (pc := 59) (tgt := 63) d_Tray_put_59 ?_
            exact mJ_weak (ls' := [(2, v0), (0, v1), (9, 0), (9, 0)]) (mwk_s (mwk_s (mwk_d (mwk_s mwk_n)))) (t_Tray_put_J63  hr)
        · refine j_lload_n (pc := 41) d_Tray_put_41 rfl ?_
          refine j_l2i (pc := 42) d_Tray_put_42 ?_
          refine j_i2s (pc := 43) d_Tray_put_43 ?_
          refine j_i2l (pc := 44) d_Tray_put_44 ?_
          refine j_goto (pc := 45) (tgt := 63) d_Tray_put_45 ?_
          exact mJ_weak (ls' := [(2, v0), (0, v1), (9, 0), (9, 0)]) (mwk_s (mwk_s (mwk_d (mwk_s mwk_n)))) (t_Tray_put_J63  hr)
      · refine j_lload_n (pc := 26) d_Tray_put_26 rfl ?_
        refine j_l2i (pc := 27) d_Tray_put_27 ?_
        refine j_i2b (pc := 28) d_Tray_put_28 ?_
        refine j_i2l (pc := 29) d_Tray_put_29 ?_
        refine j_goto (pc := 30) (tgt := 63) d_Tray_put_30 ?_
        exact mJ_weak (ls' := [(2, v0), (0, v1), (9, 0), (9, 0)]) (mwk_s (mwk_s (mwk_d (mwk_s mwk_n)))) (t_Tray_put_J63  hr)
    · refine j_ldc2 (pc := 10) (z := (-1)) d_Tray_put_10 tb_cj_Tray_22 rfl ?_
      exact j_lret (pc := 13) d_Tray_put_13 rfl hr
def M_Nb_write : mM := ("NineBars", ⟨"NineBars", "write", "(IIJ)J"⟩, prog_1_method_40_code, 6, some .long, [], 5)
theorem tb_co_Nb_write : mTB (Cond.code ⟨"NineBars", "write", "(IIJ)J"⟩ prog_1_method_40_code 6 (some .long)) := tbq6 149 (by decide +kernel) rfl
theorem mc_Nb_write {M : mM} (hd : 5 < mDp M) : mCal M M_Nb_write 3 := ⟨tb_co_Nb_write, tb_in_NineBars, ⟨by decide +kernel, by decide +kernel⟩, by decide +kernel, hd, by decide⟩
theorem d_Nb_write_0 : decode prog_1_method_40_code 0 = .ok (.aload_n 0, 1) := by decide +kernel
theorem d_Nb_write_1 : decode prog_1_method_40_code 1 = .ok (.iload_n 1, 1) := by decide +kernel
theorem d_Nb_write_2 : decode prog_1_method_40_code 2 = .ok (.invokevirtual 228, 3) := by decide +kernel
theorem d_Nb_write_5 : decode prog_1_method_40_code 5 = .ok (.astore 5, 2) := by decide +kernel
theorem d_Nb_write_7 : decode prog_1_method_40_code 7 = .ok (.iload_n 2, 1) := by decide +kernel
theorem d_Nb_write_8 : decode prog_1_method_40_code 8 = .ok (.ifCond .lt 12, 3) := by decide +kernel
theorem d_Nb_write_20 : decode prog_1_method_40_code 20 = .ok (.new 402, 3) := by decide +kernel
theorem d_Nb_write_23 : decode prog_1_method_40_code 23 = .ok (.dup, 1) := by decide +kernel
theorem d_Nb_write_24 : decode prog_1_method_40_code 24 = .ok (.ldc_w 404, 3) := by decide +kernel
theorem d_Nb_write_27 : decode prog_1_method_40_code 27 = .ok (.invokespecial 406, 3) := by decide +kernel
theorem d_Nb_write_30 : decode prog_1_method_40_code 30 = .ok (.athrow, 1) := by decide +kernel
theorem tb_cl_Nb_402 : mTB (Cond.classLink "NineBars" 402 "java/lang/IndexOutOfBoundsException") := tbq6 150 (by decide +kernel) rfl
theorem tb_in_java_lang_IndexOutOfBoundsException : mTB (Cond.initialized "java/lang/IndexOutOfBoundsException") := tbq1 26 (by decide +kernel) rfl
theorem d_Nb_write_11 : decode prog_1_method_40_code 11 = .ok (.iload_n 2, 1) := by decide +kernel
theorem d_Nb_write_12 : decode prog_1_method_40_code 12 = .ok (.aload 5, 2) := by decide +kernel
theorem d_Nb_write_14 : decode prog_1_method_40_code 14 = .ok (.getfield 234, 3) := by decide +kernel
theorem d_Nb_write_17 : decode prog_1_method_40_code 17 = .ok (.if_icmp .lt 14, 3) := by decide +kernel
theorem d_Nb_write_31 : decode prog_1_method_40_code 31 = .ok (.aload 5, 2) := by decide +kernel
theorem d_Nb_write_33 : decode prog_1_method_40_code 33 = .ok (.iload_n 2, 1) := by decide +kernel
theorem d_Nb_write_34 : decode prog_1_method_40_code 34 = .ok (.lload_n 3, 1) := by decide +kernel
theorem d_Nb_write_35 : decode prog_1_method_40_code 35 = .ok (.invokevirtual 407, 3) := by decide +kernel
theorem tb_ml_Nb_407 : mTB (Cond.methodLink "NineBars" 407 ⟨"NineBars$Tray", "put", "(IJ)J"⟩) := tbq6 166 (by decide +kernel) rfl
theorem tb_im_Tray_put : mTB (Cond.instanceMethod ⟨"NineBars$Tray", "put", "(IJ)J"⟩) := tbq6 167 (by decide +kernel) rfl
theorem tb_se_Tray_put : mTB (Cond.selects "NineBars$Tray" ⟨"NineBars$Tray", "put", "(IJ)J"⟩ ⟨"NineBars$Tray", "put", "(IJ)J"⟩) := tbq6 168 (by decide +kernel) rfl
theorem mv_Tray_put {M : mM} {idx : Nat} (h : mTB (Cond.methodLink (mO M) idx ⟨"NineBars$Tray", "put", "(IJ)J"⟩)) : mCaV M M_Tray_put idx 9 := ⟨h, tb_im_Tray_put, tb_se_Tray_put, by decide, TX9, 3, rfl⟩
theorem d_Nb_write_38 : decode prog_1_method_40_code 38 = .ok (.lreturn, 1) := by decide +kernel
theorem t_Nb_write {G : mG} (h : mH) (v0 v1 v2 v3 : Int) (r : mR) (hr : f_Nb_write h v0 v1 v2 v3 = some r) : mJM G M_Nb_write [(2, v0), (0, v1), (0, v2), (1, v3)] h r := by
  refine mJM_of (L := [(2, v0), (0, v1), (0, v2), (1, v3), (9, 0), (9, 0)]) rfl rfl rfl (Nat.le_of_ble_eq_true rfl) ?_
  unfold f_Nb_write at hr
  refine j_aload_n (pc := 0) d_Nb_write_0 rfl ?_
  refine j_iload_n (pc := 1) d_Nb_write_1 rfl ?_
  obtain ⟨ha, hr⟩ := chk_some hr
  refine j_callG (pc := 2) (stk := [(0, v1), (2, v0)]) (as := [(2, v0), (0, v1)]) (P := (fun v9 => ((2 : Nat), v9) :: [])) (tg := 2) (My := M_Nb_needTray) (mRunV (as := [(0, v1)]) (st := []) d_Nb_write_2 (mc_Nb_needTray (by decide)) rfl (mv_Nb_needTray tb_ml_Nb_228) rfl (Nat.le_of_ble_eq_true rfl) ha) (fun v => rfl) rfl hr (fun r1 h1 => t_Nb_needTray _ _ _ _ h1) (fun x2 h1 hr => ?_)
  refine j_astore (pc := 5) (ls' := [(2, v0), (0, v1), (0, v2), (1, v3), (9, 0), (2, x2)]) d_Nb_write_5 rfl ?_
  refine j_iload_n (pc := 7) d_Nb_write_7 rfl ?_
  refine j_if_lt (pc := 8) (tgt := 20) d_Nb_write_8 hr (fun hr => ?_) (fun hr => ?_)
  · exact j_throwW (pc := 20) (x9 := 7) (text := "no such place") (k := 33) d_Nb_write_20 d_Nb_write_23 d_Nb_write_24 d_Nb_write_27 d_Nb_write_30 rfl (by decide +kernel) tb_cl_Nb_402 tb_in_java_lang_IndexOutOfBoundsException (by decide +kernel) rfl (Nat.le_of_ble_eq_true rfl) hr
  · refine j_iload_n (pc := 11) d_Nb_write_11 rfl ?_
    refine j_aload (pc := 12) d_Nb_write_12 rfl ?_
    refine j_getf (pc := 14) d_Nb_write_14 (fd_Nb_234 rfl) hr (fun hr => ?_)
    refine j_icmp_lt (pc := 17) (tgt := 31) d_Nb_write_17 hr (fun hr => ?_) (fun hr => ?_)
    · refine j_aload (pc := 31) d_Nb_write_31 rfl ?_
      refine j_iload_n (pc := 33) d_Nb_write_33 rfl ?_
      refine j_lload_n (pc := 34) d_Nb_write_34 rfl ?_
      obtain ⟨ha, hr⟩ := chk_some hr
      refine j_callG (pc := 35) (stk := [(1, v3), (0, v2), (2, x2)]) (as := [(2, x2), (0, v2), (1, v3)]) (P := (fun v9 => ((1 : Nat), v9) :: [])) (tg := 1) (My := M_Tray_put) (mRunV (as := [(0, v2), (1, v3)]) (st := []) d_Nb_write_35 (mc_Tray_put (by decide)) rfl (mv_Tray_put tb_ml_Nb_407) rfl (Nat.le_of_ble_eq_true rfl) ha) (fun v => rfl) rfl hr (fun r1 h1 => t_Tray_put _ _ _ _ _ h1) (fun x4 h3 hr => ?_)
      exact j_lret (pc := 38) d_Nb_write_38 rfl hr
    · exact j_throwW (pc := 20) (x9 := 7) (text := "no such place") (k := 33) d_Nb_write_20 d_Nb_write_23 d_Nb_write_24 d_Nb_write_27 d_Nb_write_30 rfl (by decide +kernel) tb_cl_Nb_402 tb_in_java_lang_IndexOutOfBoundsException (by decide +kernel) rfl (Nat.le_of_ble_eq_true rfl) hr
def M_Nb_pour : mM := ("NineBars", ⟨"NineBars", "pour", "(I)I"⟩, prog_1_method_41_code, 8, some .int, [], 13)
theorem tb_co_Nb_pour : mTB (Cond.code ⟨"NineBars", "pour", "(I)I"⟩ prog_1_method_41_code 8 (some .int)) := tbq6 177 (by decide +kernel) rfl
theorem mc_Nb_pour {M : mM} (hd : 13 < mDp M) : mCal M M_Nb_pour 1 := ⟨tb_co_Nb_pour, tb_in_NineBars, ⟨by decide +kernel, by decide +kernel⟩, by decide +kernel, hd, by decide⟩
theorem d_Nb_pour_0 : decode prog_1_method_41_code 0 = .ok (.aload_n 0, 1) := by decide +kernel
theorem d_Nb_pour_1 : decode prog_1_method_41_code 1 = .ok (.iload_n 1, 1) := by decide +kernel
theorem d_Nb_pour_2 : decode prog_1_method_41_code 2 = .ok (.invokevirtual 228, 3) := by decide +kernel
theorem d_Nb_pour_5 : decode prog_1_method_41_code 5 = .ok (.astore_n 2, 1) := by decide +kernel
theorem d_Nb_pour_6 : decode prog_1_method_41_code 6 = .ok (.aload_n 0, 1) := by decide +kernel
theorem d_Nb_pour_7 : decode prog_1_method_41_code 7 = .ok (.invokevirtual 260, 3) := by decide +kernel
theorem d_Nb_pour_10 : decode prog_1_method_41_code 10 = .ok (.aload_n 0, 1) := by decide +kernel
theorem d_Nb_pour_11 : decode prog_1_method_41_code 11 = .ok (.invokevirtual 274, 3) := by decide +kernel
theorem d_Nb_pour_14 : decode prog_1_method_41_code 14 = .ok (.astore_n 3, 1) := by decide +kernel
theorem d_Nb_pour_15 : decode prog_1_method_41_code 15 = .ok (.aload_n 0, 1) := by decide +kernel
theorem d_Nb_pour_16 : decode prog_1_method_41_code 16 = .ok (.getfield 27, 3) := by decide +kernel
theorem d_Nb_pour_19 : decode prog_1_method_41_code 19 = .ok (.aload_n 0, 1) := by decide +kernel
theorem d_Nb_pour_20 : decode prog_1_method_41_code 20 = .ok (.getfield 27, 3) := by decide +kernel
theorem d_Nb_pour_23 : decode prog_1_method_41_code 23 = .ok (.getfield 149, 3) := by decide +kernel
theorem d_Nb_pour_26 : decode prog_1_method_41_code 26 = .ok (.invokevirtual 198, 3) := by decide +kernel
theorem d_Nb_pour_29 : decode prog_1_method_41_code 29 = .ok (.istore 4, 2) := by decide +kernel
theorem d_Nb_pour_31 : decode prog_1_method_41_code 31 = .ok (.aload_n 2, 1) := by decide +kernel
theorem d_Nb_pour_32 : decode prog_1_method_41_code 32 = .ok (.getfield 234, 3) := by decide +kernel
theorem d_Nb_pour_35 : decode prog_1_method_41_code 35 = .ok (.iconst 0, 1) := by decide +kernel
theorem d_Nb_pour_36 : decode prog_1_method_41_code 36 = .ok (.aload_n 3, 1) := by decide +kernel
theorem d_Nb_pour_37 : decode prog_1_method_41_code 37 = .ok (.iload 4, 2) := by decide +kernel
theorem d_Nb_pour_39 : decode prog_1_method_41_code 39 = .ok (.invokevirtual 263, 3) := by decide +kernel
theorem d_Nb_pour_42 : decode prog_1_method_41_code 42 = .ok (.invokestatic 411, 3) := by decide +kernel
theorem d_Nb_pour_45 : decode prog_1_method_41_code 45 = .ok (.invokestatic 416, 3) := by decide +kernel
theorem d_Nb_pour_48 : decode prog_1_method_41_code 48 = .ok (.istore 5, 2) := by decide +kernel
theorem d_Nb_pour_50 : decode prog_1_method_41_code 50 = .ok (.iconst 0, 1) := by decide +kernel
theorem d_Nb_pour_51 : decode prog_1_method_41_code 51 = .ok (.istore 6, 2) := by decide +kernel
theorem d_Nb_pour_53 : decode prog_1_method_41_code 53 = .ok (.iload 6, 2) := by decide +kernel
theorem d_Nb_pour_55 : decode prog_1_method_41_code 55 = .ok (.iload 5, 2) := by decide +kernel
theorem d_Nb_pour_57 : decode prog_1_method_41_code 57 = .ok (.if_icmp .ge 44, 3) := by decide +kernel
theorem d_Nb_pour_101 : decode prog_1_method_41_code 101 = .ok (.iload 5, 2) := by decide +kernel
theorem d_Nb_pour_103 : decode prog_1_method_41_code 103 = .ok (.ireturn, 1) := by decide +kernel
theorem d_Nb_pour_60 : decode prog_1_method_41_code 60 = .ok (.aload_n 3, 1) := by decide +kernel
theorem d_Nb_pour_61 : decode prog_1_method_41_code 61 = .ok (.aload_n 0, 1) := by decide +kernel
theorem d_Nb_pour_62 : decode prog_1_method_41_code 62 = .ok (.getfield 48, 3) := by decide +kernel
theorem d_Nb_pour_65 : decode prog_1_method_41_code 65 = .ok (.iload 4, 2) := by decide +kernel
theorem d_Nb_pour_67 : decode prog_1_method_41_code 67 = .ok (.invokevirtual 419, 3) := by decide +kernel
theorem tb_ml_Nb_419 : mTB (Cond.methodLink "NineBars" 419 ⟨"NineBars$Paths", "lineFrom", "(LNineBars$Graph;I)I"⟩) := tbq6 178 (by decide +kernel) rfl
theorem d_Nb_pour_70 : decode prog_1_method_41_code 70 = .ok (.istore 7, 2) := by decide +kernel
theorem d_Nb_pour_72 : decode prog_1_method_41_code 72 = .ok (.aload_n 2, 1) := by decide +kernel
theorem d_Nb_pour_73 : decode prog_1_method_41_code 73 = .ok (.iload 6, 2) := by decide +kernel
theorem d_Nb_pour_75 : decode prog_1_method_41_code 75 = .ok (.iload 7, 2) := by decide +kernel
theorem d_Nb_pour_77 : decode prog_1_method_41_code 77 = .ok (.i2l, 1) := by decide +kernel
theorem d_Nb_pour_78 : decode prog_1_method_41_code 78 = .ok (.invokevirtual 407, 3) := by decide +kernel
theorem d_Nb_pour_81 : decode prog_1_method_41_code 81 = .ok (.pop2, 1) := by decide +kernel
theorem d_Nb_pour_82 : decode prog_1_method_41_code 82 = .ok (.aload_n 0, 1) := by decide +kernel
theorem d_Nb_pour_83 : decode prog_1_method_41_code 83 = .ok (.getfield 48, 3) := by decide +kernel
theorem d_Nb_pour_86 : decode prog_1_method_41_code 86 = .ok (.iload 4, 2) := by decide +kernel
theorem d_Nb_pour_88 : decode prog_1_method_41_code 88 = .ok (.iload 7, 2) := by decide +kernel
theorem d_Nb_pour_90 : decode prog_1_method_41_code 90 = .ok (.invokevirtual 422, 3) := by decide +kernel
theorem tb_ml_Nb_422 : mTB (Cond.methodLink "NineBars" 422 ⟨"NineBars$Graph", "behind", "(II)I"⟩) := tbq6 179 (by decide +kernel) rfl
theorem d_Nb_pour_93 : decode prog_1_method_41_code 93 = .ok (.istore 4, 2) := by decide +kernel
theorem d_Nb_pour_95 : decode prog_1_method_41_code 95 = .ok (.iinc 6 1, 3) := by decide +kernel
theorem d_Nb_pour_98 : decode prog_1_method_41_code 98 = .ok (.goto (-45), 3) := by decide +kernel
theorem t_Nb_pour_L53 {G : mG} {r : mR} {v0 v2 v3 v5 : Int}  : ∀ (n : Nat) (h : mH) (v4 v6 : Int), f_Nb_pour_L53 v0 v2 v3 v5 n h v4 v6 = some r → mJ G M_Nb_pour 53 [(2, v0), (9, 0), (2, v2), (2, v3), (0, v4), (0, v5), (0, v6), (9, 0)] [] h r := by
  intro n
  induction n with
  | zero =>
    intro h v4 v6 hr
    rw [f_Nb_pour_L53] at hr
    cases hr
  | succ n hR53 =>
    intro h v4 v6 hr
    rw [f_Nb_pour_L53] at hr
    refine j_iload (pc := 53) d_Nb_pour_53 rfl ?_
    refine j_iload (pc := 55) d_Nb_pour_55 rfl ?_
    refine j_icmp_ge (pc := 57) (tgt := 101) d_Nb_pour_57 hr (fun hr => ?_) (fun hr => ?_)
    · refine j_iload (pc := 101) d_Nb_pour_101 rfl ?_
      exact j_iret (pc := 103) d_Nb_pour_103 rfl hr
    · refine j_aload_n (pc := 60) d_Nb_pour_60 rfl ?_
      refine j_aload_n (pc := 61) d_Nb_pour_61 rfl ?_
      refine j_getf (pc := 62) d_Nb_pour_62 (fd_Nb_48 rfl) hr (fun hr => ?_)
      refine j_iload (pc := 65) d_Nb_pour_65 rfl ?_
      obtain ⟨ha, hr⟩ := chk_some hr
      refine j_callG (pc := 67) (stk := [(0, v4), (2, hpV h v0 10), (2, v3)]) (as := [(2, v3), (2, hpV h v0 10), (0, v4)]) (P := (fun v9 => ((0 : Nat), v9) :: [])) (tg := 0) (My := M_Paths_lineFrom) (mRunV (as := [(2, hpV h v0 10), (0, v4)]) (st := []) d_Nb_pour_67 (mc_Paths_lineFrom (by decide)) rfl (mv_Paths_lineFrom tb_ml_Nb_419) rfl (Nat.le_of_ble_eq_true rfl) ha) (fun v => rfl) rfl hr (fun r1 h1 => t_Paths_lineFrom _ _ _ _ _ h1) (fun x2 h1 hr => ?_)
      refine j_istore (pc := 70) (ls' := [(2, v0), (9, 0), (2, v2), (2, v3), (0, v4), (0, v5), (0, v6), (0, x2)]) d_Nb_pour_70 rfl ?_
      refine j_aload_n (pc := 72) d_Nb_pour_72 rfl ?_
      refine j_iload (pc := 73) d_Nb_pour_73 rfl ?_
      refine j_iload (pc := 75) d_Nb_pour_75 rfl ?_
      refine j_i2l (pc := 77) d_Nb_pour_77 ?_
      obtain ⟨ha, hr⟩ := chk_some hr
      refine j_callG (pc := 78) (stk := [(1, x2), (0, v6), (2, v2)]) (as := [(2, v2), (0, v6), (1, x2)]) (P := (fun v9 => ((1 : Nat), v9) :: [])) (tg := 1) (My := M_Tray_put) (mRunV (as := [(0, v6), (1, x2)]) (st := []) d_Nb_pour_78 (mc_Tray_put (by decide)) rfl (mv_Tray_put tb_ml_Nb_407) rfl (Nat.le_of_ble_eq_true rfl) ha) (fun v => rfl) rfl hr (fun r1 h1 => t_Tray_put _ _ _ _ _ h1) (fun x4 h3 hr => ?_)
      refine j_pop2 (pc := 81) d_Nb_pour_81 ?_
      refine j_aload_n (pc := 82) d_Nb_pour_82 rfl ?_
      refine j_getf (pc := 83) d_Nb_pour_83 (fd_Nb_48 rfl) hr (fun hr => ?_)
      refine j_iload (pc := 86) d_Nb_pour_86 rfl ?_
      refine j_iload (pc := 88) d_Nb_pour_88 rfl ?_
      obtain ⟨ha, hr⟩ := chk_some hr
      refine j_callG (pc := 90) (stk := [(0, x2), (0, v4), (2, hpV h3 v0 10)]) (as := [(2, hpV h3 v0 10), (0, v4), (0, x2)]) (P := (fun v9 => ((0 : Nat), v9) :: [])) (tg := 0) (My := M_Graph_behind) (mRunV (as := [(0, v4), (0, x2)]) (st := []) d_Nb_pour_90 (mc_Graph_behind (by decide)) rfl (mv_Graph_behind tb_ml_Nb_422) rfl (Nat.le_of_ble_eq_true rfl) ha) (fun v => rfl) rfl hr (fun r1 h1 => t_Graph_behind _ _ _ _ _ h1) (fun x6 h5 hr => ?_)
      refine j_istore (pc := 93) (ls' := [(2, v0), (9, 0), (2, v2), (2, v3), (0, x6), (0, v5), (0, v6), (0, x2)]) d_Nb_pour_93 rfl ?_
      refine j_iincW (pc := 95) (L := fun x7 => [(2, v0), (9, 0), (2, v2), (2, v3), (0, x6), (0, v5), (0, x7), (0, x2)]) d_Nb_pour_95 rfl (fun _ => rfl) hr (fun x7 hr => ?_)
      refine j_goto (pc := 98) (tgt := 53) d_Nb_pour_98 ?_
      exact mJ_weak (ls' := [(2, v0), (9, 0), (2, v2), (2, v3), (0, x6), (0, v5), (0, x7), (9, 0)]) (mwk_s (mwk_s (mwk_s (mwk_s (mwk_s (mwk_s (mwk_s (mwk_d mwk_n)))))))) (hR53 h5 _ _ hr)
theorem t_Nb_pour {G : mG} (h : mH) (v0 v1 : Int) (r : mR) (hr : f_Nb_pour h v0 v1 = some r) : mJM G M_Nb_pour [(2, v0), (0, v1)] h r := by
  refine mJM_of (L := [(2, v0), (0, v1), (9, 0), (9, 0), (9, 0), (9, 0), (9, 0), (9, 0)]) rfl rfl rfl (Nat.le_of_ble_eq_true rfl) ?_
  unfold f_Nb_pour at hr
  refine j_aload_n (pc := 0) d_Nb_pour_0 rfl ?_
  refine j_iload_n (pc := 1) d_Nb_pour_1 rfl ?_
  obtain ⟨ha, hr⟩ := chk_some hr
  refine j_callG (pc := 2) (stk := [(0, v1), (2, v0)]) (as := [(2, v0), (0, v1)]) (P := (fun v9 => ((2 : Nat), v9) :: [])) (tg := 2) (My := M_Nb_needTray) (mRunV (as := [(0, v1)]) (st := []) d_Nb_pour_2 (mc_Nb_needTray (by decide)) rfl (mv_Nb_needTray tb_ml_Nb_228) rfl (Nat.le_of_ble_eq_true rfl) ha) (fun v => rfl) rfl hr (fun r1 h1 => t_Nb_needTray _ _ _ _ h1) (fun x2 h1 hr => ?_)
  refine j_astore_n (pc := 5) (ls' := [(2, v0), (0, v1), (2, x2), (9, 0), (9, 0), (9, 0), (9, 0), (9, 0)]) d_Nb_pour_5 rfl ?_
  refine j_aload_n (pc := 6) d_Nb_pour_6 rfl ?_
  obtain ⟨ha, hr⟩ := chk_some hr
  refine j_callG (pc := 7) (stk := [(2, v0)]) (as := [(2, v0)]) (P := (fun v9 => [])) (tg := 3) (My := M_Nb_needGraph) (mRunV (as := []) (st := []) d_Nb_pour_7 (mc_Nb_needGraph (by decide)) rfl (mv_Nb_needGraph tb_ml_Nb_260) rfl (Nat.le_of_ble_eq_true rfl) ha) (fun v => rfl) rfl hr (fun r1 h1 => t_Nb_needGraph _ _ _ h1) (fun x4 h3 hr => ?_)
  refine j_aload_n (pc := 10) d_Nb_pour_10 rfl ?_
  obtain ⟨ha, hr⟩ := chk_some hr
  refine j_callG (pc := 11) (stk := [(2, v0)]) (as := [(2, v0)]) (P := (fun v9 => ((2 : Nat), v9) :: [])) (tg := 2) (My := M_Nb_toOpen) (mRunV (as := []) (st := []) d_Nb_pour_11 (mc_Nb_toOpen (by decide)) rfl (mv_Nb_toOpen tb_ml_Nb_274) rfl (Nat.le_of_ble_eq_true rfl) ha) (fun v => rfl) rfl hr (fun r1 h1 => t_Nb_toOpen _ _ _ h1) (fun x6 h5 hr => ?_)
  refine j_astore_n (pc := 14) (ls' := [(2, v0), (0, v1), (2, x2), (2, x6), (9, 0), (9, 0), (9, 0), (9, 0)]) d_Nb_pour_14 rfl ?_
  refine j_aload_n (pc := 15) d_Nb_pour_15 rfl ?_
  refine j_getf (pc := 16) d_Nb_pour_16 (fd_Nb_27 rfl) hr (fun hr => ?_)
  refine j_aload_n (pc := 19) d_Nb_pour_19 rfl ?_
  refine j_getf (pc := 20) d_Nb_pour_20 (fd_Nb_27 rfl) hr (fun hr => ?_)
  refine j_getf (pc := 23) d_Nb_pour_23 (fd_Nb_149 rfl) hr (fun hr => ?_)
  obtain ⟨ha, hr⟩ := chk_some hr
  refine j_callG (pc := 26) (stk := [(2, hpV h5 (hpV h5 v0 6) 9), (2, hpV h5 v0 6)]) (as := [(2, hpV h5 v0 6), (2, hpV h5 (hpV h5 v0 6) 9)]) (P := (fun v9 => ((0 : Nat), v9) :: [])) (tg := 0) (My := M_Box_standOf) (mRunV (as := [(2, hpV h5 (hpV h5 v0 6) 9)]) (st := []) d_Nb_pour_26 (mc_Box_standOf (by decide)) rfl (mv_Box_standOf tb_ml_Nb_198) rfl (Nat.le_of_ble_eq_true rfl) ha) (fun v => rfl) rfl hr (fun r1 h1 => t_Box_standOf _ _ _ _ h1) (fun x8 h7 hr => ?_)
  refine j_istore (pc := 29) (ls' := [(2, v0), (0, v1), (2, x2), (2, x6), (0, x8), (9, 0), (9, 0), (9, 0)]) d_Nb_pour_29 rfl ?_
  refine j_aload_n (pc := 31) d_Nb_pour_31 rfl ?_
  refine j_getf (pc := 32) d_Nb_pour_32 (fd_Nb_234 rfl) hr (fun hr => ?_)
  refine j_iconst (pc := 35) d_Nb_pour_35 ?_
  refine j_aload_n (pc := 36) d_Nb_pour_36 rfl ?_
  refine j_iload (pc := 37) d_Nb_pour_37 rfl ?_
  obtain ⟨ha, hr⟩ := chk_some hr
  refine j_callG (pc := 39) (stk := [(0, x8), (2, x6), (0, 0), (0, hpV h7 x2 2)]) (as := [(2, x6), (0, x8)]) (P := (fun v9 => ((0 : Nat), v9) :: [(0, 0), (0, hpV h7 x2 2)])) (tg := 0) (My := M_Paths_farOf) (mRunV (as := [(0, x8)]) (st := [(0, 0), (0, hpV h7 x2 2)]) d_Nb_pour_39 (mc_Paths_farOf (by decide)) rfl (mv_Paths_farOf tb_ml_Nb_263) rfl (Nat.le_of_ble_eq_true rfl) ha) (fun v => rfl) rfl hr (fun r1 h1 => t_Paths_farOf _ _ _ _ h1) (fun x10 h9 hr => ?_)
  refine j_max (pc := 42) d_Nb_pour_42 tb_ml_Nb_411 tb_sm_Math_max tb_in_java_lang_Math tb_co_Math_max (Nat.le_of_ble_eq_true rfl) ?_
  refine j_min (pc := 45) d_Nb_pour_45 tb_ml_Nb_416 tb_sm_Math_min tb_in_java_lang_Math tb_co_Math_min (Nat.le_of_ble_eq_true rfl) ?_
  refine j_istoreW (pc := 48) (L := fun x11 => [(2, v0), (0, v1), (2, x2), (2, x6), (0, x8), (0, x11), (9, 0), (9, 0)]) d_Nb_pour_48 (fun _ => rfl) hr (fun x11 hr => ?_)
  refine j_iconst (pc := 50) d_Nb_pour_50 ?_
  refine j_istore (pc := 51) (ls' := [(2, v0), (0, v1), (2, x2), (2, x6), (0, x8), (0, x11), (0, 0), (9, 0)]) d_Nb_pour_51 rfl ?_
  refine mJ_weak (ls' := [(2, v0), (9, 0), (2, x2), (2, x6), (0, x8), (0, x11), (0, 0), (9, 0)]) (mwk_s (mwk_d (mwk_s (mwk_s (mwk_s (mwk_s (mwk_s (mwk_s mwk_n)))))))) (t_Nb_pour_L53  _ _ _ _ hr)
def M_Nb_needImageNumber : mM := ("NineBars", ⟨"NineBars", "needImageNumber", "(I)V"⟩, prog_1_method_54_code, 2, none, [], 1)
theorem tb_co_Nb_needImageNumber : mTB (Cond.code ⟨"NineBars", "needImageNumber", "(I)V"⟩ prog_1_method_54_code 2 (none)) := tbq6 190 (by decide +kernel) rfl
theorem mc_Nb_needImageNumber {M : mM} (hd : 1 < mDp M) : mCal M M_Nb_needImageNumber 1 := ⟨tb_co_Nb_needImageNumber, tb_in_NineBars, ⟨by decide +kernel, by decide +kernel⟩, by decide +kernel, hd, by decide⟩
theorem d_Nb_needImageNumber_0 : decode prog_1_method_54_code 0 = .ok (.iload_n 1, 1) := by decide +kernel
theorem d_Nb_needImageNumber_1 : decode prog_1_method_54_code 1 = .ok (.ifCond .lt 8, 3) := by decide +kernel
theorem d_Nb_needImageNumber_9 : decode prog_1_method_54_code 9 = .ok (.new 171, 3) := by decide +kernel
theorem d_Nb_needImageNumber_12 : decode prog_1_method_54_code 12 = .ok (.dup, 1) := by decide +kernel
theorem d_Nb_needImageNumber_13 : decode prog_1_method_54_code 13 = .ok (.ldc_w 450, 3) := by decide +kernel
theorem d_Nb_needImageNumber_16 : decode prog_1_method_54_code 16 = .ok (.invokespecial 175, 3) := by decide +kernel
theorem d_Nb_needImageNumber_19 : decode prog_1_method_54_code 19 = .ok (.athrow, 1) := by decide +kernel
theorem d_Nb_needImageNumber_4 : decode prog_1_method_54_code 4 = .ok (.iload_n 1, 1) := by decide +kernel
theorem d_Nb_needImageNumber_5 : decode prog_1_method_54_code 5 = .ok (.iconst 3, 1) := by decide +kernel
theorem d_Nb_needImageNumber_6 : decode prog_1_method_54_code 6 = .ok (.if_icmp .lt 14, 3) := by decide +kernel
theorem d_Nb_needImageNumber_20 : decode prog_1_method_54_code 20 = .ok (.return_, 1) := by decide +kernel
theorem t_Nb_needImageNumber {G : mG} (h : mH) (v0 v1 : Int) (r : mR) (hr : f_Nb_needImageNumber h v0 v1 = some r) : mJM G M_Nb_needImageNumber [(2, v0), (0, v1)] h r := by
  refine mJM_of (L := [(2, v0), (0, v1)]) rfl rfl rfl (Nat.le_of_ble_eq_true rfl) ?_
  unfold f_Nb_needImageNumber at hr
  refine j_iload_n (pc := 0) d_Nb_needImageNumber_0 rfl ?_
  refine j_if_lt (pc := 1) (tgt := 9) d_Nb_needImageNumber_1 hr (fun hr => ?_) (fun hr => ?_)
  · exact j_throwW (pc := 9) (x9 := 13) (text := "no such image") (k := 34) d_Nb_needImageNumber_9 d_Nb_needImageNumber_12 d_Nb_needImageNumber_13 d_Nb_needImageNumber_16 d_Nb_needImageNumber_19 rfl (by decide +kernel) tb_cl_Nb_171 tb_in_java_util_NoSuchElementException (by decide +kernel) rfl (Nat.le_of_ble_eq_true rfl) hr
  · refine j_iload_n (pc := 4) d_Nb_needImageNumber_4 rfl ?_
    refine j_iconst (pc := 5) d_Nb_needImageNumber_5 ?_
    refine j_icmp_lt (pc := 6) (tgt := 20) d_Nb_needImageNumber_6 hr (fun hr => ?_) (fun hr => ?_)
    · exact j_vret (pc := 20) d_Nb_needImageNumber_20 rfl hr
    · exact j_throwW (pc := 9) (x9 := 13) (text := "no such image") (k := 34) d_Nb_needImageNumber_9 d_Nb_needImageNumber_12 d_Nb_needImageNumber_13 d_Nb_needImageNumber_16 d_Nb_needImageNumber_19 rfl (by decide +kernel) tb_cl_Nb_171 tb_in_java_util_NoSuchElementException (by decide +kernel) rfl (Nat.le_of_ble_eq_true rfl) hr
def M_Nb_image : mM := ("NineBars", ⟨"NineBars", "image", "(I)V"⟩, prog_1_method_42_code, 2, none, [], 3)
theorem tb_co_Nb_image : mTB (Cond.code ⟨"NineBars", "image", "(I)V"⟩ prog_1_method_42_code 2 (none)) := tbq6 186 (by decide +kernel) rfl
theorem mc_Nb_image {M : mM} (hd : 3 < mDp M) : mCal M M_Nb_image 1 := ⟨tb_co_Nb_image, tb_in_NineBars, ⟨by decide +kernel, by decide +kernel⟩, by decide +kernel, hd, by decide⟩
theorem d_Nb_image_0 : decode prog_1_method_42_code 0 = .ok (.aload_n 0, 1) := by decide +kernel
theorem d_Nb_image_1 : decode prog_1_method_42_code 1 = .ok (.iload_n 1, 1) := by decide +kernel
theorem d_Nb_image_2 : decode prog_1_method_42_code 2 = .ok (.invokevirtual 425, 3) := by decide +kernel
theorem tb_ml_Nb_425 : mTB (Cond.methodLink "NineBars" 425 ⟨"NineBars", "needImageNumber", "(I)V"⟩) := tbq6 187 (by decide +kernel) rfl
theorem tb_im_Nb_needImageNumber : mTB (Cond.instanceMethod ⟨"NineBars", "needImageNumber", "(I)V"⟩) := tbq6 189 (by decide +kernel) rfl
theorem tb_se_Nb_needImageNumber : mTB (Cond.selects "NineBars" ⟨"NineBars", "needImageNumber", "(I)V"⟩ ⟨"NineBars", "needImageNumber", "(I)V"⟩) := tbqp 44 (by decide +kernel) rfl
theorem mv_Nb_needImageNumber {M : mM} {idx : Nat} (h : mTB (Cond.methodLink (mO M) idx ⟨"NineBars", "needImageNumber", "(I)V"⟩)) : mCaV M M_Nb_needImageNumber idx 10 := ⟨h, tb_im_Nb_needImageNumber, tb_se_Nb_needImageNumber, by decide, TX10, 19, rfl⟩
theorem d_Nb_image_5 : decode prog_1_method_42_code 5 = .ok (.aload_n 0, 1) := by decide +kernel
theorem d_Nb_image_6 : decode prog_1_method_42_code 6 = .ok (.getfield 34, 3) := by decide +kernel
theorem d_Nb_image_9 : decode prog_1_method_42_code 9 = .ok (.iload_n 1, 1) := by decide +kernel
theorem d_Nb_image_10 : decode prog_1_method_42_code 10 = .ok (.aaload, 1) := by decide +kernel
theorem d_Nb_image_11 : decode prog_1_method_42_code 11 = .ok (.ifnonnull 16, 3) := by decide +kernel
theorem d_Nb_image_27 : decode prog_1_method_42_code 27 = .ok (.aload_n 0, 1) := by decide +kernel
theorem d_Nb_image_28 : decode prog_1_method_42_code 28 = .ok (.getfield 34, 3) := by decide +kernel
theorem d_Nb_image_31 : decode prog_1_method_42_code 31 = .ok (.iload_n 1, 1) := by decide +kernel
theorem d_Nb_image_32 : decode prog_1_method_42_code 32 = .ok (.aaload, 1) := by decide +kernel
theorem d_Nb_image_33 : decode prog_1_method_42_code 33 = .ok (.aload_n 0, 1) := by decide +kernel
theorem d_Nb_image_34 : decode prog_1_method_42_code 34 = .ok (.getfield 27, 3) := by decide +kernel
theorem d_Nb_image_37 : decode prog_1_method_42_code 37 = .ok (.invokevirtual 135, 3) := by decide +kernel
theorem d_Nb_image_40 : decode prog_1_method_42_code 40 = .ok (.return_, 1) := by decide +kernel
theorem d_Nb_image_14 : decode prog_1_method_42_code 14 = .ok (.aload_n 0, 1) := by decide +kernel
theorem d_Nb_image_15 : decode prog_1_method_42_code 15 = .ok (.getfield 34, 3) := by decide +kernel
theorem d_Nb_image_18 : decode prog_1_method_42_code 18 = .ok (.iload_n 1, 1) := by decide +kernel
theorem d_Nb_image_19 : decode prog_1_method_42_code 19 = .ok (.new 24, 3) := by decide +kernel
theorem d_Nb_image_22 : decode prog_1_method_42_code 22 = .ok (.dup, 1) := by decide +kernel
theorem d_Nb_image_23 : decode prog_1_method_42_code 23 = .ok (.invokespecial 26, 3) := by decide +kernel
theorem d_Nb_image_26 : decode prog_1_method_42_code 26 = .ok (.aastore, 1) := by decide +kernel
theorem t_Nb_image_J27 {G : mG} {r : mR} {v0 v1 : Int} {h : mH}  (hr : f_Nb_image_J27 v0 v1 h = some r) : mJ G M_Nb_image 27 [(2, v0), (0, v1)] [] h r := by
  unfold f_Nb_image_J27 at hr
  refine j_aload_n (pc := 27) d_Nb_image_27 rfl ?_
  refine j_getf (pc := 28) d_Nb_image_28 (fd_Nb_34 rfl) hr (fun hr => ?_)
  refine j_iload_n (pc := 31) d_Nb_image_31 rfl ?_
  refine j_aaload (pc := 32) d_Nb_image_32 (by decide) hr (fun hr => ?_)
  refine j_aload_n (pc := 33) d_Nb_image_33 rfl ?_
  refine j_getf (pc := 34) d_Nb_image_34 (fd_Nb_27 rfl) hr (fun hr => ?_)
  obtain ⟨ha, hr⟩ := chk_some hr
  refine j_callG (pc := 37) (stk := [(2, hpV h v0 6), (2, hpV h (hpV h v0 8) v1)]) (as := [(2, hpV h (hpV h v0 8) v1), (2, hpV h v0 6)]) (P := (fun v9 => [])) (tg := 3) (My := M_Box_become) (mRunV (as := [(2, hpV h v0 6)]) (st := []) d_Nb_image_37 (mc_Box_become (by decide)) rfl (mv_Box_become tb_ml_Nb_135) rfl (Nat.le_of_ble_eq_true rfl) ha) (fun v => rfl) rfl hr (fun r1 h1 => t_Box_become _ _ _ _ h1) (fun x2 h1 hr => ?_)
  exact j_vret (pc := 40) d_Nb_image_40 rfl hr
theorem t_Nb_image {G : mG} (h : mH) (v0 v1 : Int) (r : mR) (hr : f_Nb_image h v0 v1 = some r) : mJM G M_Nb_image [(2, v0), (0, v1)] h r := by
  refine mJM_of (L := [(2, v0), (0, v1)]) rfl rfl rfl (Nat.le_of_ble_eq_true rfl) ?_
  unfold f_Nb_image at hr
  refine j_aload_n (pc := 0) d_Nb_image_0 rfl ?_
  refine j_iload_n (pc := 1) d_Nb_image_1 rfl ?_
  obtain ⟨ha, hr⟩ := chk_some hr
  refine j_callG (pc := 2) (stk := [(0, v1), (2, v0)]) (as := [(2, v0), (0, v1)]) (P := (fun v9 => [])) (tg := 3) (My := M_Nb_needImageNumber) (mRunV (as := [(0, v1)]) (st := []) d_Nb_image_2 (mc_Nb_needImageNumber (by decide)) rfl (mv_Nb_needImageNumber tb_ml_Nb_425) rfl (Nat.le_of_ble_eq_true rfl) ha) (fun v => rfl) rfl hr (fun r1 h1 => t_Nb_needImageNumber _ _ _ _ h1) (fun x2 h1 hr => ?_)
  refine j_aload_n (pc := 5) d_Nb_image_5 rfl ?_
  refine j_getf (pc := 6) d_Nb_image_6 (fd_Nb_34 rfl) hr (fun hr => ?_)
  refine j_iload_n (pc := 9) d_Nb_image_9 rfl ?_
  refine j_aaload (pc := 10) d_Nb_image_10 (by decide) hr (fun hr => ?_)
  refine j_ifnonnull (pc := 11) (tgt := 27) d_Nb_image_11 hr (fun hr => ?_) (fun hr => ?_)
  · exact mJ_weak (ls' := [(2, v0), (0, v1)]) (mwk_s (mwk_s mwk_n)) (t_Nb_image_J27  hr)
  · refine j_aload_n (pc := 14) d_Nb_image_14 rfl ?_
    refine j_getf (pc := 15) d_Nb_image_15 (fd_Nb_34 rfl) hr (fun hr => ?_)
    refine j_iload_n (pc := 18) d_Nb_image_18 rfl ?_
    refine j_new (pc := 19) (c := 0) (N := 18) (ty := tyX0) d_Nb_image_19 rfl (by decide) tb_cl_Nb_24 tb_is_Box tb_in_NineBars_Box uw_0 tyX0_ok (mz_0 G) hr (fun h3 hr => ?_)
    refine j_dup (pc := 22) d_Nb_image_22 ?_
    obtain ⟨ha, hr⟩ := chk_some hr
    refine j_callR (pc := 23) (stk := [(2, hpN h1 + 1), (2, hpN h1 + 1), (0, v1), (2, hpV h1 v0 8)]) (as := [(2, hpN h1 + 1)]) (P := (fun v9 => [(2, hpN h1 + 1), (0, v1), (2, hpV h1 v0 8)])) (tg := 3) (My := M_Box_init) (by decide) (mRunI (as := []) (st := [(2, hpN h1 + 1), (0, v1), (2, hpV h1 v0 8)]) d_Nb_image_23 (mc_Box_init (by decide)) rfl rfl ⟨Or.inr ⟨_, tb_mn_Nb_26⟩, tb_im_Box_init, rfl⟩ rfl (Nat.le_of_ble_eq_true rfl) ha) (fun v => rfl) hr (fun r1 h1 => t_Box_init _ _ _ h1) (fun x5 h4 hr => ?_)
    refine j_aastore (pc := 26) (C9 := 0) (k9 := 4) (c := 0) (rc := (RX0, TX0, 18)) d_Nb_image_26 (by decide) rfl rfl (by decide) hr (fun h6 hr => ?_)
    exact mJ_weak (ls' := [(2, v0), (0, v1)]) (mwk_s (mwk_s mwk_n)) (t_Nb_image_J27  hr)
def M_Nb_restore : mM := ("NineBars", ⟨"NineBars", "restore", "(I)V"⟩, prog_1_method_43_code, 2, none, [], 3)
theorem tb_co_Nb_restore : mTB (Cond.code ⟨"NineBars", "restore", "(I)V"⟩ prog_1_method_43_code 2 (none)) := tbq6 198 (by decide +kernel) rfl
theorem mc_Nb_restore {M : mM} (hd : 3 < mDp M) : mCal M M_Nb_restore 1 := ⟨tb_co_Nb_restore, tb_in_NineBars, ⟨by decide +kernel, by decide +kernel⟩, by decide +kernel, hd, by decide⟩
theorem d_Nb_restore_0 : decode prog_1_method_43_code 0 = .ok (.aload_n 0, 1) := by decide +kernel
theorem d_Nb_restore_1 : decode prog_1_method_43_code 1 = .ok (.iload_n 1, 1) := by decide +kernel
theorem d_Nb_restore_2 : decode prog_1_method_43_code 2 = .ok (.invokevirtual 425, 3) := by decide +kernel
theorem d_Nb_restore_5 : decode prog_1_method_43_code 5 = .ok (.aload_n 0, 1) := by decide +kernel
theorem d_Nb_restore_6 : decode prog_1_method_43_code 6 = .ok (.getfield 34, 3) := by decide +kernel
theorem d_Nb_restore_9 : decode prog_1_method_43_code 9 = .ok (.iload_n 1, 1) := by decide +kernel
theorem d_Nb_restore_10 : decode prog_1_method_43_code 10 = .ok (.aaload, 1) := by decide +kernel
theorem d_Nb_restore_11 : decode prog_1_method_43_code 11 = .ok (.ifnonnull 14, 3) := by decide +kernel
theorem d_Nb_restore_25 : decode prog_1_method_43_code 25 = .ok (.aload_n 0, 1) := by decide +kernel
theorem d_Nb_restore_26 : decode prog_1_method_43_code 26 = .ok (.getfield 27, 3) := by decide +kernel
theorem d_Nb_restore_29 : decode prog_1_method_43_code 29 = .ok (.aload_n 0, 1) := by decide +kernel
theorem d_Nb_restore_30 : decode prog_1_method_43_code 30 = .ok (.getfield 34, 3) := by decide +kernel
theorem d_Nb_restore_33 : decode prog_1_method_43_code 33 = .ok (.iload_n 1, 1) := by decide +kernel
theorem d_Nb_restore_34 : decode prog_1_method_43_code 34 = .ok (.aaload, 1) := by decide +kernel
theorem d_Nb_restore_35 : decode prog_1_method_43_code 35 = .ok (.invokevirtual 135, 3) := by decide +kernel
theorem d_Nb_restore_38 : decode prog_1_method_43_code 38 = .ok (.return_, 1) := by decide +kernel
theorem d_Nb_restore_14 : decode prog_1_method_43_code 14 = .ok (.new 247, 3) := by decide +kernel
theorem d_Nb_restore_17 : decode prog_1_method_43_code 17 = .ok (.dup, 1) := by decide +kernel
theorem d_Nb_restore_18 : decode prog_1_method_43_code 18 = .ok (.ldc_w 428, 3) := by decide +kernel
theorem d_Nb_restore_21 : decode prog_1_method_43_code 21 = .ok (.invokespecial 251, 3) := by decide +kernel
theorem d_Nb_restore_24 : decode prog_1_method_43_code 24 = .ok (.athrow, 1) := by decide +kernel
theorem t_Nb_restore {G : mG} (h : mH) (v0 v1 : Int) (r : mR) (hr : f_Nb_restore h v0 v1 = some r) : mJM G M_Nb_restore [(2, v0), (0, v1)] h r := by
  refine mJM_of (L := [(2, v0), (0, v1)]) rfl rfl rfl (Nat.le_of_ble_eq_true rfl) ?_
  unfold f_Nb_restore at hr
  refine j_aload_n (pc := 0) d_Nb_restore_0 rfl ?_
  refine j_iload_n (pc := 1) d_Nb_restore_1 rfl ?_
  obtain ⟨ha, hr⟩ := chk_some hr
  refine j_callG (pc := 2) (stk := [(0, v1), (2, v0)]) (as := [(2, v0), (0, v1)]) (P := (fun v9 => [])) (tg := 3) (My := M_Nb_needImageNumber) (mRunV (as := [(0, v1)]) (st := []) d_Nb_restore_2 (mc_Nb_needImageNumber (by decide)) rfl (mv_Nb_needImageNumber tb_ml_Nb_425) rfl (Nat.le_of_ble_eq_true rfl) ha) (fun v => rfl) rfl hr (fun r1 h1 => t_Nb_needImageNumber _ _ _ _ h1) (fun x2 h1 hr => ?_)
  refine j_aload_n (pc := 5) d_Nb_restore_5 rfl ?_
  refine j_getf (pc := 6) d_Nb_restore_6 (fd_Nb_34 rfl) hr (fun hr => ?_)
  refine j_iload_n (pc := 9) d_Nb_restore_9 rfl ?_
  refine j_aaload (pc := 10) d_Nb_restore_10 (by decide) hr (fun hr => ?_)
  refine j_ifnonnull (pc := 11) (tgt := 25) d_Nb_restore_11 hr (fun hr => ?_) (fun hr => ?_)
  · refine j_aload_n (pc := 25) d_Nb_restore_25 rfl ?_
    refine j_getf (pc := 26) d_Nb_restore_26 (fd_Nb_27 rfl) hr (fun hr => ?_)
    refine j_aload_n (pc := 29) d_Nb_restore_29 rfl ?_
    refine j_getf (pc := 30) d_Nb_restore_30 (fd_Nb_34 rfl) hr (fun hr => ?_)
    refine j_iload_n (pc := 33) d_Nb_restore_33 rfl ?_
    refine j_aaload (pc := 34) d_Nb_restore_34 (by decide) hr (fun hr => ?_)
    obtain ⟨ha, hr⟩ := chk_some hr
    refine j_callG (pc := 35) (stk := [(2, hpV h1 (hpV h1 v0 8) v1), (2, hpV h1 v0 6)]) (as := [(2, hpV h1 v0 6), (2, hpV h1 (hpV h1 v0 8) v1)]) (P := (fun v9 => [])) (tg := 3) (My := M_Box_become) (mRunV (as := [(2, hpV h1 (hpV h1 v0 8) v1)]) (st := []) d_Nb_restore_35 (mc_Box_become (by decide)) rfl (mv_Box_become tb_ml_Nb_135) rfl (Nat.le_of_ble_eq_true rfl) ha) (fun v => rfl) rfl hr (fun r1 h1 => t_Box_become _ _ _ _ h1) (fun x4 h3 hr => ?_)
    exact j_vret (pc := 38) d_Nb_restore_38 rfl hr
  · exact j_throwW (pc := 14) (x9 := 7) (text := "no such image was made") (k := 35) d_Nb_restore_14 d_Nb_restore_17 d_Nb_restore_18 d_Nb_restore_21 d_Nb_restore_24 rfl (by decide +kernel) tb_cl_Nb_247 tb_in_java_lang_IllegalStateException (by decide +kernel) rfl (Nat.le_of_ble_eq_true rfl) hr
def M_Box_stepsMade : mM := ("NineBars$Box", ⟨"NineBars$Box", "stepsMade", "()I"⟩, prog_2_method_10_code, 3, some .int, [], 1)
theorem tb_co_Box_stepsMade : mTB (Cond.code ⟨"NineBars$Box", "stepsMade", "()I"⟩ prog_2_method_10_code 3 (some .int)) := tbq3 140 (by decide +kernel) rfl
theorem mc_Box_stepsMade {M : mM} (hd : 1 < mDp M) : mCal M M_Box_stepsMade 0 := ⟨tb_co_Box_stepsMade, tb_in_NineBars_Box, ⟨by decide +kernel, by decide +kernel⟩, by decide +kernel, hd, by decide⟩
theorem d_Box_stepsMade_0 : decode prog_2_method_10_code 0 = .ok (.iconst 0, 1) := by decide +kernel
theorem d_Box_stepsMade_1 : decode prog_2_method_10_code 1 = .ok (.istore_n 1, 1) := by decide +kernel
theorem d_Box_stepsMade_2 : decode prog_2_method_10_code 2 = .ok (.iconst 0, 1) := by decide +kernel
theorem d_Box_stepsMade_3 : decode prog_2_method_10_code 3 = .ok (.istore_n 2, 1) := by decide +kernel
theorem d_Box_stepsMade_4 : decode prog_2_method_10_code 4 = .ok (.iload_n 2, 1) := by decide +kernel
theorem d_Box_stepsMade_5 : decode prog_2_method_10_code 5 = .ok (.aload_n 0, 1) := by decide +kernel
theorem d_Box_stepsMade_6 : decode prog_2_method_10_code 6 = .ok (.getfield 52, 3) := by decide +kernel
theorem d_Box_stepsMade_9 : decode prog_2_method_10_code 9 = .ok (.if_icmp .ge 18, 3) := by decide +kernel
theorem d_Box_stepsMade_27 : decode prog_2_method_10_code 27 = .ok (.iload_n 1, 1) := by decide +kernel
theorem d_Box_stepsMade_28 : decode prog_2_method_10_code 28 = .ok (.ireturn, 1) := by decide +kernel
theorem d_Box_stepsMade_12 : decode prog_2_method_10_code 12 = .ok (.iload_n 1, 1) := by decide +kernel
theorem d_Box_stepsMade_13 : decode prog_2_method_10_code 13 = .ok (.aload_n 0, 1) := by decide +kernel
theorem d_Box_stepsMade_14 : decode prog_2_method_10_code 14 = .ok (.getfield 24, 3) := by decide +kernel
theorem d_Box_stepsMade_17 : decode prog_2_method_10_code 17 = .ok (.iload_n 2, 1) := by decide +kernel
theorem d_Box_stepsMade_18 : decode prog_2_method_10_code 18 = .ok (.iaload, 1) := by decide +kernel
theorem d_Box_stepsMade_19 : decode prog_2_method_10_code 19 = .ok (.iadd, 1) := by decide +kernel
theorem d_Box_stepsMade_20 : decode prog_2_method_10_code 20 = .ok (.istore_n 1, 1) := by decide +kernel
theorem d_Box_stepsMade_21 : decode prog_2_method_10_code 21 = .ok (.iinc 2 1, 3) := by decide +kernel
theorem d_Box_stepsMade_24 : decode prog_2_method_10_code 24 = .ok (.goto (-20), 3) := by decide +kernel
theorem t_Box_stepsMade_L4 {G : mG} {r : mR} {v0 : Int}  : ∀ (n : Nat) (h : mH) (v1 v2 : Int), f_Box_stepsMade_L4 v0 n h v1 v2 = some r → mJ G M_Box_stepsMade 4 [(2, v0), (0, v1), (0, v2)] [] h r := by
  intro n
  induction n with
  | zero =>
    intro h v1 v2 hr
    rw [f_Box_stepsMade_L4] at hr
    cases hr
  | succ n hR4 =>
    intro h v1 v2 hr
    rw [f_Box_stepsMade_L4] at hr
    refine j_iload_n (pc := 4) d_Box_stepsMade_4 rfl ?_
    refine j_aload_n (pc := 5) d_Box_stepsMade_5 rfl ?_
    refine j_getf (pc := 6) d_Box_stepsMade_6 (fd_Box_52 rfl) hr (fun hr => ?_)
    refine j_icmp_ge (pc := 9) (tgt := 27) d_Box_stepsMade_9 hr (fun hr => ?_) (fun hr => ?_)
    · refine j_iload_n (pc := 27) d_Box_stepsMade_27 rfl ?_
      exact j_iret (pc := 28) d_Box_stepsMade_28 rfl hr
    · refine j_iload_n (pc := 12) d_Box_stepsMade_12 rfl ?_
      refine j_aload_n (pc := 13) d_Box_stepsMade_13 rfl ?_
      refine j_getf (pc := 14) d_Box_stepsMade_14 (fd_Box_24 rfl) hr (fun hr => ?_)
      refine j_iload_n (pc := 17) d_Box_stepsMade_17 rfl ?_
      refine j_iaload (pc := 18) d_Box_stepsMade_18 hr (fun hr => ?_)
      refine j_iadd (pc := 19) d_Box_stepsMade_19 ?_
      refine j_istoreW_n (pc := 20) (L := fun x1 => [(2, v0), (0, x1), (0, v2)]) d_Box_stepsMade_20 (fun _ => rfl) hr (fun x1 hr => ?_)
      refine j_iincW (pc := 21) (L := fun x2 => [(2, v0), (0, x1), (0, x2)]) d_Box_stepsMade_21 rfl (fun _ => rfl) hr (fun x2 hr => ?_)
      refine j_goto (pc := 24) (tgt := 4) d_Box_stepsMade_24 ?_
      exact mJ_weak (ls' := [(2, v0), (0, x1), (0, x2)]) (mwk_s (mwk_s (mwk_s mwk_n))) (hR4 h _ _ hr)
theorem t_Box_stepsMade {G : mG} (h : mH) (v0 : Int) (r : mR) (hr : f_Box_stepsMade h v0 = some r) : mJM G M_Box_stepsMade [(2, v0)] h r := by
  refine mJM_of (L := [(2, v0), (9, 0), (9, 0)]) rfl rfl rfl (Nat.le_of_ble_eq_true rfl) ?_
  unfold f_Box_stepsMade at hr
  refine j_iconst (pc := 0) d_Box_stepsMade_0 ?_
  refine j_istore_n (pc := 1) (ls' := [(2, v0), (0, 0), (9, 0)]) d_Box_stepsMade_1 rfl ?_
  refine j_iconst (pc := 2) d_Box_stepsMade_2 ?_
  refine j_istore_n (pc := 3) (ls' := [(2, v0), (0, 0), (0, 0)]) d_Box_stepsMade_3 rfl ?_
  refine mJ_weak (ls' := [(2, v0), (0, 0), (0, 0)]) (mwk_s (mwk_s (mwk_s mwk_n))) (t_Box_stepsMade_L4  _ _ _ _ hr)
def M_Nb_count : mM := ("NineBars", ⟨"NineBars", "count", "(I)I"⟩, prog_1_method_44_code, 2, some .int, [], 3)
theorem tb_co_Nb_count : mTB (Cond.code ⟨"NineBars", "count", "(I)I"⟩ prog_1_method_44_code 2 (some .int)) := tbq3 136 (by decide +kernel) rfl
theorem mc_Nb_count {M : mM} (hd : 3 < mDp M) : mCal M M_Nb_count 1 := ⟨tb_co_Nb_count, tb_in_NineBars, ⟨by decide +kernel, by decide +kernel⟩, by decide +kernel, hd, by decide⟩
theorem d_Nb_count_0 : decode prog_1_method_44_code 0 = .ok (.iload_n 1, 1) := by decide +kernel
theorem d_Nb_count_1 : decode prog_1_method_44_code 1 = .ok (.tableswitch 108 0 7 #[47, 55, 63, 71, 79, 87, 95, 103], 47) := by decide +kernel
theorem d_Nb_count_48 : decode prog_1_method_44_code 48 = .ok (.aload_n 0, 1) := by decide +kernel
theorem d_Nb_count_49 : decode prog_1_method_44_code 49 = .ok (.getfield 27, 3) := by decide +kernel
theorem d_Nb_count_52 : decode prog_1_method_44_code 52 = .ok (.getfield 139, 3) := by decide +kernel
theorem d_Nb_count_55 : decode prog_1_method_44_code 55 = .ok (.ireturn, 1) := by decide +kernel
theorem d_Nb_count_56 : decode prog_1_method_44_code 56 = .ok (.aload_n 0, 1) := by decide +kernel
theorem d_Nb_count_57 : decode prog_1_method_44_code 57 = .ok (.getfield 27, 3) := by decide +kernel
theorem d_Nb_count_60 : decode prog_1_method_44_code 60 = .ok (.getfield 222, 3) := by decide +kernel
theorem d_Nb_count_63 : decode prog_1_method_44_code 63 = .ok (.ireturn, 1) := by decide +kernel
theorem d_Nb_count_64 : decode prog_1_method_44_code 64 = .ok (.aload_n 0, 1) := by decide +kernel
theorem d_Nb_count_65 : decode prog_1_method_44_code 65 = .ok (.getfield 27, 3) := by decide +kernel
theorem d_Nb_count_68 : decode prog_1_method_44_code 68 = .ok (.getfield 168, 3) := by decide +kernel
theorem d_Nb_count_71 : decode prog_1_method_44_code 71 = .ok (.ireturn, 1) := by decide +kernel
theorem d_Nb_count_72 : decode prog_1_method_44_code 72 = .ok (.aload_n 0, 1) := by decide +kernel
theorem d_Nb_count_73 : decode prog_1_method_44_code 73 = .ok (.getfield 27, 3) := by decide +kernel
theorem tb_fl_Nb_430 : mTN (Cond.fieldLinkNest "NineBars" 430 "NineBars$Box" "nested" "I" "NineBars") := tbqn1 92 (by decide +kernel) rfl
theorem fd_Nb_430 {M : mM} (h : mO M = "NineBars") : mFld M 430 0 4 0 := ⟨_, _, _, tyX0, rfl, by decide, by decide, rfl, uw_0, tyX0_ok, nmX0, by rw [h]; exact Or.inr ⟨_, tb_fl_Nb_430⟩⟩
theorem d_Nb_count_76 : decode prog_1_method_44_code 76 = .ok (.getfield 430, 3) := by decide +kernel
theorem d_Nb_count_79 : decode prog_1_method_44_code 79 = .ok (.ireturn, 1) := by decide +kernel
theorem d_Nb_count_80 : decode prog_1_method_44_code 80 = .ok (.aload_n 0, 1) := by decide +kernel
theorem d_Nb_count_81 : decode prog_1_method_44_code 81 = .ok (.getfield 27, 3) := by decide +kernel
theorem tb_fl_Nb_433 : mTN (Cond.fieldLinkNest "NineBars" 433 "NineBars$Box" "wear" "I" "NineBars") := tbqn1 95 (by decide +kernel) rfl
theorem fd_Nb_433 {M : mM} (h : mO M = "NineBars") : mFld M 433 0 5 0 := ⟨_, _, _, tyX0, rfl, by decide, by decide, rfl, uw_0, tyX0_ok, nmX0, by rw [h]; exact Or.inr ⟨_, tb_fl_Nb_433⟩⟩
theorem d_Nb_count_84 : decode prog_1_method_44_code 84 = .ok (.getfield 433, 3) := by decide +kernel
theorem d_Nb_count_87 : decode prog_1_method_44_code 87 = .ok (.ireturn, 1) := by decide +kernel
theorem d_Nb_count_88 : decode prog_1_method_44_code 88 = .ok (.aload_n 0, 1) := by decide +kernel
theorem d_Nb_count_89 : decode prog_1_method_44_code 89 = .ok (.getfield 27, 3) := by decide +kernel
theorem d_Nb_count_92 : decode prog_1_method_44_code 92 = .ok (.invokevirtual 327, 3) := by decide +kernel
theorem d_Nb_count_95 : decode prog_1_method_44_code 95 = .ok (.ireturn, 1) := by decide +kernel
theorem d_Nb_count_96 : decode prog_1_method_44_code 96 = .ok (.aload_n 0, 1) := by decide +kernel
theorem d_Nb_count_97 : decode prog_1_method_44_code 97 = .ok (.getfield 27, 3) := by decide +kernel
theorem d_Nb_count_100 : decode prog_1_method_44_code 100 = .ok (.invokevirtual 436, 3) := by decide +kernel
theorem tb_ml_Nb_436 : mTB (Cond.methodLink "NineBars" 436 ⟨"NineBars$Box", "stepsMade", "()I"⟩) := tbq3 137 (by decide +kernel) rfl
theorem tb_im_Box_stepsMade : mTB (Cond.instanceMethod ⟨"NineBars$Box", "stepsMade", "()I"⟩) := tbq3 138 (by decide +kernel) rfl
theorem tb_se_Box_stepsMade : mTB (Cond.selects "NineBars$Box" ⟨"NineBars$Box", "stepsMade", "()I"⟩ ⟨"NineBars$Box", "stepsMade", "()I"⟩) := tbq3 139 (by decide +kernel) rfl
theorem mv_Box_stepsMade {M : mM} {idx : Nat} (h : mTB (Cond.methodLink (mO M) idx ⟨"NineBars$Box", "stepsMade", "()I"⟩)) : mCaV M M_Box_stepsMade idx 0 := ⟨h, tb_im_Box_stepsMade, tb_se_Box_stepsMade, by decide, TX0, 18, rfl⟩
theorem d_Nb_count_103 : decode prog_1_method_44_code 103 = .ok (.ireturn, 1) := by decide +kernel
theorem d_Nb_count_104 : decode prog_1_method_44_code 104 = .ok (.aload_n 0, 1) := by decide +kernel
theorem d_Nb_count_105 : decode prog_1_method_44_code 105 = .ok (.getfield 102, 3) := by decide +kernel
theorem d_Nb_count_108 : decode prog_1_method_44_code 108 = .ok (.ireturn, 1) := by decide +kernel
theorem d_Nb_count_109 : decode prog_1_method_44_code 109 = .ok (.iconst (-1), 1) := by decide +kernel
theorem d_Nb_count_110 : decode prog_1_method_44_code 110 = .ok (.ireturn, 1) := by decide +kernel
theorem t_Nb_count_J48 {G : mG} {r : mR} {v0 : Int} {h : mH}  (hr : f_Nb_count_J48 v0 h = some r) : mJ G M_Nb_count 48 [(2, v0), (9, 0)] [] h r := by
  unfold f_Nb_count_J48 at hr
  refine j_aload_n (pc := 48) d_Nb_count_48 rfl ?_
  refine j_getf (pc := 49) d_Nb_count_49 (fd_Nb_27 rfl) hr (fun hr => ?_)
  refine j_getf (pc := 52) d_Nb_count_52 (fd_Nb_139 rfl) hr (fun hr => ?_)
  exact j_iret (pc := 55) d_Nb_count_55 rfl hr
theorem t_Nb_count_J56 {G : mG} {r : mR} {v0 : Int} {h : mH}  (hr : f_Nb_count_J56 v0 h = some r) : mJ G M_Nb_count 56 [(2, v0), (9, 0)] [] h r := by
  unfold f_Nb_count_J56 at hr
  refine j_aload_n (pc := 56) d_Nb_count_56 rfl ?_
  refine j_getf (pc := 57) d_Nb_count_57 (fd_Nb_27 rfl) hr (fun hr => ?_)
  refine j_getf (pc := 60) d_Nb_count_60 (fd_Nb_222 rfl) hr (fun hr => ?_)
  exact j_iret (pc := 63) d_Nb_count_63 rfl hr
theorem t_Nb_count_J64 {G : mG} {r : mR} {v0 : Int} {h : mH}  (hr : f_Nb_count_J64 v0 h = some r) : mJ G M_Nb_count 64 [(2, v0), (9, 0)] [] h r := by
  unfold f_Nb_count_J64 at hr
  refine j_aload_n (pc := 64) d_Nb_count_64 rfl ?_
  refine j_getf (pc := 65) d_Nb_count_65 (fd_Nb_27 rfl) hr (fun hr => ?_)
  refine j_getf (pc := 68) d_Nb_count_68 (fd_Nb_168 rfl) hr (fun hr => ?_)
  exact j_iret (pc := 71) d_Nb_count_71 rfl hr
theorem t_Nb_count_J72 {G : mG} {r : mR} {v0 : Int} {h : mH}  (hr : f_Nb_count_J72 v0 h = some r) : mJ G M_Nb_count 72 [(2, v0), (9, 0)] [] h r := by
  unfold f_Nb_count_J72 at hr
  refine j_aload_n (pc := 72) d_Nb_count_72 rfl ?_
  refine j_getf (pc := 73) d_Nb_count_73 (fd_Nb_27 rfl) hr (fun hr => ?_)
  refine j_getf (pc := 76) d_Nb_count_76 (fd_Nb_430 rfl) hr (fun hr => ?_)
  exact j_iret (pc := 79) d_Nb_count_79 rfl hr
theorem t_Nb_count_J80 {G : mG} {r : mR} {v0 : Int} {h : mH}  (hr : f_Nb_count_J80 v0 h = some r) : mJ G M_Nb_count 80 [(2, v0), (9, 0)] [] h r := by
  unfold f_Nb_count_J80 at hr
  refine j_aload_n (pc := 80) d_Nb_count_80 rfl ?_
  refine j_getf (pc := 81) d_Nb_count_81 (fd_Nb_27 rfl) hr (fun hr => ?_)
  refine j_getf (pc := 84) d_Nb_count_84 (fd_Nb_433 rfl) hr (fun hr => ?_)
  exact j_iret (pc := 87) d_Nb_count_87 rfl hr
theorem t_Nb_count_J88 {G : mG} {r : mR} {v0 : Int} {h : mH}  (hr : f_Nb_count_J88 v0 h = some r) : mJ G M_Nb_count 88 [(2, v0), (9, 0)] [] h r := by
  unfold f_Nb_count_J88 at hr
  refine j_aload_n (pc := 88) d_Nb_count_88 rfl ?_
  refine j_getf (pc := 89) d_Nb_count_89 (fd_Nb_27 rfl) hr (fun hr => ?_)
  obtain ⟨ha, hr⟩ := chk_some hr
  refine j_callG (pc := 92) (stk := [(2, hpV h v0 6)]) (as := [(2, hpV h v0 6)]) (P := (fun v9 => ((0 : Nat), v9) :: [])) (tg := 0) (My := M_Box_standCount) (mRunV (as := []) (st := []) d_Nb_count_92 (mc_Box_standCount (by decide)) rfl (mv_Box_standCount tb_ml_Nb_327) rfl (Nat.le_of_ble_eq_true rfl) ha) (fun v => rfl) rfl hr (fun r1 h1 => t_Box_standCount _ _ _ h1) (fun x2 h1 hr => ?_)
  exact j_iret (pc := 95) d_Nb_count_95 rfl hr
theorem t_Nb_count_J96 {G : mG} {r : mR} {v0 : Int} {h : mH}  (hr : f_Nb_count_J96 v0 h = some r) : mJ G M_Nb_count 96 [(2, v0), (9, 0)] [] h r := by
  unfold f_Nb_count_J96 at hr
  refine j_aload_n (pc := 96) d_Nb_count_96 rfl ?_
  refine j_getf (pc := 97) d_Nb_count_97 (fd_Nb_27 rfl) hr (fun hr => ?_)
  obtain ⟨ha, hr⟩ := chk_some hr
  refine j_callG (pc := 100) (stk := [(2, hpV h v0 6)]) (as := [(2, hpV h v0 6)]) (P := (fun v9 => ((0 : Nat), v9) :: [])) (tg := 0) (My := M_Box_stepsMade) (mRunV (as := []) (st := []) d_Nb_count_100 (mc_Box_stepsMade (by decide)) rfl (mv_Box_stepsMade tb_ml_Nb_436) rfl (Nat.le_of_ble_eq_true rfl) ha) (fun v => rfl) rfl hr (fun r1 h1 => t_Box_stepsMade _ _ _ h1) (fun x2 h1 hr => ?_)
  exact j_iret (pc := 103) d_Nb_count_103 rfl hr
theorem t_Nb_count_J104 {G : mG} {r : mR} {v0 : Int} {h : mH}  (hr : f_Nb_count_J104 v0 h = some r) : mJ G M_Nb_count 104 [(2, v0), (9, 0)] [] h r := by
  unfold f_Nb_count_J104 at hr
  refine j_aload_n (pc := 104) d_Nb_count_104 rfl ?_
  refine j_getf (pc := 105) d_Nb_count_105 (fd_Nb_102 rfl) hr (fun hr => ?_)
  exact j_iret (pc := 108) d_Nb_count_108 rfl hr
theorem t_Nb_count {G : mG} (h : mH) (v0 v1 : Int) (r : mR) (hr : f_Nb_count h v0 v1 = some r) : mJM G M_Nb_count [(2, v0), (0, v1)] h r := by
  refine mJM_of (L := [(2, v0), (0, v1)]) rfl rfl rfl (Nat.le_of_ble_eq_true rfl) ?_
  unfold f_Nb_count at hr
  refine j_iload_n (pc := 0) d_Nb_count_0 rfl ?_
  refine j_tabK (pc := 1) (c := 0) (tgt := 48) d_Nb_count_1 (by decide) (by decide) rfl (by decide) hr (fun hr => ?_) (fun q0 hr => ?_)
  · exact mJ_weak (ls' := [(2, v0), (9, 0)]) (mwk_s (mwk_d mwk_n)) (t_Nb_count_J48  hr)
  refine j_tabK (pc := 1) (c := 1) (tgt := 56) d_Nb_count_1 (by decide) (by decide) rfl (by decide) hr (fun hr => ?_) (fun q1 hr => ?_)
  · exact mJ_weak (ls' := [(2, v0), (9, 0)]) (mwk_s (mwk_d mwk_n)) (t_Nb_count_J56  hr)
  refine j_tabK (pc := 1) (c := 2) (tgt := 64) d_Nb_count_1 (by decide) (by decide) rfl (by decide) hr (fun hr => ?_) (fun q2 hr => ?_)
  · exact mJ_weak (ls' := [(2, v0), (9, 0)]) (mwk_s (mwk_d mwk_n)) (t_Nb_count_J64  hr)
  refine j_tabK (pc := 1) (c := 3) (tgt := 72) d_Nb_count_1 (by decide) (by decide) rfl (by decide) hr (fun hr => ?_) (fun q3 hr => ?_)
  · exact mJ_weak (ls' := [(2, v0), (9, 0)]) (mwk_s (mwk_d mwk_n)) (t_Nb_count_J72  hr)
  refine j_tabK (pc := 1) (c := 4) (tgt := 80) d_Nb_count_1 (by decide) (by decide) rfl (by decide) hr (fun hr => ?_) (fun q4 hr => ?_)
  · exact mJ_weak (ls' := [(2, v0), (9, 0)]) (mwk_s (mwk_d mwk_n)) (t_Nb_count_J80  hr)
  refine j_tabK (pc := 1) (c := 5) (tgt := 88) d_Nb_count_1 (by decide) (by decide) rfl (by decide) hr (fun hr => ?_) (fun q5 hr => ?_)
  · exact mJ_weak (ls' := [(2, v0), (9, 0)]) (mwk_s (mwk_d mwk_n)) (t_Nb_count_J88  hr)
  refine j_tabK (pc := 1) (c := 6) (tgt := 96) d_Nb_count_1 (by decide) (by decide) rfl (by decide) hr (fun hr => ?_) (fun q6 hr => ?_)
  · exact mJ_weak (ls' := [(2, v0), (9, 0)]) (mwk_s (mwk_d mwk_n)) (t_Nb_count_J96  hr)
  refine j_tabK (pc := 1) (c := 7) (tgt := 104) d_Nb_count_1 (by decide) (by decide) rfl (by decide) hr (fun hr => ?_) (fun q7 hr => ?_)
  · exact mJ_weak (ls' := [(2, v0), (9, 0)]) (mwk_s (mwk_d mwk_n)) (t_Nb_count_J104  hr)
  refine j_tabOut (pc := 1) (tgt := 109) d_Nb_count_1 (by omega) (by decide) ?_
  refine j_iconst (pc := 109) d_Nb_count_109 ?_
  exact j_iret (pc := 110) d_Nb_count_110 rfl hr
def M_Md_init : mM := ("NineBarsModel", ⟨"NineBarsModel", "<init>", "()V"⟩, prog_13_method_1_code, 1, none, [], 1)
theorem tb_co_Md_init : mTB (Cond.code ⟨"NineBarsModel", "<init>", "()V"⟩ prog_13_method_1_code 1 (none)) := tbq6 204 (by decide +kernel) rfl
theorem tb_in_NineBarsModel : mTB (Cond.initialized "NineBarsModel") := tbq1 12 (by decide +kernel) rfl
theorem mc_Md_init {M : mM} (hd : 1 < mDp M) : mCal M M_Md_init 0 := ⟨tb_co_Md_init, tb_in_NineBarsModel, ⟨by decide +kernel, by decide +kernel⟩, by decide +kernel, hd, by decide⟩
theorem d_Md_init_0 : decode prog_13_method_1_code 0 = .ok (.aload_n 0, 1) := by decide +kernel
theorem d_Md_init_1 : decode prog_13_method_1_code 1 = .ok (.invokespecial 1, 3) := by decide +kernel
theorem tb_ml_Md_1 : mTB (Cond.methodLink "NineBarsModel" 1 ⟨"java/lang/Object", "<init>", "()V"⟩) := tbq6 205 (by decide +kernel) rfl
theorem d_Md_init_4 : decode prog_13_method_1_code 4 = .ok (.aload_n 0, 1) := by decide +kernel
theorem d_Md_init_5 : decode prog_13_method_1_code 5 = .ok (.sipush 434, 3) := by decide +kernel
theorem d_Md_init_8 : decode prog_13_method_1_code 8 = .ok (.newarray .int, 2) := by decide +kernel
theorem tb_fl_Md_9 : mTB (Cond.fieldLink "NineBarsModel" 9 "NineBarsModel" "told" "[I") := tbq6 207 (by decide +kernel) rfl
theorem fd_Md_9 {M : mM} (h : mO M = "NineBarsModel") : mFld M 9 11 0 2 := ⟨_, _, _, tyX11, rfl, by decide, by decide, rfl, uw_11, tyX11_ok, nmX11, by rw [h]; exact Or.inl tb_fl_Md_9⟩
theorem d_Md_init_10 : decode prog_13_method_1_code 10 = .ok (.putfield 9, 3) := by decide +kernel
theorem d_Md_init_13 : decode prog_13_method_1_code 13 = .ok (.aload_n 0, 1) := by decide +kernel
theorem d_Md_init_14 : decode prog_13_method_1_code 14 = .ok (.sipush 434, 3) := by decide +kernel
theorem d_Md_init_17 : decode prog_13_method_1_code 17 = .ok (.newarray .int, 2) := by decide +kernel
theorem tb_fl_Md_13 : mTB (Cond.fieldLink "NineBarsModel" 13 "NineBarsModel" "fresh" "[I") := tbq6 208 (by decide +kernel) rfl
theorem fd_Md_13 {M : mM} (h : mO M = "NineBarsModel") : mFld M 13 11 1 2 := ⟨_, _, _, tyX11, rfl, by decide, by decide, rfl, uw_11, tyX11_ok, nmX11, by rw [h]; exact Or.inl tb_fl_Md_13⟩
theorem d_Md_init_19 : decode prog_13_method_1_code 19 = .ok (.putfield 13, 3) := by decide +kernel
theorem d_Md_init_22 : decode prog_13_method_1_code 22 = .ok (.aload_n 0, 1) := by decide +kernel
theorem d_Md_init_23 : decode prog_13_method_1_code 23 = .ok (.sipush 434, 3) := by decide +kernel
theorem d_Md_init_26 : decode prog_13_method_1_code 26 = .ok (.newarray .int, 2) := by decide +kernel
theorem tb_fl_Md_16 : mTB (Cond.fieldLink "NineBarsModel" 16 "NineBarsModel" "kept" "[I") := tbq6 209 (by decide +kernel) rfl
theorem fd_Md_16 {M : mM} (h : mO M = "NineBarsModel") : mFld M 16 11 2 2 := ⟨_, _, _, tyX11, rfl, by decide, by decide, rfl, uw_11, tyX11_ok, nmX11, by rw [h]; exact Or.inl tb_fl_Md_16⟩
theorem d_Md_init_28 : decode prog_13_method_1_code 28 = .ok (.putfield 16, 3) := by decide +kernel
theorem d_Md_init_31 : decode prog_13_method_1_code 31 = .ok (.aload_n 0, 1) := by decide +kernel
theorem d_Md_init_32 : decode prog_13_method_1_code 32 = .ok (.sipush 1302, 3) := by decide +kernel
theorem d_Md_init_35 : decode prog_13_method_1_code 35 = .ok (.newarray .int, 2) := by decide +kernel
theorem tb_fl_Md_19 : mTB (Cond.fieldLink "NineBarsModel" 19 "NineBarsModel" "images" "[I") := tbq6 210 (by decide +kernel) rfl
theorem fd_Md_19 {M : mM} (h : mO M = "NineBarsModel") : mFld M 19 11 3 2 := ⟨_, _, _, tyX11, rfl, by decide, by decide, rfl, uw_11, tyX11_ok, nmX11, by rw [h]; exact Or.inl tb_fl_Md_19⟩
theorem d_Md_init_37 : decode prog_13_method_1_code 37 = .ok (.putfield 19, 3) := by decide +kernel
theorem d_Md_init_40 : decode prog_13_method_1_code 40 = .ok (.aload_n 0, 1) := by decide +kernel
theorem d_Md_init_41 : decode prog_13_method_1_code 41 = .ok (.iconst 3, 1) := by decide +kernel
theorem tb_ac_boolean : mTB (Cond.arrayClass .boolean) := tbq7 88 (by decide +kernel) rfl
theorem d_Md_init_42 : decode prog_13_method_1_code 42 = .ok (.newarray .boolean, 2) := by decide +kernel
theorem tb_fl_Md_22 : mTB (Cond.fieldLink "NineBarsModel" 22 "NineBarsModel" "isImage" "[Z") := tbq6 211 (by decide +kernel) rfl
theorem fd_Md_22 {M : mM} (h : mO M = "NineBarsModel") : mFld M 22 11 4 2 := ⟨_, _, _, tyX11, rfl, by decide, by decide, rfl, uw_11, tyX11_ok, nmX11, by rw [h]; exact Or.inl tb_fl_Md_22⟩
theorem d_Md_init_44 : decode prog_13_method_1_code 44 = .ok (.putfield 22, 3) := by decide +kernel
theorem d_Md_init_47 : decode prog_13_method_1_code 47 = .ok (.aload_n 0, 1) := by decide +kernel
theorem d_Md_init_48 : decode prog_13_method_1_code 48 = .ok (.sipush 900, 3) := by decide +kernel
theorem d_Md_init_51 : decode prog_13_method_1_code 51 = .ok (.newarray .int, 2) := by decide +kernel
theorem tb_fl_Md_26 : mTB (Cond.fieldLink "NineBarsModel" 26 "NineBarsModel" "tape" "[I") := tbq6 213 (by decide +kernel) rfl
theorem fd_Md_26 {M : mM} (h : mO M = "NineBarsModel") : mFld M 26 11 6 2 := ⟨_, _, _, tyX11, rfl, by decide, by decide, rfl, uw_11, tyX11_ok, nmX11, by rw [h]; exact Or.inl tb_fl_Md_26⟩
theorem d_Md_init_53 : decode prog_13_method_1_code 53 = .ok (.putfield 26, 3) := by decide +kernel
theorem d_Md_init_56 : decode prog_13_method_1_code 56 = .ok (.aload_n 0, 1) := by decide +kernel
theorem d_Md_init_57 : decode prog_13_method_1_code 57 = .ok (.iconst (-1), 1) := by decide +kernel
theorem tb_fl_Md_29 : mTB (Cond.fieldLink "NineBarsModel" 29 "NineBarsModel" "faultPlace" "I") := tbq6 223 (by decide +kernel) rfl
theorem fd_Md_29 {M : mM} (h : mO M = "NineBarsModel") : mFld M 29 11 16 0 := ⟨_, _, _, tyX11, rfl, by decide, by decide, rfl, uw_11, tyX11_ok, nmX11, by rw [h]; exact Or.inl tb_fl_Md_29⟩
theorem d_Md_init_58 : decode prog_13_method_1_code 58 = .ok (.putfield 29, 3) := by decide +kernel
theorem d_Md_init_61 : decode prog_13_method_1_code 61 = .ok (.aload_n 0, 1) := by decide +kernel
theorem d_Md_init_62 : decode prog_13_method_1_code 62 = .ok (.bipush 9, 2) := by decide +kernel
theorem d_Md_init_64 : decode prog_13_method_1_code 64 = .ok (.newarray .int, 2) := by decide +kernel
theorem tb_fl_Md_33 : mTB (Cond.fieldLink "NineBarsModel" 33 "NineBarsModel" "stood" "[I") := tbq6 224 (by decide +kernel) rfl
theorem fd_Md_33 {M : mM} (h : mO M = "NineBarsModel") : mFld M 33 11 17 2 := ⟨_, _, _, tyX11, rfl, by decide, by decide, rfl, uw_11, tyX11_ok, nmX11, by rw [h]; exact Or.inl tb_fl_Md_33⟩
theorem d_Md_init_66 : decode prog_13_method_1_code 66 = .ok (.putfield 33, 3) := by decide +kernel
theorem d_Md_init_69 : decode prog_13_method_1_code 69 = .ok (.aload_n 0, 1) := by decide +kernel
theorem d_Md_init_70 : decode prog_13_method_1_code 70 = .ok (.bipush 16, 2) := by decide +kernel
theorem d_Md_init_72 : decode prog_13_method_1_code 72 = .ok (.newarray .int, 2) := by decide +kernel
theorem tb_fl_Md_36 : mTB (Cond.fieldLink "NineBarsModel" 36 "NineBarsModel" "extra" "[I") := tbq6 225 (by decide +kernel) rfl
theorem fd_Md_36 {M : mM} (h : mO M = "NineBarsModel") : mFld M 36 11 18 2 := ⟨_, _, _, tyX11, rfl, by decide, by decide, rfl, uw_11, tyX11_ok, nmX11, by rw [h]; exact Or.inl tb_fl_Md_36⟩
theorem d_Md_init_74 : decode prog_13_method_1_code 74 = .ok (.putfield 36, 3) := by decide +kernel
theorem d_Md_init_77 : decode prog_13_method_1_code 77 = .ok (.aload_n 0, 1) := by decide +kernel
theorem d_Md_init_78 : decode prog_13_method_1_code 78 = .ok (.sipush 20000, 3) := by decide +kernel
theorem d_Md_init_81 : decode prog_13_method_1_code 81 = .ok (.newarray .int, 2) := by decide +kernel
theorem tb_fl_Md_39 : mTB (Cond.fieldLink "NineBarsModel" 39 "NineBarsModel" "far" "[I") := tbq6 229 (by decide +kernel) rfl
theorem fd_Md_39 {M : mM} (h : mO M = "NineBarsModel") : mFld M 39 11 22 2 := ⟨_, _, _, tyX11, rfl, by decide, by decide, rfl, uw_11, tyX11_ok, nmX11, by rw [h]; exact Or.inl tb_fl_Md_39⟩
theorem d_Md_init_83 : decode prog_13_method_1_code 83 = .ok (.putfield 39, 3) := by decide +kernel
theorem d_Md_init_86 : decode prog_13_method_1_code 86 = .ok (.aload_n 0, 1) := by decide +kernel
theorem d_Md_init_87 : decode prog_13_method_1_code 87 = .ok (.sipush 20000, 3) := by decide +kernel
theorem d_Md_init_90 : decode prog_13_method_1_code 90 = .ok (.newarray .int, 2) := by decide +kernel
theorem tb_fl_Md_42 : mTB (Cond.fieldLink "NineBarsModel" 42 "NineBarsModel" "row" "[I") := tbq6 230 (by decide +kernel) rfl
theorem fd_Md_42 {M : mM} (h : mO M = "NineBarsModel") : mFld M 42 11 23 2 := ⟨_, _, _, tyX11, rfl, by decide, by decide, rfl, uw_11, tyX11_ok, nmX11, by rw [h]; exact Or.inl tb_fl_Md_42⟩
theorem d_Md_init_92 : decode prog_13_method_1_code 92 = .ok (.putfield 42, 3) := by decide +kernel
theorem d_Md_init_95 : decode prog_13_method_1_code 95 = .ok (.aload_n 0, 1) := by decide +kernel
theorem d_Md_init_96 : decode prog_13_method_1_code 96 = .ok (.sipush 20000, 3) := by decide +kernel
theorem d_Md_init_99 : decode prog_13_method_1_code 99 = .ok (.newarray .long, 2) := by decide +kernel
theorem tb_fl_Md_45 : mTB (Cond.fieldLink "NineBarsModel" 45 "NineBarsModel" "many" "[J") := tbq6 232 (by decide +kernel) rfl
theorem fd_Md_45 {M : mM} (h : mO M = "NineBarsModel") : mFld M 45 11 25 2 := ⟨_, _, _, tyX11, rfl, by decide, by decide, rfl, uw_11, tyX11_ok, nmX11, by rw [h]; exact Or.inl tb_fl_Md_45⟩
theorem d_Md_init_101 : decode prog_13_method_1_code 101 = .ok (.putfield 45, 3) := by decide +kernel
theorem d_Md_init_104 : decode prog_13_method_1_code 104 = .ok (.aload_n 0, 1) := by decide +kernel
theorem d_Md_init_105 : decode prog_13_method_1_code 105 = .ok (.sipush 20000, 3) := by decide +kernel
theorem d_Md_init_108 : decode prog_13_method_1_code 108 = .ok (.newarray .long, 2) := by decide +kernel
theorem tb_fl_Md_49 : mTB (Cond.fieldLink "NineBarsModel" 49 "NineBarsModel" "later" "[J") := tbq6 233 (by decide +kernel) rfl
theorem fd_Md_49 {M : mM} (h : mO M = "NineBarsModel") : mFld M 49 11 26 2 := ⟨_, _, _, tyX11, rfl, by decide, by decide, rfl, uw_11, tyX11_ok, nmX11, by rw [h]; exact Or.inl tb_fl_Md_49⟩
theorem d_Md_init_110 : decode prog_13_method_1_code 110 = .ok (.putfield 49, 3) := by decide +kernel
theorem d_Md_init_113 : decode prog_13_method_1_code 113 = .ok (.aload_n 0, 1) := by decide +kernel
theorem d_Md_init_114 : decode prog_13_method_1_code 114 = .ok (.sipush 20000, 3) := by decide +kernel
theorem d_Md_init_117 : decode prog_13_method_1_code 117 = .ok (.newarray .int, 2) := by decide +kernel
theorem tb_fl_Md_52 : mTB (Cond.fieldLink "NineBarsModel" 52 "NineBarsModel" "end" "[I") := tbq6 234 (by decide +kernel) rfl
theorem fd_Md_52 {M : mM} (h : mO M = "NineBarsModel") : mFld M 52 11 27 2 := ⟨_, _, _, tyX11, rfl, by decide, by decide, rfl, uw_11, tyX11_ok, nmX11, by rw [h]; exact Or.inl tb_fl_Md_52⟩
theorem d_Md_init_119 : decode prog_13_method_1_code 119 = .ok (.putfield 52, 3) := by decide +kernel
theorem d_Md_init_122 : decode prog_13_method_1_code 122 = .ok (.aload_n 0, 1) := by decide +kernel
theorem d_Md_init_123 : decode prog_13_method_1_code 123 = .ok (.bipush 7, 2) := by decide +kernel
theorem d_Md_init_125 : decode prog_13_method_1_code 125 = .ok (.newarray .int, 2) := by decide +kernel
theorem tb_fl_Md_55 : mTB (Cond.fieldLink "NineBarsModel" 55 "NineBarsModel" "hard" "[I") := tbq6 235 (by decide +kernel) rfl
theorem fd_Md_55 {M : mM} (h : mO M = "NineBarsModel") : mFld M 55 11 28 2 := ⟨_, _, _, tyX11, rfl, by decide, by decide, rfl, uw_11, tyX11_ok, nmX11, by rw [h]; exact Or.inl tb_fl_Md_55⟩
theorem d_Md_init_127 : decode prog_13_method_1_code 127 = .ok (.putfield 55, 3) := by decide +kernel
theorem d_Md_init_130 : decode prog_13_method_1_code 130 = .ok (.aload_n 0, 1) := by decide +kernel
theorem tb_ci_Md_58 : mTB (Cond.constant "NineBarsModel" 58 360000) := tbq6 206 (by decide +kernel) rfl
theorem d_Md_init_131 : decode prog_13_method_1_code 131 = .ok (.ldc 58, 2) := by decide +kernel
theorem d_Md_init_133 : decode prog_13_method_1_code 133 = .ok (.newarray .int, 2) := by decide +kernel
theorem tb_fl_Md_59 : mTB (Cond.fieldLink "NineBarsModel" 59 "NineBarsModel" "leads" "[I") := tbq6 236 (by decide +kernel) rfl
theorem fd_Md_59 {M : mM} (h : mO M = "NineBarsModel") : mFld M 59 11 29 2 := ⟨_, _, _, tyX11, rfl, by decide, by decide, rfl, uw_11, tyX11_ok, nmX11, by rw [h]; exact Or.inl tb_fl_Md_59⟩
theorem d_Md_init_135 : decode prog_13_method_1_code 135 = .ok (.putfield 59, 3) := by decide +kernel
theorem d_Md_init_138 : decode prog_13_method_1_code 138 = .ok (.aload_n 0, 1) := by decide +kernel
theorem d_Md_init_139 : decode prog_13_method_1_code 139 = .ok (.bipush 40, 2) := by decide +kernel
theorem d_Md_init_141 : decode prog_13_method_1_code 141 = .ok (.newarray .int, 2) := by decide +kernel
theorem tb_fl_Md_62 : mTB (Cond.fieldLink "NineBarsModel" 62 "NineBarsModel" "verse" "[I") := tbq6 237 (by decide +kernel) rfl
theorem fd_Md_62 {M : mM} (h : mO M = "NineBarsModel") : mFld M 62 11 30 2 := ⟨_, _, _, tyX11, rfl, by decide, by decide, rfl, uw_11, tyX11_ok, nmX11, by rw [h]; exact Or.inl tb_fl_Md_62⟩
theorem d_Md_init_143 : decode prog_13_method_1_code 143 = .ok (.putfield 62, 3) := by decide +kernel
theorem d_Md_init_146 : decode prog_13_method_1_code 146 = .ok (.aload_n 0, 1) := by decide +kernel
theorem d_Md_init_147 : decode prog_13_method_1_code 147 = .ok (.iconst 2, 1) := by decide +kernel
theorem d_Md_init_148 : decode prog_13_method_1_code 148 = .ok (.newarray .int, 2) := by decide +kernel
theorem tb_fl_Md_65 : mTB (Cond.fieldLink "NineBarsModel" 65 "NineBarsModel" "lines" "[I") := tbq6 238 (by decide +kernel) rfl
theorem fd_Md_65 {M : mM} (h : mO M = "NineBarsModel") : mFld M 65 11 31 2 := ⟨_, _, _, tyX11, rfl, by decide, by decide, rfl, uw_11, tyX11_ok, nmX11, by rw [h]; exact Or.inl tb_fl_Md_65⟩
theorem d_Md_init_150 : decode prog_13_method_1_code 150 = .ok (.putfield 65, 3) := by decide +kernel
theorem d_Md_init_153 : decode prog_13_method_1_code 153 = .ok (.aload_n 0, 1) := by decide +kernel
theorem d_Md_init_154 : decode prog_13_method_1_code 154 = .ok (.bipush 72, 2) := by decide +kernel
theorem d_Md_init_156 : decode prog_13_method_1_code 156 = .ok (.newarray .int, 2) := by decide +kernel
theorem tb_fl_Md_68 : mTB (Cond.fieldLink "NineBarsModel" 68 "NineBarsModel" "facts" "[I") := tbq7 0 (by decide +kernel) rfl
theorem fd_Md_68 {M : mM} (h : mO M = "NineBarsModel") : mFld M 68 11 33 2 := ⟨_, _, _, tyX11, rfl, by decide, by decide, rfl, uw_11, tyX11_ok, nmX11, by rw [h]; exact Or.inl tb_fl_Md_68⟩
theorem d_Md_init_158 : decode prog_13_method_1_code 158 = .ok (.putfield 68, 3) := by decide +kernel
theorem d_Md_init_161 : decode prog_13_method_1_code 161 = .ok (.aload_n 0, 1) := by decide +kernel
theorem d_Md_init_162 : decode prog_13_method_1_code 162 = .ok (.sipush 20000, 3) := by decide +kernel
theorem d_Md_init_165 : decode prog_13_method_1_code 165 = .ok (.newarray .int, 2) := by decide +kernel
theorem tb_fl_Md_71 : mTB (Cond.fieldLink "NineBarsModel" 71 "NineBarsModel" "first" "[I") := tbq7 2 (by decide +kernel) rfl
theorem fd_Md_71 {M : mM} (h : mO M = "NineBarsModel") : mFld M 71 11 35 2 := ⟨_, _, _, tyX11, rfl, by decide, by decide, rfl, uw_11, tyX11_ok, nmX11, by rw [h]; exact Or.inl tb_fl_Md_71⟩
theorem d_Md_init_167 : decode prog_13_method_1_code 167 = .ok (.putfield 71, 3) := by decide +kernel
theorem d_Md_init_170 : decode prog_13_method_1_code 170 = .ok (.aload_n 0, 1) := by decide +kernel
theorem d_Md_init_171 : decode prog_13_method_1_code 171 = .ok (.sipush 20000, 3) := by decide +kernel
theorem d_Md_init_174 : decode prog_13_method_1_code 174 = .ok (.newarray .int, 2) := by decide +kernel
theorem tb_fl_Md_74 : mTB (Cond.fieldLink "NineBarsModel" 74 "NineBarsModel" "other" "[I") := tbq7 3 (by decide +kernel) rfl
theorem fd_Md_74 {M : mM} (h : mO M = "NineBarsModel") : mFld M 74 11 36 2 := ⟨_, _, _, tyX11, rfl, by decide, by decide, rfl, uw_11, tyX11_ok, nmX11, by rw [h]; exact Or.inl tb_fl_Md_74⟩
theorem d_Md_init_176 : decode prog_13_method_1_code 176 = .ok (.putfield 74, 3) := by decide +kernel
theorem d_Md_init_179 : decode prog_13_method_1_code 179 = .ok (.aload_n 0, 1) := by decide +kernel
theorem d_Md_init_180 : decode prog_13_method_1_code 180 = .ok (.iconst 4, 1) := by decide +kernel
theorem d_Md_init_181 : decode prog_13_method_1_code 181 = .ok (.newarray .int, 2) := by decide +kernel
theorem d_Md_init_183 : decode prog_13_method_1_code 183 = .ok (.dup, 1) := by decide +kernel
theorem d_Md_init_184 : decode prog_13_method_1_code 184 = .ok (.iconst 0, 1) := by decide +kernel
theorem d_Md_init_185 : decode prog_13_method_1_code 185 = .ok (.iconst (-1), 1) := by decide +kernel
theorem d_Md_init_186 : decode prog_13_method_1_code 186 = .ok (.iastore, 1) := by decide +kernel
theorem d_Md_init_187 : decode prog_13_method_1_code 187 = .ok (.dup, 1) := by decide +kernel
theorem d_Md_init_188 : decode prog_13_method_1_code 188 = .ok (.iconst 1, 1) := by decide +kernel
theorem d_Md_init_189 : decode prog_13_method_1_code 189 = .ok (.iconst (-1), 1) := by decide +kernel
theorem d_Md_init_190 : decode prog_13_method_1_code 190 = .ok (.iastore, 1) := by decide +kernel
theorem d_Md_init_191 : decode prog_13_method_1_code 191 = .ok (.dup, 1) := by decide +kernel
theorem d_Md_init_192 : decode prog_13_method_1_code 192 = .ok (.iconst 2, 1) := by decide +kernel
theorem d_Md_init_193 : decode prog_13_method_1_code 193 = .ok (.iconst (-1), 1) := by decide +kernel
theorem d_Md_init_194 : decode prog_13_method_1_code 194 = .ok (.iastore, 1) := by decide +kernel
theorem d_Md_init_195 : decode prog_13_method_1_code 195 = .ok (.dup, 1) := by decide +kernel
theorem d_Md_init_196 : decode prog_13_method_1_code 196 = .ok (.iconst 3, 1) := by decide +kernel
theorem d_Md_init_197 : decode prog_13_method_1_code 197 = .ok (.iconst (-1), 1) := by decide +kernel
theorem d_Md_init_198 : decode prog_13_method_1_code 198 = .ok (.iastore, 1) := by decide +kernel
theorem tb_fl_Md_77 : mTB (Cond.fieldLink "NineBarsModel" 77 "NineBarsModel" "tSort" "[I") := tbq7 4 (by decide +kernel) rfl
theorem fd_Md_77 {M : mM} (h : mO M = "NineBarsModel") : mFld M 77 11 37 2 := ⟨_, _, _, tyX11, rfl, by decide, by decide, rfl, uw_11, tyX11_ok, nmX11, by rw [h]; exact Or.inl tb_fl_Md_77⟩
theorem d_Md_init_199 : decode prog_13_method_1_code 199 = .ok (.putfield 77, 3) := by decide +kernel
theorem d_Md_init_202 : decode prog_13_method_1_code 202 = .ok (.aload_n 0, 1) := by decide +kernel
theorem d_Md_init_203 : decode prog_13_method_1_code 203 = .ok (.iconst 4, 1) := by decide +kernel
theorem d_Md_init_204 : decode prog_13_method_1_code 204 = .ok (.newarray .int, 2) := by decide +kernel
theorem tb_fl_Md_80 : mTB (Cond.fieldLink "NineBarsModel" 80 "NineBarsModel" "tMany" "[I") := tbq7 5 (by decide +kernel) rfl
theorem fd_Md_80 {M : mM} (h : mO M = "NineBarsModel") : mFld M 80 11 38 2 := ⟨_, _, _, tyX11, rfl, by decide, by decide, rfl, uw_11, tyX11_ok, nmX11, by rw [h]; exact Or.inl tb_fl_Md_80⟩
theorem d_Md_init_206 : decode prog_13_method_1_code 206 = .ok (.putfield 80, 3) := by decide +kernel
theorem d_Md_init_209 : decode prog_13_method_1_code 209 = .ok (.aload_n 0, 1) := by decide +kernel
theorem d_Md_init_210 : decode prog_13_method_1_code 210 = .ok (.sipush 160, 3) := by decide +kernel
theorem d_Md_init_213 : decode prog_13_method_1_code 213 = .ok (.newarray .long, 2) := by decide +kernel
theorem tb_fl_Md_83 : mTB (Cond.fieldLink "NineBarsModel" 83 "NineBarsModel" "numbers" "[J") := tbq7 6 (by decide +kernel) rfl
theorem fd_Md_83 {M : mM} (h : mO M = "NineBarsModel") : mFld M 83 11 39 2 := ⟨_, _, _, tyX11, rfl, by decide, by decide, rfl, uw_11, tyX11_ok, nmX11, by rw [h]; exact Or.inl tb_fl_Md_83⟩
theorem d_Md_init_215 : decode prog_13_method_1_code 215 = .ok (.putfield 83, 3) := by decide +kernel
theorem d_Md_init_218 : decode prog_13_method_1_code 218 = .ok (.return_, 1) := by decide +kernel
theorem t_Md_init_J179 {G : mG} {r : mR} {v0 : Int} {h : mH}  (hr : f_Md_init_J179 v0 h = some r) : mJ G M_Md_init 179 [(2, v0)] [] h r := by
  unfold f_Md_init_J179 at hr
  refine j_aload_n (pc := 179) d_Md_init_179 rfl ?_
  refine j_iconst (pc := 180) d_Md_init_180 ?_
  refine j_newI (pc := 181) d_Md_init_181 tb_ac_int hr (fun h1 hr => ?_)
  refine j_dup (pc := 183) d_Md_init_183 ?_
  refine j_iconst (pc := 184) d_Md_init_184 ?_
  refine j_iconst (pc := 185) d_Md_init_185 ?_
  refine j_iastore (pc := 186) d_Md_init_186 hr (fun h2 hr => ?_)
  refine j_dup (pc := 187) d_Md_init_187 ?_
  refine j_iconst (pc := 188) d_Md_init_188 ?_
  refine j_iconst (pc := 189) d_Md_init_189 ?_
  refine j_iastore (pc := 190) d_Md_init_190 hr (fun h3 hr => ?_)
  refine j_dup (pc := 191) d_Md_init_191 ?_
  refine j_iconst (pc := 192) d_Md_init_192 ?_
  refine j_iconst (pc := 193) d_Md_init_193 ?_
  refine j_iastore (pc := 194) d_Md_init_194 hr (fun h4 hr => ?_)
  refine j_dup (pc := 195) d_Md_init_195 ?_
  refine j_iconst (pc := 196) d_Md_init_196 ?_
  refine j_iconst (pc := 197) d_Md_init_197 ?_
  refine j_iastore (pc := 198) d_Md_init_198 hr (fun h5 hr => ?_)
  refine j_puta (pc := 199) d_Md_init_199 (fd_Md_77 rfl) (⟨_, _, _, rfl, Or.inr ⟨rfl, rfl, rfl, tb_fl_Md_77⟩, rfl⟩ : mFldW M_Md_init 77 11 37 (.array .int)) (Or.inr ⟨_, rfl⟩) hr (fun h6 hr => ?_)
  refine j_aload_n (pc := 202) d_Md_init_202 rfl ?_
  refine j_iconst (pc := 203) d_Md_init_203 ?_
  refine j_newI (pc := 204) d_Md_init_204 tb_ac_int hr (fun h7 hr => ?_)
  refine j_puta (pc := 206) d_Md_init_206 (fd_Md_80 rfl) (⟨_, _, _, rfl, Or.inr ⟨rfl, rfl, rfl, tb_fl_Md_80⟩, rfl⟩ : mFldW M_Md_init 80 11 38 (.array .int)) (Or.inr ⟨_, rfl⟩) hr (fun h8 hr => ?_)
  refine j_aload_n (pc := 209) d_Md_init_209 rfl ?_
  refine j_sipush (pc := 210) d_Md_init_210 ?_
  refine j_newJ (pc := 213) d_Md_init_213 tb_ac_long hr (fun h9 hr => ?_)
  refine j_puta (pc := 215) d_Md_init_215 (fd_Md_83 rfl) (⟨_, _, _, rfl, Or.inr ⟨rfl, rfl, rfl, tb_fl_Md_83⟩, rfl⟩ : mFldW M_Md_init 83 11 39 (.array .long)) (Or.inr ⟨_, rfl⟩) hr (fun h10 hr => ?_)
  exact j_vret (pc := 218) d_Md_init_218 rfl hr
theorem t_Md_init_J153 {G : mG} {r : mR} {v0 : Int} {h : mH}  (hr : f_Md_init_J153 v0 h = some r) : mJ G M_Md_init 153 [(2, v0)] [] h r := by
  unfold f_Md_init_J153 at hr
  refine j_aload_n (pc := 153) d_Md_init_153 rfl ?_
  refine j_bipush (pc := 154) d_Md_init_154 ?_
  refine j_newI (pc := 156) d_Md_init_156 tb_ac_int hr (fun h1 hr => ?_)
  refine j_puta (pc := 158) d_Md_init_158 (fd_Md_68 rfl) (⟨_, _, _, rfl, Or.inr ⟨rfl, rfl, rfl, tb_fl_Md_68⟩, rfl⟩ : mFldW M_Md_init 68 11 33 (.array .int)) (Or.inr ⟨_, rfl⟩) hr (fun h2 hr => ?_)
  refine j_aload_n (pc := 161) d_Md_init_161 rfl ?_
  refine j_sipush (pc := 162) d_Md_init_162 ?_
  refine j_newI (pc := 165) d_Md_init_165 tb_ac_int hr (fun h3 hr => ?_)
  refine j_puta (pc := 167) d_Md_init_167 (fd_Md_71 rfl) (⟨_, _, _, rfl, Or.inr ⟨rfl, rfl, rfl, tb_fl_Md_71⟩, rfl⟩ : mFldW M_Md_init 71 11 35 (.array .int)) (Or.inr ⟨_, rfl⟩) hr (fun h4 hr => ?_)
  refine j_aload_n (pc := 170) d_Md_init_170 rfl ?_
  refine j_sipush (pc := 171) d_Md_init_171 ?_
  refine j_newI (pc := 174) d_Md_init_174 tb_ac_int hr (fun h5 hr => ?_)
  refine j_puta (pc := 176) d_Md_init_176 (fd_Md_74 rfl) (⟨_, _, _, rfl, Or.inr ⟨rfl, rfl, rfl, tb_fl_Md_74⟩, rfl⟩ : mFldW M_Md_init 74 11 36 (.array .int)) (Or.inr ⟨_, rfl⟩) hr (fun h6 hr => ?_)
  exact mJ_weak (ls' := [(2, v0)]) (mwk_s mwk_n) (t_Md_init_J179  hr)
theorem t_Md_init_J130 {G : mG} {r : mR} {v0 : Int} {h : mH}  (hr : f_Md_init_J130 v0 h = some r) : mJ G M_Md_init 130 [(2, v0)] [] h r := by
  unfold f_Md_init_J130 at hr
  refine j_aload_n (pc := 130) d_Md_init_130 rfl ?_
  refine j_ldc (pc := 131) (z := 360000) d_Md_init_131 tb_ci_Md_58 rfl ?_
  refine j_newI (pc := 133) d_Md_init_133 tb_ac_int hr (fun h1 hr => ?_)
  refine j_puta (pc := 135) d_Md_init_135 (fd_Md_59 rfl) (⟨_, _, _, rfl, Or.inr ⟨rfl, rfl, rfl, tb_fl_Md_59⟩, rfl⟩ : mFldW M_Md_init 59 11 29 (.array .int)) (Or.inr ⟨_, rfl⟩) hr (fun h2 hr => ?_)
  refine j_aload_n (pc := 138) d_Md_init_138 rfl ?_
  refine j_bipush (pc := 139) d_Md_init_139 ?_
  refine j_newI (pc := 141) d_Md_init_141 tb_ac_int hr (fun h3 hr => ?_)
  refine j_puta (pc := 143) d_Md_init_143 (fd_Md_62 rfl) (⟨_, _, _, rfl, Or.inr ⟨rfl, rfl, rfl, tb_fl_Md_62⟩, rfl⟩ : mFldW M_Md_init 62 11 30 (.array .int)) (Or.inr ⟨_, rfl⟩) hr (fun h4 hr => ?_)
  refine j_aload_n (pc := 146) d_Md_init_146 rfl ?_
  refine j_iconst (pc := 147) d_Md_init_147 ?_
  refine j_newI (pc := 148) d_Md_init_148 tb_ac_int hr (fun h5 hr => ?_)
  refine j_puta (pc := 150) d_Md_init_150 (fd_Md_65 rfl) (⟨_, _, _, rfl, Or.inr ⟨rfl, rfl, rfl, tb_fl_Md_65⟩, rfl⟩ : mFldW M_Md_init 65 11 31 (.array .int)) (Or.inr ⟨_, rfl⟩) hr (fun h6 hr => ?_)
  exact mJ_weak (ls' := [(2, v0)]) (mwk_s mwk_n) (t_Md_init_J153  hr)
theorem t_Md_init_J104 {G : mG} {r : mR} {v0 : Int} {h : mH}  (hr : f_Md_init_J104 v0 h = some r) : mJ G M_Md_init 104 [(2, v0)] [] h r := by
  unfold f_Md_init_J104 at hr
  refine j_aload_n (pc := 104) d_Md_init_104 rfl ?_
  refine j_sipush (pc := 105) d_Md_init_105 ?_
  refine j_newJ (pc := 108) d_Md_init_108 tb_ac_long hr (fun h1 hr => ?_)
  refine j_puta (pc := 110) d_Md_init_110 (fd_Md_49 rfl) (⟨_, _, _, rfl, Or.inr ⟨rfl, rfl, rfl, tb_fl_Md_49⟩, rfl⟩ : mFldW M_Md_init 49 11 26 (.array .long)) (Or.inr ⟨_, rfl⟩) hr (fun h2 hr => ?_)
  refine j_aload_n (pc := 113) d_Md_init_113 rfl ?_
  refine j_sipush (pc := 114) d_Md_init_114 ?_
  refine j_newI (pc := 117) d_Md_init_117 tb_ac_int hr (fun h3 hr => ?_)
  refine j_puta (pc := 119) d_Md_init_119 (fd_Md_52 rfl) (⟨_, _, _, rfl, Or.inr ⟨rfl, rfl, rfl, tb_fl_Md_52⟩, rfl⟩ : mFldW M_Md_init 52 11 27 (.array .int)) (Or.inr ⟨_, rfl⟩) hr (fun h4 hr => ?_)
  refine j_aload_n (pc := 122) d_Md_init_122 rfl ?_
  refine j_bipush (pc := 123) d_Md_init_123 ?_
  refine j_newI (pc := 125) d_Md_init_125 tb_ac_int hr (fun h5 hr => ?_)
  refine j_puta (pc := 127) d_Md_init_127 (fd_Md_55 rfl) (⟨_, _, _, rfl, Or.inr ⟨rfl, rfl, rfl, tb_fl_Md_55⟩, rfl⟩ : mFldW M_Md_init 55 11 28 (.array .int)) (Or.inr ⟨_, rfl⟩) hr (fun h6 hr => ?_)
  exact mJ_weak (ls' := [(2, v0)]) (mwk_s mwk_n) (t_Md_init_J130  hr)
theorem t_Md_init_J77 {G : mG} {r : mR} {v0 : Int} {h : mH}  (hr : f_Md_init_J77 v0 h = some r) : mJ G M_Md_init 77 [(2, v0)] [] h r := by
  unfold f_Md_init_J77 at hr
  refine j_aload_n (pc := 77) d_Md_init_77 rfl ?_
  refine j_sipush (pc := 78) d_Md_init_78 ?_
  refine j_newI (pc := 81) d_Md_init_81 tb_ac_int hr (fun h1 hr => ?_)
  refine j_puta (pc := 83) d_Md_init_83 (fd_Md_39 rfl) (⟨_, _, _, rfl, Or.inr ⟨rfl, rfl, rfl, tb_fl_Md_39⟩, rfl⟩ : mFldW M_Md_init 39 11 22 (.array .int)) (Or.inr ⟨_, rfl⟩) hr (fun h2 hr => ?_)
  refine j_aload_n (pc := 86) d_Md_init_86 rfl ?_
  refine j_sipush (pc := 87) d_Md_init_87 ?_
  refine j_newI (pc := 90) d_Md_init_90 tb_ac_int hr (fun h3 hr => ?_)
  refine j_puta (pc := 92) d_Md_init_92 (fd_Md_42 rfl) (⟨_, _, _, rfl, Or.inr ⟨rfl, rfl, rfl, tb_fl_Md_42⟩, rfl⟩ : mFldW M_Md_init 42 11 23 (.array .int)) (Or.inr ⟨_, rfl⟩) hr (fun h4 hr => ?_)
  refine j_aload_n (pc := 95) d_Md_init_95 rfl ?_
  refine j_sipush (pc := 96) d_Md_init_96 ?_
  refine j_newJ (pc := 99) d_Md_init_99 tb_ac_long hr (fun h5 hr => ?_)
  refine j_puta (pc := 101) d_Md_init_101 (fd_Md_45 rfl) (⟨_, _, _, rfl, Or.inr ⟨rfl, rfl, rfl, tb_fl_Md_45⟩, rfl⟩ : mFldW M_Md_init 45 11 25 (.array .long)) (Or.inr ⟨_, rfl⟩) hr (fun h6 hr => ?_)
  exact mJ_weak (ls' := [(2, v0)]) (mwk_s mwk_n) (t_Md_init_J104  hr)
theorem t_Md_init_J56 {G : mG} {r : mR} {v0 : Int} {h : mH}  (hr : f_Md_init_J56 v0 h = some r) : mJ G M_Md_init 56 [(2, v0)] [] h r := by
  unfold f_Md_init_J56 at hr
  refine j_aload_n (pc := 56) d_Md_init_56 rfl ?_
  refine j_iconst (pc := 57) d_Md_init_57 ?_
  refine j_puti (pc := 58) d_Md_init_58 (fd_Md_29 rfl) (⟨_, _, _, rfl, Or.inl rfl, rfl⟩ : mFldW M_Md_init 29 11 16 .int) hr (fun h1 hr => ?_)
  refine j_aload_n (pc := 61) d_Md_init_61 rfl ?_
  refine j_bipush (pc := 62) d_Md_init_62 ?_
  refine j_newI (pc := 64) d_Md_init_64 tb_ac_int hr (fun h2 hr => ?_)
  refine j_puta (pc := 66) d_Md_init_66 (fd_Md_33 rfl) (⟨_, _, _, rfl, Or.inr ⟨rfl, rfl, rfl, tb_fl_Md_33⟩, rfl⟩ : mFldW M_Md_init 33 11 17 (.array .int)) (Or.inr ⟨_, rfl⟩) hr (fun h3 hr => ?_)
  refine j_aload_n (pc := 69) d_Md_init_69 rfl ?_
  refine j_bipush (pc := 70) d_Md_init_70 ?_
  refine j_newI (pc := 72) d_Md_init_72 tb_ac_int hr (fun h4 hr => ?_)
  refine j_puta (pc := 74) d_Md_init_74 (fd_Md_36 rfl) (⟨_, _, _, rfl, Or.inr ⟨rfl, rfl, rfl, tb_fl_Md_36⟩, rfl⟩ : mFldW M_Md_init 36 11 18 (.array .int)) (Or.inr ⟨_, rfl⟩) hr (fun h5 hr => ?_)
  exact mJ_weak (ls' := [(2, v0)]) (mwk_s mwk_n) (t_Md_init_J77  hr)
theorem t_Md_init_J31 {G : mG} {r : mR} {v0 : Int} {h : mH}  (hr : f_Md_init_J31 v0 h = some r) : mJ G M_Md_init 31 [(2, v0)] [] h r := by
  unfold f_Md_init_J31 at hr
  refine j_aload_n (pc := 31) d_Md_init_31 rfl ?_
  refine j_sipush (pc := 32) d_Md_init_32 ?_
  refine j_newI (pc := 35) d_Md_init_35 tb_ac_int hr (fun h1 hr => ?_)
  refine j_puta (pc := 37) d_Md_init_37 (fd_Md_19 rfl) (⟨_, _, _, rfl, Or.inr ⟨rfl, rfl, rfl, tb_fl_Md_19⟩, rfl⟩ : mFldW M_Md_init 19 11 3 (.array .int)) (Or.inr ⟨_, rfl⟩) hr (fun h2 hr => ?_)
  refine j_aload_n (pc := 40) d_Md_init_40 rfl ?_
  refine j_iconst (pc := 41) d_Md_init_41 ?_
  refine j_newZ (pc := 42) d_Md_init_42 tb_ac_boolean hr (fun h3 hr => ?_)
  refine j_puta (pc := 44) d_Md_init_44 (fd_Md_22 rfl) (⟨_, _, _, rfl, Or.inr ⟨rfl, rfl, rfl, tb_fl_Md_22⟩, rfl⟩ : mFldW M_Md_init 22 11 4 (.array .boolean)) (Or.inr ⟨_, rfl⟩) hr (fun h4 hr => ?_)
  refine j_aload_n (pc := 47) d_Md_init_47 rfl ?_
  refine j_sipush (pc := 48) d_Md_init_48 ?_
  refine j_newI (pc := 51) d_Md_init_51 tb_ac_int hr (fun h5 hr => ?_)
  refine j_puta (pc := 53) d_Md_init_53 (fd_Md_26 rfl) (⟨_, _, _, rfl, Or.inr ⟨rfl, rfl, rfl, tb_fl_Md_26⟩, rfl⟩ : mFldW M_Md_init 26 11 6 (.array .int)) (Or.inr ⟨_, rfl⟩) hr (fun h6 hr => ?_)
  exact mJ_weak (ls' := [(2, v0)]) (mwk_s mwk_n) (t_Md_init_J56  hr)
theorem t_Md_init {G : mG} (h : mH) (v0 : Int) (r : mR) (hr : f_Md_init h v0 = some r) : mJM G M_Md_init [(2, v0)] h r := by
  refine mJM_of (L := [(2, v0)]) rfl rfl rfl (Nat.le_of_ble_eq_true rfl) ?_
  unfold f_Md_init at hr
  refine j_aload_n (pc := 0) d_Md_init_0 rfl ?_
  obtain ⟨ha, hr⟩ := chk_some hr
  refine j_objInit (pc := 1) d_Md_init_1 tb_ml_Md_1 tb_im_Obj tb_co_Obj (Nat.le_of_ble_eq_true rfl) ha ?_
  refine j_aload_n (pc := 4) d_Md_init_4 rfl ?_
  refine j_sipush (pc := 5) d_Md_init_5 ?_
  refine j_newI (pc := 8) d_Md_init_8 tb_ac_int hr (fun h1 hr => ?_)
  refine j_puta (pc := 10) d_Md_init_10 (fd_Md_9 rfl) (⟨_, _, _, rfl, Or.inr ⟨rfl, rfl, rfl, tb_fl_Md_9⟩, rfl⟩ : mFldW M_Md_init 9 11 0 (.array .int)) (Or.inr ⟨_, rfl⟩) hr (fun h2 hr => ?_)
  refine j_aload_n (pc := 13) d_Md_init_13 rfl ?_
  refine j_sipush (pc := 14) d_Md_init_14 ?_
  refine j_newI (pc := 17) d_Md_init_17 tb_ac_int hr (fun h3 hr => ?_)
  refine j_puta (pc := 19) d_Md_init_19 (fd_Md_13 rfl) (⟨_, _, _, rfl, Or.inr ⟨rfl, rfl, rfl, tb_fl_Md_13⟩, rfl⟩ : mFldW M_Md_init 13 11 1 (.array .int)) (Or.inr ⟨_, rfl⟩) hr (fun h4 hr => ?_)
  refine j_aload_n (pc := 22) d_Md_init_22 rfl ?_
  refine j_sipush (pc := 23) d_Md_init_23 ?_
  refine j_newI (pc := 26) d_Md_init_26 tb_ac_int hr (fun h5 hr => ?_)
  refine j_puta (pc := 28) d_Md_init_28 (fd_Md_16 rfl) (⟨_, _, _, rfl, Or.inr ⟨rfl, rfl, rfl, tb_fl_Md_16⟩, rfl⟩ : mFldW M_Md_init 16 11 2 (.array .int)) (Or.inr ⟨_, rfl⟩) hr (fun h6 hr => ?_)
  exact mJ_weak (ls' := [(2, v0)]) (mwk_s mwk_n) (t_Md_init_J31  hr)
