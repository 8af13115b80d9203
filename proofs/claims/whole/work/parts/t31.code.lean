def M_Md_readNested : mM := ("NineBarsModel", ⟨"NineBarsModel", "readNested", "()V"⟩, prog_13_method_21_code, 2, none, [], 7)
theorem tb_co_Md_readNested : mTB (Cond.code ⟨"NineBarsModel", "readNested", "()V"⟩ prog_13_method_21_code 2 (none)) := tbq7 180 (by decide +kernel) rfl
theorem mc_Md_readNested {M : mM} (hd : 7 < mDp M) : mCal M M_Md_readNested 0 := ⟨tb_co_Md_readNested, tb_in_NineBarsModel, ⟨by decide +kernel, by decide +kernel⟩, by decide +kernel, hd, by decide⟩
theorem d_Md_readNested_0 : decode prog_13_method_21_code 0 = .ok (.aload_n 0, 1) := by decide +kernel
theorem d_Md_readNested_1 : decode prog_13_method_21_code 1 = .ok (.getfield 101, 3) := by decide +kernel
theorem d_Md_readNested_4 : decode prog_13_method_21_code 4 = .ok (.iconst 2, 1) := by decide +kernel
theorem d_Md_readNested_5 : decode prog_13_method_21_code 5 = .ok (.if_icmp .ne 21, 3) := by decide +kernel
theorem d_Md_readNested_26 : decode prog_13_method_21_code 26 = .ok (.aload_n 0, 1) := by decide +kernel
theorem d_Md_readNested_27 : decode prog_13_method_21_code 27 = .ok (.iconst 2, 1) := by decide +kernel
theorem d_Md_readNested_28 : decode prog_13_method_21_code 28 = .ok (.bipush 9, 2) := by decide +kernel
theorem d_Md_readNested_30 : decode prog_13_method_21_code 30 = .ok (.invokevirtual 151, 3) := by decide +kernel
theorem d_Md_readNested_33 : decode prog_13_method_21_code 33 = .ok (.istore_n 1, 1) := by decide +kernel
theorem d_Md_readNested_34 : decode prog_13_method_21_code 34 = .ok (.aload_n 0, 1) := by decide +kernel
theorem d_Md_readNested_35 : decode prog_13_method_21_code 35 = .ok (.getfield 118, 3) := by decide +kernel
theorem d_Md_readNested_38 : decode prog_13_method_21_code 38 = .ok (.ifCond .ne 10, 3) := by decide +kernel
theorem d_Md_readNested_48 : decode prog_13_method_21_code 48 = .ok (.return_, 1) := by decide +kernel
theorem d_Md_readNested_41 : decode prog_13_method_21_code 41 = .ok (.aload_n 0, 1) := by decide +kernel
theorem d_Md_readNested_42 : decode prog_13_method_21_code 42 = .ok (.getfield 13, 3) := by decide +kernel
theorem d_Md_readNested_45 : decode prog_13_method_21_code 45 = .ok (.iconst 3, 1) := by decide +kernel
theorem d_Md_readNested_46 : decode prog_13_method_21_code 46 = .ok (.iload_n 1, 1) := by decide +kernel
theorem d_Md_readNested_47 : decode prog_13_method_21_code 47 = .ok (.iastore, 1) := by decide +kernel
theorem d_Md_readNested_8 : decode prog_13_method_21_code 8 = .ok (.aload_n 0, 1) := by decide +kernel
theorem d_Md_readNested_9 : decode prog_13_method_21_code 9 = .ok (.getfield 115, 3) := by decide +kernel
theorem d_Md_readNested_12 : decode prog_13_method_21_code 12 = .ok (.aload_n 0, 1) := by decide +kernel
theorem d_Md_readNested_13 : decode prog_13_method_21_code 13 = .ok (.getfield 13, 3) := by decide +kernel
theorem d_Md_readNested_16 : decode prog_13_method_21_code 16 = .ok (.iconst 1, 1) := by decide +kernel
theorem d_Md_readNested_17 : decode prog_13_method_21_code 17 = .ok (.iaload, 1) := by decide +kernel
theorem d_Md_readNested_18 : decode prog_13_method_21_code 18 = .ok (.if_icmp .le 8, 3) := by decide +kernel
theorem d_Md_readNested_21 : decode prog_13_method_21_code 21 = .ok (.aload_n 0, 1) := by decide +kernel
theorem d_Md_readNested_22 : decode prog_13_method_21_code 22 = .ok (.iconst 3, 1) := by decide +kernel
theorem d_Md_readNested_23 : decode prog_13_method_21_code 23 = .ok (.invokevirtual 143, 3) := by decide +kernel
theorem t_Md_readNested_J26 {G : mG} {r : mR} {v0 : Int} {h : mH}  (hr : f_Md_readNested_J26 v0 h = some r) : mJ G M_Md_readNested 26 [(2, v0), (9, 0)] [] h r := by
  unfold f_Md_readNested_J26 at hr
  refine j_aload_n (pc := 26) d_Md_readNested_26 rfl ?_
  refine j_iconst (pc := 27) d_Md_readNested_27 ?_
  refine j_bipush (pc := 28) d_Md_readNested_28 ?_
  obtain ⟨ha, hr⟩ := chk_some hr
  refine j_callG (pc := 30) (stk := [(0, 9), (0, 2), (2, v0)]) (as := [(2, v0), (0, 2), (0, 9)]) (P := (fun v9 => ((0 : Nat), v9) :: [])) (tg := 0) (My := M_Md_number) (mRunV (as := [(0, 2), (0, 9)]) (st := []) d_Md_readNested_30 (mc_Md_number (by decide)) rfl (mv_Md_number tb_ml_Md_151) rfl (Nat.le_of_ble_eq_true rfl) ha) (fun v => rfl) rfl hr (fun r1 h1 => t_Md_number _ _ _ _ _ h1) (fun x2 h1 hr => ?_)
  refine j_istore_n (pc := 33) (ls' := [(2, v0), (0, x2)]) d_Md_readNested_33 rfl ?_
  refine j_aload_n (pc := 34) d_Md_readNested_34 rfl ?_
  refine j_getf (pc := 35) d_Md_readNested_35 (fd_Md_118 rfl) hr (fun hr => ?_)
  refine j_if_ne (pc := 38) (tgt := 48) d_Md_readNested_38 hr (fun hr => ?_) (fun hr => ?_)
  · exact j_vret (pc := 48) d_Md_readNested_48 rfl hr
  · refine j_aload_n (pc := 41) d_Md_readNested_41 rfl ?_
    refine j_getf (pc := 42) d_Md_readNested_42 (fd_Md_13 rfl) hr (fun hr => ?_)
    refine j_iconst (pc := 45) d_Md_readNested_45 ?_
    refine j_iload_n (pc := 46) d_Md_readNested_46 rfl ?_
    refine j_iastore (pc := 47) d_Md_readNested_47 hr (fun h3 hr => ?_)
    exact j_vret (pc := 48) d_Md_readNested_48 rfl hr
theorem t_Md_readNested {G : mG} (h : mH) (v0 : Int) (r : mR) (hr : f_Md_readNested h v0 = some r) : mJM G M_Md_readNested [(2, v0)] h r := by
  refine mJM_of (L := [(2, v0), (9, 0)]) rfl rfl rfl (Nat.le_of_ble_eq_true rfl) ?_
  unfold f_Md_readNested at hr
  refine j_aload_n (pc := 0) d_Md_readNested_0 rfl ?_
  refine j_getf (pc := 1) d_Md_readNested_1 (fd_Md_101 rfl) hr (fun hr => ?_)
  refine j_iconst (pc := 4) d_Md_readNested_4 ?_
  refine j_icmp_ne (pc := 5) (tgt := 26) d_Md_readNested_5 hr (fun hr => ?_) (fun hr => ?_)
  · exact mJ_weak (ls' := [(2, v0), (9, 0)]) (mwk_s (mwk_s mwk_n)) (t_Md_readNested_J26  hr)
  · refine j_aload_n (pc := 8) d_Md_readNested_8 rfl ?_
    refine j_getf (pc := 9) d_Md_readNested_9 (fd_Md_115 rfl) hr (fun hr => ?_)
    refine j_aload_n (pc := 12) d_Md_readNested_12 rfl ?_
    refine j_getf (pc := 13) d_Md_readNested_13 (fd_Md_13 rfl) hr (fun hr => ?_)
    refine j_iconst (pc := 16) d_Md_readNested_16 ?_
    refine j_iaload (pc := 17) d_Md_readNested_17 hr (fun hr => ?_)
    refine j_icmp_le (pc := 18) (tgt := 26) d_Md_readNested_18 hr (fun hr => ?_) (fun hr => ?_)
    · exact mJ_weak (ls' := [(2, v0), (9, 0)]) (mwk_s (mwk_s mwk_n)) (t_Md_readNested_J26  hr)
    · refine j_aload_n (pc := 21) d_Md_readNested_21 rfl ?_
      refine j_iconst (pc := 22) d_Md_readNested_22 ?_
      obtain ⟨ha, hr⟩ := chk_some hr
      refine j_callG (pc := 23) (stk := [(0, 3), (2, v0)]) (as := [(2, v0), (0, 3)]) (P := (fun v9 => [])) (tg := 3) (My := M_Md_blames) (mRunV (as := [(0, 3)]) (st := []) d_Md_readNested_23 (mc_Md_blames (by decide)) rfl (mv_Md_blames tb_ml_Md_143) rfl (Nat.le_of_ble_eq_true rfl) ha) (fun v => rfl) rfl hr (fun r1 h1 => t_Md_blames _ _ _ _ h1) (fun x2 h1 hr => ?_)
      exact mJ_weak (ls' := [(2, v0), (9, 0)]) (mwk_s (mwk_s mwk_n)) (t_Md_readNested_J26  hr)
def M_Md_readLine : mM := ("NineBarsModel", ⟨"NineBarsModel", "readLine", "()V"⟩, prog_13_method_22_code, 1, none, [], 13)
theorem tb_co_Md_readLine : mTB (Cond.code ⟨"NineBarsModel", "readLine", "()V"⟩ prog_13_method_22_code 1 (none)) := tbq7 125 (by decide +kernel) rfl
theorem mc_Md_readLine {M : mM} (hd : 13 < mDp M) : mCal M M_Md_readLine 0 := ⟨tb_co_Md_readLine, tb_in_NineBarsModel, ⟨by decide +kernel, by decide +kernel⟩, by decide +kernel, hd, by decide⟩
theorem d_Md_readLine_0 : decode prog_13_method_22_code 0 = .ok (.aload_n 0, 1) := by decide +kernel
theorem d_Md_readLine_1 : decode prog_13_method_22_code 1 = .ok (.ldc 180, 2) := by decide +kernel
theorem d_Md_readLine_3 : decode prog_13_method_22_code 3 = .ok (.invokevirtual 133, 3) := by decide +kernel
theorem d_Md_readLine_6 : decode prog_13_method_22_code 6 = .ok (.ifCond .eq 10, 3) := by decide +kernel
theorem d_Md_readLine_16 : decode prog_13_method_22_code 16 = .ok (.aload_n 0, 1) := by decide +kernel
theorem d_Md_readLine_17 : decode prog_13_method_22_code 17 = .ok (.ldc 185, 2) := by decide +kernel
theorem d_Md_readLine_19 : decode prog_13_method_22_code 19 = .ok (.invokevirtual 133, 3) := by decide +kernel
theorem d_Md_readLine_22 : decode prog_13_method_22_code 22 = .ok (.ifCond .eq 10, 3) := by decide +kernel
theorem d_Md_readLine_32 : decode prog_13_method_22_code 32 = .ok (.aload_n 0, 1) := by decide +kernel
theorem d_Md_readLine_33 : decode prog_13_method_22_code 33 = .ok (.ldc 190, 2) := by decide +kernel
theorem d_Md_readLine_35 : decode prog_13_method_22_code 35 = .ok (.invokevirtual 140, 3) := by decide +kernel
theorem d_Md_readLine_38 : decode prog_13_method_22_code 38 = .ok (.ifCond .eq 10, 3) := by decide +kernel
theorem d_Md_readLine_48 : decode prog_13_method_22_code 48 = .ok (.aload_n 0, 1) := by decide +kernel
theorem d_Md_readLine_49 : decode prog_13_method_22_code 49 = .ok (.ldc 195, 2) := by decide +kernel
theorem d_Md_readLine_51 : decode prog_13_method_22_code 51 = .ok (.invokevirtual 140, 3) := by decide +kernel
theorem d_Md_readLine_54 : decode prog_13_method_22_code 54 = .ok (.ifCond .eq 19, 3) := by decide +kernel
theorem d_Md_readLine_73 : decode prog_13_method_22_code 73 = .ok (.aload_n 0, 1) := by decide +kernel
theorem d_Md_readLine_74 : decode prog_13_method_22_code 74 = .ok (.iconst 2, 1) := by decide +kernel
theorem d_Md_readLine_75 : decode prog_13_method_22_code 75 = .ok (.invokevirtual 143, 3) := by decide +kernel
theorem d_Md_readLine_78 : decode prog_13_method_22_code 78 = .ok (.aload_n 0, 1) := by decide +kernel
theorem d_Md_readLine_79 : decode prog_13_method_22_code 79 = .ok (.getfield 101, 3) := by decide +kernel
theorem d_Md_readLine_82 : decode prog_13_method_22_code 82 = .ok (.iconst 3, 1) := by decide +kernel
theorem d_Md_readLine_83 : decode prog_13_method_22_code 83 = .ok (.if_icmp .eq 8, 3) := by decide +kernel
theorem d_Md_readLine_91 : decode prog_13_method_22_code 91 = .ok (.aload_n 0, 1) := by decide +kernel
theorem d_Md_readLine_92 : decode prog_13_method_22_code 92 = .ok (.getfield 118, 3) := by decide +kernel
theorem d_Md_readLine_95 : decode prog_13_method_22_code 95 = .ok (.ifCond .ne 7, 3) := by decide +kernel
theorem d_Md_readLine_102 : decode prog_13_method_22_code 102 = .ok (.aload_n 0, 1) := by decide +kernel
theorem d_Md_readLine_103 : decode prog_13_method_22_code 103 = .ok (.getfield 118, 3) := by decide +kernel
theorem d_Md_readLine_106 : decode prog_13_method_22_code 106 = .ok (.ifCond .ne 13, 3) := by decide +kernel
theorem d_Md_readLine_119 : decode prog_13_method_22_code 119 = .ok (.return_, 1) := by decide +kernel
theorem d_Md_readLine_109 : decode prog_13_method_22_code 109 = .ok (.aload_n 0, 1) := by decide +kernel
theorem d_Md_readLine_110 : decode prog_13_method_22_code 110 = .ok (.getfield 13, 3) := by decide +kernel
theorem d_Md_readLine_113 : decode prog_13_method_22_code 113 = .ok (.iconst 0, 1) := by decide +kernel
theorem d_Md_readLine_114 : decode prog_13_method_22_code 114 = .ok (.dup2, 1) := by decide +kernel
theorem d_Md_readLine_115 : decode prog_13_method_22_code 115 = .ok (.iaload, 1) := by decide +kernel
theorem d_Md_readLine_116 : decode prog_13_method_22_code 116 = .ok (.iconst 1, 1) := by decide +kernel
theorem d_Md_readLine_117 : decode prog_13_method_22_code 117 = .ok (.iadd, 1) := by decide +kernel
theorem d_Md_readLine_118 : decode prog_13_method_22_code 118 = .ok (.iastore, 1) := by decide +kernel
theorem d_Md_readLine_98 : decode prog_13_method_22_code 98 = .ok (.aload_n 0, 1) := by decide +kernel
theorem d_Md_readLine_99 : decode prog_13_method_22_code 99 = .ok (.invokevirtual 137, 3) := by decide +kernel
theorem d_Md_readLine_86 : decode prog_13_method_22_code 86 = .ok (.aload_n 0, 1) := by decide +kernel
theorem d_Md_readLine_87 : decode prog_13_method_22_code 87 = .ok (.iconst 2, 1) := by decide +kernel
theorem d_Md_readLine_88 : decode prog_13_method_22_code 88 = .ok (.invokevirtual 143, 3) := by decide +kernel
theorem d_Md_readLine_57 : decode prog_13_method_22_code 57 = .ok (.aload_n 0, 1) := by decide +kernel
theorem d_Md_readLine_58 : decode prog_13_method_22_code 58 = .ok (.getfield 13, 3) := by decide +kernel
theorem d_Md_readLine_61 : decode prog_13_method_22_code 61 = .ok (.iconst 4, 1) := by decide +kernel
theorem d_Md_readLine_62 : decode prog_13_method_22_code 62 = .ok (.aload_n 0, 1) := by decide +kernel
theorem d_Md_readLine_63 : decode prog_13_method_22_code 63 = .ok (.iconst 0, 1) := by decide +kernel
theorem d_Md_readLine_64 : decode prog_13_method_22_code 64 = .ok (.bipush 99, 2) := by decide +kernel
theorem d_Md_readLine_66 : decode prog_13_method_22_code 66 = .ok (.invokevirtual 151, 3) := by decide +kernel
theorem d_Md_readLine_69 : decode prog_13_method_22_code 69 = .ok (.iastore, 1) := by decide +kernel
theorem d_Md_readLine_70 : decode prog_13_method_22_code 70 = .ok (.goto 8, 3) := by decide +kernel
theorem d_Md_readLine_41 : decode prog_13_method_22_code 41 = .ok (.aload_n 0, 1) := by decide +kernel
theorem d_Md_readLine_42 : decode prog_13_method_22_code 42 = .ok (.invokevirtual 192, 3) := by decide +kernel
theorem tb_ml_Md_192 : mTB (Cond.methodLink "NineBarsModel" 192 ⟨"NineBarsModel", "readNested", "()V"⟩) := tbq7 177 (by decide +kernel) rfl
theorem tb_im_Md_readNested : mTB (Cond.instanceMethod ⟨"NineBarsModel", "readNested", "()V"⟩) := tbq7 179 (by decide +kernel) rfl
theorem tb_se_Md_readNested : mTB (Cond.selects "NineBarsModel" ⟨"NineBarsModel", "readNested", "()V"⟩ ⟨"NineBarsModel", "readNested", "()V"⟩) := tbqp 59 (by decide +kernel) rfl
theorem mv_Md_readNested {M : mM} {idx : Nat} (h : mTB (Cond.methodLink (mO M) idx ⟨"NineBarsModel", "readNested", "()V"⟩)) : mCaV M M_Md_readNested idx 11 := ⟨h, tb_im_Md_readNested, tb_se_Md_readNested, by decide, TX11, 40, rfl⟩
theorem d_Md_readLine_45 : decode prog_13_method_22_code 45 = .ok (.goto 33, 3) := by decide +kernel
theorem d_Md_readLine_25 : decode prog_13_method_22_code 25 = .ok (.aload_n 0, 1) := by decide +kernel
theorem d_Md_readLine_26 : decode prog_13_method_22_code 26 = .ok (.invokevirtual 187, 3) := by decide +kernel
theorem tb_ml_Md_187 : mTB (Cond.methodLink "NineBarsModel" 187 ⟨"NineBarsModel", "readRule", "()V"⟩) := tbq7 152 (by decide +kernel) rfl
theorem tb_im_Md_readRule : mTB (Cond.instanceMethod ⟨"NineBarsModel", "readRule", "()V"⟩) := tbq7 154 (by decide +kernel) rfl
theorem tb_se_Md_readRule : mTB (Cond.selects "NineBarsModel" ⟨"NineBarsModel", "readRule", "()V"⟩ ⟨"NineBarsModel", "readRule", "()V"⟩) := tbqp 54 (by decide +kernel) rfl
theorem mv_Md_readRule {M : mM} {idx : Nat} (h : mTB (Cond.methodLink (mO M) idx ⟨"NineBarsModel", "readRule", "()V"⟩)) : mCaV M M_Md_readRule idx 11 := ⟨h, tb_im_Md_readRule, tb_se_Md_readRule, by decide, TX11, 40, rfl⟩
theorem d_Md_readLine_29 : decode prog_13_method_22_code 29 = .ok (.goto 49, 3) := by decide +kernel
theorem d_Md_readLine_9 : decode prog_13_method_22_code 9 = .ok (.aload_n 0, 1) := by decide +kernel
theorem d_Md_readLine_10 : decode prog_13_method_22_code 10 = .ok (.invokevirtual 182, 3) := by decide +kernel
theorem tb_ml_Md_182 : mTB (Cond.methodLink "NineBarsModel" 182 ⟨"NineBarsModel", "readBar", "()V"⟩) := tbq7 133 (by decide +kernel) rfl
theorem tb_im_Md_readBar : mTB (Cond.instanceMethod ⟨"NineBarsModel", "readBar", "()V"⟩) := tbq7 135 (by decide +kernel) rfl
theorem tb_se_Md_readBar : mTB (Cond.selects "NineBarsModel" ⟨"NineBarsModel", "readBar", "()V"⟩ ⟨"NineBarsModel", "readBar", "()V"⟩) := tbqp 50 (by decide +kernel) rfl
theorem mv_Md_readBar {M : mM} {idx : Nat} (h : mTB (Cond.methodLink (mO M) idx ⟨"NineBarsModel", "readBar", "()V"⟩)) : mCaV M M_Md_readBar idx 11 := ⟨h, tb_im_Md_readBar, tb_se_Md_readBar, by decide, TX11, 40, rfl⟩
theorem d_Md_readLine_13 : decode prog_13_method_22_code 13 = .ok (.goto 65, 3) := by decide +kernel
theorem t_Md_readLine_J102 {G : mG} {r : mR} {v0 : Int} {h : mH}  (hr : f_Md_readLine_J102 v0 h = some r) : mJ G M_Md_readLine 102 [(2, v0)] [] h r := by
  unfold f_Md_readLine_J102 at hr
  refine j_aload_n (pc := 102) d_Md_readLine_102 rfl ?_
  refine j_getf (pc := 103) d_Md_readLine_103 (fd_Md_118 rfl) hr (fun hr => ?_)
  refine j_if_ne (pc := 106) (tgt := 119) d_Md_readLine_106 hr (fun hr => ?_) (fun hr => ?_)
  · exact j_vret (pc := 119) d_Md_readLine_119 rfl hr
  · refine j_aload_n (pc := 109) d_Md_readLine_109 rfl ?_
    refine j_getf (pc := 110) d_Md_readLine_110 (fd_Md_13 rfl) hr (fun hr => ?_)
    refine j_iconst (pc := 113) d_Md_readLine_113 ?_
    refine j_dup2 (pc := 114) d_Md_readLine_114 ?_
    refine j_iaload (pc := 115) d_Md_readLine_115 hr (fun hr => ?_)
    refine j_iconst (pc := 116) d_Md_readLine_116 ?_
    refine j_iadd (pc := 117) d_Md_readLine_117 ?_
    refine j_iastore (pc := 118) d_Md_readLine_118 hr (fun h1 hr => ?_)
    exact j_vret (pc := 119) d_Md_readLine_119 rfl hr
theorem t_Md_readLine_J91 {G : mG} {r : mR} {v0 : Int} {h : mH}  (hr : f_Md_readLine_J91 v0 h = some r) : mJ G M_Md_readLine 91 [(2, v0)] [] h r := by
  unfold f_Md_readLine_J91 at hr
  refine j_aload_n (pc := 91) d_Md_readLine_91 rfl ?_
  refine j_getf (pc := 92) d_Md_readLine_92 (fd_Md_118 rfl) hr (fun hr => ?_)
  refine j_if_ne (pc := 95) (tgt := 102) d_Md_readLine_95 hr (fun hr => ?_) (fun hr => ?_)
  · exact mJ_weak (ls' := [(2, v0)]) (mwk_s mwk_n) (t_Md_readLine_J102  hr)
  · refine j_aload_n (pc := 98) d_Md_readLine_98 rfl ?_
    obtain ⟨ha, hr⟩ := chk_some hr
    refine j_callG (pc := 99) (stk := [(2, v0)]) (as := [(2, v0)]) (P := (fun v9 => [])) (tg := 3) (My := M_Md_reads) (mRunV (as := []) (st := []) d_Md_readLine_99 (mc_Md_reads (by decide)) rfl (mv_Md_reads tb_ml_Md_137) rfl (Nat.le_of_ble_eq_true rfl) ha) (fun v => rfl) rfl hr (fun r1 h1 => t_Md_reads _ _ _ h1) (fun x2 h1 hr => ?_)
    exact mJ_weak (ls' := [(2, v0)]) (mwk_s mwk_n) (t_Md_readLine_J102  hr)
theorem t_Md_readLine_J78 {G : mG} {r : mR} {v0 : Int} {h : mH}  (hr : f_Md_readLine_J78 v0 h = some r) : mJ G M_Md_readLine 78 [(2, v0)] [] h r := by
  unfold f_Md_readLine_J78 at hr
  refine j_aload_n (pc := 78) d_Md_readLine_78 rfl ?_
  refine j_getf (pc := 79) d_Md_readLine_79 (fd_Md_101 rfl) hr (fun hr => ?_)
  refine j_iconst (pc := 82) d_Md_readLine_82 ?_
  refine j_icmp_eq (pc := 83) (tgt := 91) d_Md_readLine_83 hr (fun hr => ?_) (fun hr => ?_)
  · exact mJ_weak (ls' := [(2, v0)]) (mwk_s mwk_n) (t_Md_readLine_J91  hr)
  · refine j_aload_n (pc := 86) d_Md_readLine_86 rfl ?_
    refine j_iconst (pc := 87) d_Md_readLine_87 ?_
    obtain ⟨ha, hr⟩ := chk_some hr
    refine j_callG (pc := 88) (stk := [(0, 2), (2, v0)]) (as := [(2, v0), (0, 2)]) (P := (fun v9 => [])) (tg := 3) (My := M_Md_blames) (mRunV (as := [(0, 2)]) (st := []) d_Md_readLine_88 (mc_Md_blames (by decide)) rfl (mv_Md_blames tb_ml_Md_143) rfl (Nat.le_of_ble_eq_true rfl) ha) (fun v => rfl) rfl hr (fun r1 h1 => t_Md_blames _ _ _ _ h1) (fun x2 h1 hr => ?_)
    exact mJ_weak (ls' := [(2, v0)]) (mwk_s mwk_n) (t_Md_readLine_J91  hr)
theorem t_Md_readLine {G : mG} (h : mH) (v0 : Int) (r : mR) (hr : f_Md_readLine h v0 = some r) : mJM G M_Md_readLine [(2, v0)] h r := by
  refine mJM_of (L := [(2, v0)]) rfl rfl rfl (Nat.le_of_ble_eq_true rfl) ?_
  unfold f_Md_readLine at hr
  refine j_aload_n (pc := 0) d_Md_readLine_0 rfl ?_
  refine j_ldcS (pc := 1) (tx := "bar") (k := 0) d_Md_readLine_1 (by decide +kernel) ?_
  obtain ⟨ha, hr⟩ := chk_some hr
  refine j_callG (pc := 3) (stk := [(2, (-(((0 : Nat) : Int) + 2))), (2, v0)]) (as := [(2, v0), (2, (-(((0 : Nat) : Int) + 2)))]) (P := (fun v9 => ((0 : Nat), v9) :: [])) (tg := 0) (My := M_Md_isWord) (mRunV (as := [(2, (-(((0 : Nat) : Int) + 2)))]) (st := []) d_Md_readLine_3 (mc_Md_isWord (by decide)) rfl (mv_Md_isWord tb_ml_Md_133) rfl (Nat.le_of_ble_eq_true rfl) ha) (fun v => rfl) rfl hr (fun r1 h1 => t_Md_isWord _ _ _ _ h1) (fun x2 h1 hr => ?_)
  refine j_if_eq (pc := 6) (tgt := 16) d_Md_readLine_6 hr (fun hr => ?_) (fun hr => ?_)
  · refine j_aload_n (pc := 16) d_Md_readLine_16 rfl ?_
    refine j_ldcS (pc := 17) (tx := "rule") (k := 1) d_Md_readLine_17 (by decide +kernel) ?_
    obtain ⟨ha, hr⟩ := chk_some hr
    refine j_callG (pc := 19) (stk := [(2, (-(((1 : Nat) : Int) + 2))), (2, v0)]) (as := [(2, v0), (2, (-(((1 : Nat) : Int) + 2)))]) (P := (fun v9 => ((0 : Nat), v9) :: [])) (tg := 0) (My := M_Md_isWord) (mRunV (as := [(2, (-(((1 : Nat) : Int) + 2)))]) (st := []) d_Md_readLine_19 (mc_Md_isWord (by decide)) rfl (mv_Md_isWord tb_ml_Md_133) rfl (Nat.le_of_ble_eq_true rfl) ha) (fun v => rfl) rfl hr (fun r1 h1 => t_Md_isWord _ _ _ _ h1) (fun x4 h3 hr => ?_)
    refine j_if_eq (pc := 22) (tgt := 32) d_Md_readLine_22 hr (fun hr => ?_) (fun hr => ?_)
    · refine j_aload_n (pc := 32) d_Md_readLine_32 rfl ?_
      refine j_ldcS (pc := 33) (tx := "nested") (k := 2) d_Md_readLine_33 (by decide +kernel) ?_
      obtain ⟨ha, hr⟩ := chk_some hr
      refine j_callG (pc := 35) (stk := [(2, (-(((2 : Nat) : Int) + 2))), (2, v0)]) (as := [(2, v0), (2, (-(((2 : Nat) : Int) + 2)))]) (P := (fun v9 => ((0 : Nat), v9) :: [])) (tg := 0) (My := M_Md_took) (mRunV (as := [(2, (-(((2 : Nat) : Int) + 2)))]) (st := []) d_Md_readLine_35 (mc_Md_took (by decide)) rfl (mv_Md_took tb_ml_Md_140) rfl (Nat.le_of_ble_eq_true rfl) ha) (fun v => rfl) rfl hr (fun r1 h1 => t_Md_took _ _ _ _ h1) (fun x6 h5 hr => ?_)
      refine j_if_eq (pc := 38) (tgt := 48) d_Md_readLine_38 hr (fun hr => ?_) (fun hr => ?_)
      · refine j_aload_n (pc := 48) d_Md_readLine_48 rfl ?_
        refine j_ldcS (pc := 49) (tx := "wear") (k := 3) d_Md_readLine_49 (by decide +kernel) ?_
        obtain ⟨ha, hr⟩ := chk_some hr
        refine j_callG (pc := 51) (stk := [(2, (-(((3 : Nat) : Int) + 2))), (2, v0)]) (as := [(2, v0), (2, (-(((3 : Nat) : Int) + 2)))]) (P := (fun v9 => ((0 : Nat), v9) :: [])) (tg := 0) (My := M_Md_took) (mRunV (as := [(2, (-(((3 : Nat) : Int) + 2)))]) (st := []) d_Md_readLine_51 (mc_Md_took (by decide)) rfl (mv_Md_took tb_ml_Md_140) rfl (Nat.le_of_ble_eq_true rfl) ha) (fun v => rfl) rfl hr (fun r1 h1 => t_Md_took _ _ _ _ h1) (fun x8 h7 hr => ?_)
        refine j_if_eq (pc := 54) (tgt := 73) d_Md_readLine_54 hr (fun hr => ?_) (fun hr => ?_)
        · refine j_aload_n (pc := 73) d_Md_readLine_73 rfl ?_
          refine j_iconst (pc := 74) d_Md_readLine_74 ?_
          obtain ⟨ha, hr⟩ := chk_some hr
          refine j_callG (pc := 75) (stk := [(0, 2), (2, v0)]) (as := [(2, v0), (0, 2)]) (P := (fun v9 => [])) (tg := 3) (My := M_Md_blames) (mRunV (as := [(0, 2)]) (st := []) d_Md_readLine_75 (mc_Md_blames (by decide)) rfl (mv_Md_blames tb_ml_Md_143) rfl (Nat.le_of_ble_eq_true rfl) ha) (fun v => rfl) rfl hr (fun r1 h1 => t_Md_blames _ _ _ _ h1) (fun x10 h9 hr => ?_)
          exact mJ_weak (ls' := [(2, v0)]) (mwk_s mwk_n) (t_Md_readLine_J78  hr)
        · refine j_aload_n (pc := 57) d_Md_readLine_57 rfl ?_
          refine j_getf (pc := 58) d_Md_readLine_58 (fd_Md_13 rfl) hr (fun hr => ?_)
          refine j_iconst (pc := 61) d_Md_readLine_61 ?_
          refine j_aload_n (pc := 62) d_Md_readLine_62 rfl ?_
          refine j_iconst (pc := 63) d_Md_readLine_63 ?_
          refine j_bipush (pc := 64) d_Md_readLine_64 ?_
          obtain ⟨ha, hr⟩ := chk_some hr
          refine j_callG (pc := 66) (stk := [(0, 99), (0, 0), (2, v0), (0, 4), (2, hpV h7 v0 1)]) (as := [(2, v0), (0, 0), (0, 99)]) (P := (fun v9 => ((0 : Nat), v9) :: [(0, 4), (2, hpV h7 v0 1)])) (tg := 0) (My := M_Md_number) (mRunV (as := [(0, 0), (0, 99)]) (st := [(0, 4), (2, hpV h7 v0 1)]) d_Md_readLine_66 (mc_Md_number (by decide)) rfl (mv_Md_number tb_ml_Md_151) rfl (Nat.le_of_ble_eq_true rfl) ha) (fun v => rfl) rfl hr (fun r1 h1 => t_Md_number _ _ _ _ _ h1) (fun x12 h11 hr => ?_)
          refine j_iastore (pc := 69) d_Md_readLine_69 hr (fun h13 hr => ?_)
          refine j_goto (pc := 70) (tgt := 78) d_Md_readLine_70 ?_
          exact mJ_weak (ls' := [(2, v0)]) (mwk_s mwk_n) (t_Md_readLine_J78  hr)
      · refine j_aload_n (pc := 41) d_Md_readLine_41 rfl ?_
        obtain ⟨ha, hr⟩ := chk_some hr
        refine j_callG (pc := 42) (stk := [(2, v0)]) (as := [(2, v0)]) (P := (fun v9 => [])) (tg := 3) (My := M_Md_readNested) (mRunV (as := []) (st := []) d_Md_readLine_42 (mc_Md_readNested (by decide)) rfl (mv_Md_readNested tb_ml_Md_192) rfl (Nat.le_of_ble_eq_true rfl) ha) (fun v => rfl) rfl hr (fun r1 h1 => t_Md_readNested _ _ _ h1) (fun x15 h14 hr => ?_)
        refine j_goto (pc := 45) (tgt := 78) d_Md_readLine_45 ?_
        exact mJ_weak (ls' := [(2, v0)]) (mwk_s mwk_n) (t_Md_readLine_J78  hr)
    · refine j_aload_n (pc := 25) d_Md_readLine_25 rfl ?_
      obtain ⟨ha, hr⟩ := chk_some hr
      refine j_callG (pc := 26) (stk := [(2, v0)]) (as := [(2, v0)]) (P := (fun v9 => [])) (tg := 3) (My := M_Md_readRule) (mRunV (as := []) (st := []) d_Md_readLine_26 (mc_Md_readRule (by decide)) rfl (mv_Md_readRule tb_ml_Md_187) rfl (Nat.le_of_ble_eq_true rfl) ha) (fun v => rfl) rfl hr (fun r1 h1 => t_Md_readRule _ _ _ h1) (fun x17 h16 hr => ?_)
      refine j_goto (pc := 29) (tgt := 78) d_Md_readLine_29 ?_
      exact mJ_weak (ls' := [(2, v0)]) (mwk_s mwk_n) (t_Md_readLine_J78  hr)
  · refine j_aload_n (pc := 9) d_Md_readLine_9 rfl ?_
    obtain ⟨ha, hr⟩ := chk_some hr
    refine j_callG (pc := 10) (stk := [(2, v0)]) (as := [(2, v0)]) (P := (fun v9 => [])) (tg := 3) (My := M_Md_readBar) (mRunV (as := []) (st := []) d_Md_readLine_10 (mc_Md_readBar (by decide)) rfl (mv_Md_readBar tb_ml_Md_182) rfl (Nat.le_of_ble_eq_true rfl) ha) (fun v => rfl) rfl hr (fun r1 h1 => t_Md_readBar _ _ _ h1) (fun x19 h18 hr => ?_)
    refine j_goto (pc := 13) (tgt := 78) d_Md_readLine_13 ?_
    exact mJ_weak (ls' := [(2, v0)]) (mwk_s mwk_n) (t_Md_readLine_J78  hr)
def M_Md_box : mM := ("NineBarsModel", ⟨"NineBarsModel", "box", "(I)I"⟩, prog_13_method_23_code, 3, some .int, [], 15)
theorem tb_co_Md_box : mTB (Cond.code ⟨"NineBarsModel", "box", "(I)I"⟩ prog_13_method_23_code 3 (some .int)) := tbq7 100 (by decide +kernel) rfl
theorem mc_Md_box {M : mM} (hd : 15 < mDp M) : mCal M M_Md_box 1 := ⟨tb_co_Md_box, tb_in_NineBarsModel, ⟨by decide +kernel, by decide +kernel⟩, by decide +kernel, hd, by decide⟩
theorem d_Md_box_0 : decode prog_13_method_23_code 0 = .ok (.aload_n 0, 1) := by decide +kernel
theorem d_Md_box_1 : decode prog_13_method_23_code 1 = .ok (.iconst 0, 1) := by decide +kernel
theorem d_Md_box_2 : decode prog_13_method_23_code 2 = .ok (.putfield 86, 3) := by decide +kernel
theorem d_Md_box_5 : decode prog_13_method_23_code 5 = .ok (.iload_n 1, 1) := by decide +kernel
theorem d_Md_box_6 : decode prog_13_method_23_code 6 = .ok (.i2l, 1) := by decide +kernel
theorem d_Md_box_7 : decode prog_13_method_23_code 7 = .ok (.lconst 0, 1) := by decide +kernel
theorem d_Md_box_8 : decode prog_13_method_23_code 8 = .ok (.aload_n 0, 1) := by decide +kernel
theorem d_Md_box_9 : decode prog_13_method_23_code 9 = .ok (.getfield 89, 3) := by decide +kernel
theorem d_Md_box_12 : decode prog_13_method_23_code 12 = .ok (.i2l, 1) := by decide +kernel
theorem d_Md_box_13 : decode prog_13_method_23_code 13 = .ok (.invokestatic 147, 3) := by decide +kernel
theorem d_Md_box_16 : decode prog_13_method_23_code 16 = .ok (.ifCond .ne 9, 3) := by decide +kernel
theorem d_Md_box_25 : decode prog_13_method_23_code 25 = .ok (.aload_n 0, 1) := by decide +kernel
theorem d_Md_box_26 : decode prog_13_method_23_code 26 = .ok (.iload_n 1, 1) := by decide +kernel
theorem d_Md_box_27 : decode prog_13_method_23_code 27 = .ok (.putfield 92, 3) := by decide +kernel
theorem d_Md_box_30 : decode prog_13_method_23_code 30 = .ok (.aload_n 0, 1) := by decide +kernel
theorem d_Md_box_31 : decode prog_13_method_23_code 31 = .ok (.iconst 0, 1) := by decide +kernel
theorem d_Md_box_32 : decode prog_13_method_23_code 32 = .ok (.putfield 89, 3) := by decide +kernel
theorem d_Md_box_35 : decode prog_13_method_23_code 35 = .ok (.aload_n 0, 1) := by decide +kernel
theorem d_Md_box_36 : decode prog_13_method_23_code 36 = .ok (.iconst 0, 1) := by decide +kernel
theorem d_Md_box_37 : decode prog_13_method_23_code 37 = .ok (.putfield 95, 3) := by decide +kernel
theorem d_Md_box_40 : decode prog_13_method_23_code 40 = .ok (.aload_n 0, 1) := by decide +kernel
theorem d_Md_box_41 : decode prog_13_method_23_code 41 = .ok (.iconst 0, 1) := by decide +kernel
theorem d_Md_box_42 : decode prog_13_method_23_code 42 = .ok (.putfield 118, 3) := by decide +kernel
theorem d_Md_box_45 : decode prog_13_method_23_code 45 = .ok (.iconst 0, 1) := by decide +kernel
theorem d_Md_box_46 : decode prog_13_method_23_code 46 = .ok (.istore_n 2, 1) := by decide +kernel
theorem d_Md_box_47 : decode prog_13_method_23_code 47 = .ok (.iload_n 2, 1) := by decide +kernel
theorem d_Md_box_48 : decode prog_13_method_23_code 48 = .ok (.sipush 434, 3) := by decide +kernel
theorem d_Md_box_51 : decode prog_13_method_23_code 51 = .ok (.if_icmp .ge 16, 3) := by decide +kernel
theorem d_Md_box_54 : decode prog_13_method_23_code 54 = .ok (.aload_n 0, 1) := by decide +kernel
theorem d_Md_box_55 : decode prog_13_method_23_code 55 = .ok (.getfield 13, 3) := by decide +kernel
theorem d_Md_box_58 : decode prog_13_method_23_code 58 = .ok (.iload_n 2, 1) := by decide +kernel
theorem d_Md_box_59 : decode prog_13_method_23_code 59 = .ok (.iconst 0, 1) := by decide +kernel
theorem d_Md_box_60 : decode prog_13_method_23_code 60 = .ok (.iastore, 1) := by decide +kernel
theorem d_Md_box_61 : decode prog_13_method_23_code 61 = .ok (.iinc 2 1, 3) := by decide +kernel
theorem d_Md_box_64 : decode prog_13_method_23_code 64 = .ok (.goto (-17), 3) := by decide +kernel
theorem d_Md_box_67 : decode prog_13_method_23_code 67 = .ok (.aload_n 0, 1) := by decide +kernel
theorem d_Md_box_68 : decode prog_13_method_23_code 68 = .ok (.invokevirtual 137, 3) := by decide +kernel
theorem d_Md_box_71 : decode prog_13_method_23_code 71 = .ok (.aload_n 0, 1) := by decide +kernel
theorem d_Md_box_72 : decode prog_13_method_23_code 72 = .ok (.getfield 118, 3) := by decide +kernel
theorem d_Md_box_75 : decode prog_13_method_23_code 75 = .ok (.ifCond .ne 17, 3) := by decide +kernel
theorem d_Md_box_78 : decode prog_13_method_23_code 78 = .ok (.aload_n 0, 1) := by decide +kernel
theorem d_Md_box_79 : decode prog_13_method_23_code 79 = .ok (.getfield 101, 3) := by decide +kernel
theorem d_Md_box_82 : decode prog_13_method_23_code 82 = .ok (.ifCond .eq 10, 3) := by decide +kernel
theorem d_Md_box_85 : decode prog_13_method_23_code 85 = .ok (.aload_n 0, 1) := by decide +kernel
theorem d_Md_box_86 : decode prog_13_method_23_code 86 = .ok (.invokevirtual 200, 3) := by decide +kernel
theorem tb_ml_Md_200 : mTB (Cond.methodLink "NineBarsModel" 200 ⟨"NineBarsModel", "readLine", "()V"⟩) := tbq7 122 (by decide +kernel) rfl
theorem tb_im_Md_readLine : mTB (Cond.instanceMethod ⟨"NineBarsModel", "readLine", "()V"⟩) := tbq7 124 (by decide +kernel) rfl
theorem tb_se_Md_readLine : mTB (Cond.selects "NineBarsModel" ⟨"NineBarsModel", "readLine", "()V"⟩ ⟨"NineBarsModel", "readLine", "()V"⟩) := tbqp 48 (by decide +kernel) rfl
theorem mv_Md_readLine {M : mM} {idx : Nat} (h : mTB (Cond.methodLink (mO M) idx ⟨"NineBarsModel", "readLine", "()V"⟩)) : mCaV M M_Md_readLine idx 11 := ⟨h, tb_im_Md_readLine, tb_se_Md_readLine, by decide, TX11, 40, rfl⟩
theorem d_Md_box_89 : decode prog_13_method_23_code 89 = .ok (.goto (-18), 3) := by decide +kernel
theorem d_Md_box_92 : decode prog_13_method_23_code 92 = .ok (.aload_n 0, 1) := by decide +kernel
theorem d_Md_box_93 : decode prog_13_method_23_code 93 = .ok (.aload_n 0, 1) := by decide +kernel
theorem d_Md_box_94 : decode prog_13_method_23_code 94 = .ok (.getfield 118, 3) := by decide +kernel
theorem tb_fl_Md_203 : mTB (Cond.fieldLink "NineBarsModel" 203 "NineBarsModel" "faultKind" "I") := tbq6 222 (by decide +kernel) rfl
theorem fd_Md_203 {M : mM} (h : mO M = "NineBarsModel") : mFld M 203 11 15 0 := ⟨_, _, _, tyX11, rfl, by decide, by decide, rfl, uw_11, tyX11_ok, nmX11, by rw [h]; exact Or.inl tb_fl_Md_203⟩
theorem d_Md_box_97 : decode prog_13_method_23_code 97 = .ok (.putfield 203, 3) := by decide +kernel
theorem d_Md_box_100 : decode prog_13_method_23_code 100 = .ok (.aload_n 0, 1) := by decide +kernel
theorem d_Md_box_101 : decode prog_13_method_23_code 101 = .ok (.aload_n 0, 1) := by decide +kernel
theorem d_Md_box_102 : decode prog_13_method_23_code 102 = .ok (.getfield 118, 3) := by decide +kernel
theorem d_Md_box_105 : decode prog_13_method_23_code 105 = .ok (.ifCond .ne 7, 3) := by decide +kernel
theorem d_Md_box_112 : decode prog_13_method_23_code 112 = .ok (.aload_n 0, 1) := by decide +kernel
theorem d_Md_box_113 : decode prog_13_method_23_code 113 = .ok (.getfield 121, 3) := by decide +kernel
theorem d_Md_box_116 : decode prog_13_method_23_code 116 = .ok (.putfield 29, 3) := by decide +kernel
theorem d_Md_box_119 : decode prog_13_method_23_code 119 = .ok (.aload_n 0, 1) := by decide +kernel
theorem d_Md_box_120 : decode prog_13_method_23_code 120 = .ok (.getfield 118, 3) := by decide +kernel
theorem d_Md_box_123 : decode prog_13_method_23_code 123 = .ok (.ifCond .eq 11, 3) := by decide +kernel
theorem d_Md_box_134 : decode prog_13_method_23_code 134 = .ok (.aload_n 0, 1) := by decide +kernel
theorem d_Md_box_135 : decode prog_13_method_23_code 135 = .ok (.getfield 13, 3) := by decide +kernel
theorem d_Md_box_138 : decode prog_13_method_23_code 138 = .ok (.aload_n 0, 1) := by decide +kernel
theorem d_Md_box_139 : decode prog_13_method_23_code 139 = .ok (.getfield 9, 3) := by decide +kernel
theorem d_Md_box_142 : decode prog_13_method_23_code 142 = .ok (.invokestatic 206, 3) := by decide +kernel
theorem tb_ml_Md_206 : mTB (Cond.methodLink "NineBarsModel" 206 ⟨"NineBarsModel", "copies", "([I[I)V"⟩) := tbq7 182 (by decide +kernel) rfl
theorem tb_sm_Md_copies : mTB (Cond.static ⟨"NineBarsModel", "copies", "([I[I)V"⟩) := tbq7 183 (by decide +kernel) rfl
theorem d_Md_box_145 : decode prog_13_method_23_code 145 = .ok (.aload_n 0, 1) := by decide +kernel
theorem d_Md_box_146 : decode prog_13_method_23_code 146 = .ok (.getfield 9, 3) := by decide +kernel
theorem d_Md_box_149 : decode prog_13_method_23_code 149 = .ok (.iconst 0, 1) := by decide +kernel
theorem d_Md_box_150 : decode prog_13_method_23_code 150 = .ok (.iaload, 1) := by decide +kernel
theorem d_Md_box_151 : decode prog_13_method_23_code 151 = .ok (.ireturn, 1) := by decide +kernel
theorem d_Md_box_126 : decode prog_13_method_23_code 126 = .ok (.bipush (-10), 2) := by decide +kernel
theorem d_Md_box_128 : decode prog_13_method_23_code 128 = .ok (.aload_n 0, 1) := by decide +kernel
theorem d_Md_box_129 : decode prog_13_method_23_code 129 = .ok (.getfield 118, 3) := by decide +kernel
theorem d_Md_box_132 : decode prog_13_method_23_code 132 = .ok (.isub, 1) := by decide +kernel
theorem d_Md_box_133 : decode prog_13_method_23_code 133 = .ok (.ireturn, 1) := by decide +kernel
theorem d_Md_box_108 : decode prog_13_method_23_code 108 = .ok (.iconst (-1), 1) := by decide +kernel
theorem d_Md_box_109 : decode prog_13_method_23_code 109 = .ok (.goto 7, 3) := by decide +kernel
theorem d_Md_box_19 : decode prog_13_method_23_code 19 = .ok (.aload_n 0, 1) := by decide +kernel
theorem d_Md_box_20 : decode prog_13_method_23_code 20 = .ok (.iconst 1, 1) := by decide +kernel
theorem d_Md_box_21 : decode prog_13_method_23_code 21 = .ok (.invokevirtual 197, 3) := by decide +kernel
theorem tb_ml_Md_197 : mTB (Cond.methodLink "NineBarsModel" 197 ⟨"NineBarsModel", "fails", "(I)I"⟩) := tbq7 104 (by decide +kernel) rfl
theorem tb_im_Md_fails : mTB (Cond.instanceMethod ⟨"NineBarsModel", "fails", "(I)I"⟩) := tbq7 106 (by decide +kernel) rfl
theorem tb_se_Md_fails : mTB (Cond.selects "NineBarsModel" ⟨"NineBarsModel", "fails", "(I)I"⟩ ⟨"NineBarsModel", "fails", "(I)I"⟩) := tbqp 45 (by decide +kernel) rfl
theorem mv_Md_fails {M : mM} {idx : Nat} (h : mTB (Cond.methodLink (mO M) idx ⟨"NineBarsModel", "fails", "(I)I"⟩)) : mCaV M M_Md_fails idx 11 := ⟨h, tb_im_Md_fails, tb_se_Md_fails, by decide, TX11, 40, rfl⟩
theorem d_Md_box_24 : decode prog_13_method_23_code 24 = .ok (.ireturn, 1) := by decide +kernel
theorem t_Md_box_L47 {G : mG} {r : mR} {v0 : Int} {K67 : mH → Option mR} (hK67 : ∀ (h : mH) , K67 h  = some r → mJ G M_Md_box 67 [(2, v0), (9, 0), (9, 0)] [] h r) : ∀ (n : Nat) (h : mH) (v2 : Int), f_Md_box_L47 K67 v0 n h v2 = some r → mJ G M_Md_box 47 [(2, v0), (9, 0), (0, v2)] [] h r := by
  intro n
  induction n with
  | zero =>
    intro h v2 hr
    rw [f_Md_box_L47] at hr
    cases hr
  | succ n hR47 =>
    intro h v2 hr
    rw [f_Md_box_L47] at hr
    refine j_iload_n (pc := 47) d_Md_box_47 rfl ?_
    refine j_sipush (pc := 48) d_Md_box_48 ?_
    refine j_icmp_ge (pc := 51) (tgt := 67) d_Md_box_51 hr (fun hr => ?_) (fun hr => ?_)
    · exact mJ_weak (ls' := [(2, v0), (9, 0), (9, 0)]) (mwk_s (mwk_s (mwk_d mwk_n))) (hK67 h  hr)
    · refine j_aload_n (pc := 54) d_Md_box_54 rfl ?_
      refine j_getf (pc := 55) d_Md_box_55 (fd_Md_13 rfl) hr (fun hr => ?_)
      refine j_iload_n (pc := 58) d_Md_box_58 rfl ?_
      refine j_iconst (pc := 59) d_Md_box_59 ?_
      refine j_iastore (pc := 60) d_Md_box_60 hr (fun h1 hr => ?_)
      refine j_iincW (pc := 61) (L := fun x2 => [(2, v0), (9, 0), (0, x2)]) d_Md_box_61 rfl (fun _ => rfl) hr (fun x2 hr => ?_)
      refine j_goto (pc := 64) (tgt := 47) d_Md_box_64 ?_
      exact mJ_weak (ls' := [(2, v0), (9, 0), (0, x2)]) (mwk_s (mwk_s (mwk_s mwk_n))) (hR47 h1 _ hr)
theorem t_Md_box_L71 {G : mG} {r : mR} {v0 : Int} {K92 : mH → Option mR} (hK92 : ∀ (h : mH) , K92 h  = some r → mJ G M_Md_box 92 [(2, v0), (9, 0), (9, 0)] [] h r) : ∀ (n : Nat) (h : mH) , f_Md_box_L71 K92 v0 n h  = some r → mJ G M_Md_box 71 [(2, v0), (9, 0), (9, 0)] [] h r := by
  intro n
  induction n with
  | zero =>
    intro h  hr
    rw [f_Md_box_L71] at hr
    cases hr
  | succ n hR71 =>
    intro h  hr
    rw [f_Md_box_L71] at hr
    refine j_aload_n (pc := 71) d_Md_box_71 rfl ?_
    refine j_getf (pc := 72) d_Md_box_72 (fd_Md_118 rfl) hr (fun hr => ?_)
    refine j_if_ne (pc := 75) (tgt := 92) d_Md_box_75 hr (fun hr => ?_) (fun hr => ?_)
    · exact mJ_weak (ls' := [(2, v0), (9, 0), (9, 0)]) (mwk_s (mwk_s (mwk_s mwk_n))) (hK92 h  hr)
    · refine j_aload_n (pc := 78) d_Md_box_78 rfl ?_
      refine j_getf (pc := 79) d_Md_box_79 (fd_Md_101 rfl) hr (fun hr => ?_)
      refine j_if_eq (pc := 82) (tgt := 92) d_Md_box_82 hr (fun hr => ?_) (fun hr => ?_)
      · exact mJ_weak (ls' := [(2, v0), (9, 0), (9, 0)]) (mwk_s (mwk_s (mwk_s mwk_n))) (hK92 h  hr)
      · refine j_aload_n (pc := 85) d_Md_box_85 rfl ?_
        obtain ⟨ha, hr⟩ := chk_some hr
        refine j_callG (pc := 86) (stk := [(2, v0)]) (as := [(2, v0)]) (P := (fun v9 => [])) (tg := 3) (My := M_Md_readLine) (mRunV (as := []) (st := []) d_Md_box_86 (mc_Md_readLine (by decide)) rfl (mv_Md_readLine tb_ml_Md_200) rfl (Nat.le_of_ble_eq_true rfl) ha) (fun v => rfl) rfl hr (fun r1 h1 => t_Md_readLine _ _ _ h1) (fun x2 h1 hr => ?_)
        refine j_goto (pc := 89) (tgt := 71) d_Md_box_89 ?_
        exact mJ_weak (ls' := [(2, v0), (9, 0), (9, 0)]) (mwk_s (mwk_s (mwk_s mwk_n))) (hR71 h1  hr)
theorem t_Md_box_J116 {G : mG} {r : mR} {v0 s0 s1 : Int} {h : mH}  (hr : f_Md_box_J116 v0 s0 s1 h = some r) : mJ G M_Md_box 116 [(2, v0), (9, 0), (9, 0)] [(0, s1), (2, s0)] h r := by
  unfold f_Md_box_J116 at hr
  refine j_puti (pc := 116) d_Md_box_116 (fd_Md_29 rfl) (⟨_, _, _, rfl, Or.inl rfl, rfl⟩ : mFldW M_Md_box 29 11 16 .int) hr (fun h1 hr => ?_)
  refine j_aload_n (pc := 119) d_Md_box_119 rfl ?_
  refine j_getf (pc := 120) d_Md_box_120 (fd_Md_118 rfl) hr (fun hr => ?_)
  refine j_if_eq (pc := 123) (tgt := 134) d_Md_box_123 hr (fun hr => ?_) (fun hr => ?_)
  · refine j_aload_n (pc := 134) d_Md_box_134 rfl ?_
    refine j_getf (pc := 135) d_Md_box_135 (fd_Md_13 rfl) hr (fun hr => ?_)
    refine j_aload_n (pc := 138) d_Md_box_138 rfl ?_
    refine j_getf (pc := 139) d_Md_box_139 (fd_Md_9 rfl) hr (fun hr => ?_)
    refine j_callG (pc := 142) (stk := [(2, hpV h1 v0 0), (2, hpV h1 v0 1)]) (as := [(2, hpV h1 v0 1), (2, hpV h1 v0 0)]) (P := (fun v9 => [])) (tg := 3) (My := M_Md_copies) (mRunS (as := [(2, hpV h1 v0 1), (2, hpV h1 v0 0)]) (st := []) d_Md_box_142 (mc_Md_copies (by decide)) rfl ⟨tb_ml_Md_206, tb_sm_Md_copies⟩ rfl (Nat.le_of_ble_eq_true rfl)) (fun v => rfl) rfl hr (fun r1 h1 => t_Md_copies _ _ _ _ h1) (fun x3 h2 hr => ?_)
    refine j_aload_n (pc := 145) d_Md_box_145 rfl ?_
    refine j_getf (pc := 146) d_Md_box_146 (fd_Md_9 rfl) hr (fun hr => ?_)
    refine j_iconst (pc := 149) d_Md_box_149 ?_
    refine j_iaload (pc := 150) d_Md_box_150 hr (fun hr => ?_)
    exact j_iret (pc := 151) d_Md_box_151 rfl hr
  · refine j_bipush (pc := 126) d_Md_box_126 ?_
    refine j_aload_n (pc := 128) d_Md_box_128 rfl ?_
    refine j_getf (pc := 129) d_Md_box_129 (fd_Md_118 rfl) hr (fun hr => ?_)
    refine j_isub (pc := 132) d_Md_box_132 ?_
    exact j_iret (pc := 133) d_Md_box_133 rfl hr
theorem t_Md_box_J92 {G : mG} {r : mR} {v0 : Int} {h : mH}  (hr : f_Md_box_J92 v0 h = some r) : mJ G M_Md_box 92 [(2, v0), (9, 0), (9, 0)] [] h r := by
  unfold f_Md_box_J92 at hr
  refine j_aload_n (pc := 92) d_Md_box_92 rfl ?_
  refine j_aload_n (pc := 93) d_Md_box_93 rfl ?_
  refine j_getf (pc := 94) d_Md_box_94 (fd_Md_118 rfl) hr (fun hr => ?_)
  refine j_puti (pc := 97) d_Md_box_97 (fd_Md_203 rfl) (⟨_, _, _, rfl, Or.inl rfl, rfl⟩ : mFldW M_Md_box 203 11 15 .int) hr (fun h1 hr => ?_)
  refine j_aload_n (pc := 100) d_Md_box_100 rfl ?_
  refine j_aload_n (pc := 101) d_Md_box_101 rfl ?_
  refine j_getf (pc := 102) d_Md_box_102 (fd_Md_118 rfl) hr (fun hr => ?_)
  refine j_if_ne (pc := 105) (tgt := 112) d_Md_box_105 hr (fun hr => ?_) (fun hr => ?_)
  · refine j_aload_n (pc := 112) d_Md_box_112 rfl ?_
    refine j_getf (pc := 113) d_Md_box_113 (fd_Md_121 rfl) hr (fun hr => ?_)
    exact mJ_weak (ls' := [(2, v0), (9, 0), (9, 0)]) (mwk_s (mwk_s (mwk_s mwk_n))) (t_Md_box_J116  hr)
  · refine j_iconst (pc := 108) d_Md_box_108 ?_
    refine j_goto (pc := 109) (tgt := 116) d_Md_box_109 ?_
    exact mJ_weak (ls' := [(2, v0), (9, 0), (9, 0)]) (mwk_s (mwk_s (mwk_s mwk_n))) (t_Md_box_J116  hr)
theorem t_Md_box {G : mG} (h : mH) (v0 v1 : Int) (r : mR) (hr : f_Md_box h v0 v1 = some r) : mJM G M_Md_box [(2, v0), (0, v1)] h r := by
  refine mJM_of (L := [(2, v0), (0, v1), (9, 0)]) rfl rfl rfl (Nat.le_of_ble_eq_true rfl) ?_
  unfold f_Md_box at hr
  refine j_aload_n (pc := 0) d_Md_box_0 rfl ?_
  refine j_iconst (pc := 1) d_Md_box_1 ?_
  refine j_puti (pc := 2) d_Md_box_2 (fd_Md_86 rfl) (⟨_, _, _, rfl, Or.inl rfl, rfl⟩ : mFldW M_Md_box 86 11 5 .int) hr (fun h1 hr => ?_)
  refine j_iload_n (pc := 5) d_Md_box_5 rfl ?_
  refine j_i2l (pc := 6) d_Md_box_6 ?_
  refine j_lconst (pc := 7) (z := 0) d_Md_box_7 ?_
  refine j_aload_n (pc := 8) d_Md_box_8 rfl ?_
  refine j_getf (pc := 9) d_Md_box_9 (fd_Md_89 rfl) hr (fun hr => ?_)
  refine j_i2l (pc := 12) d_Md_box_12 ?_
  refine j_callG (pc := 13) (stk := [(1, hpV h1 v0 7), (1, 0), (1, v1)]) (as := [(1, v1), (1, 0), (1, hpV h1 v0 7)]) (P := (fun v9 => ((0 : Nat), v9) :: [])) (tg := 0) (My := M_Md_amid) (mRunS (as := [(1, v1), (1, 0), (1, hpV h1 v0 7)]) (st := []) d_Md_box_13 (mc_Md_amid (by decide)) rfl ⟨tb_ml_Md_147, tb_sm_Md_amid⟩ rfl (Nat.le_of_ble_eq_true rfl)) (fun v => rfl) rfl hr (fun r1 h1 => t_Md_amid _ _ _ _ _ h1) (fun x3 h2 hr => ?_)
  refine j_if_ne (pc := 16) (tgt := 25) d_Md_box_16 hr (fun hr => ?_) (fun hr => ?_)
  · refine j_aload_n (pc := 25) d_Md_box_25 rfl ?_
    refine j_iload_n (pc := 26) d_Md_box_26 rfl ?_
    refine j_puti (pc := 27) d_Md_box_27 (fd_Md_92 rfl) (⟨_, _, _, rfl, Or.inl rfl, rfl⟩ : mFldW M_Md_box 92 11 8 .int) hr (fun h4 hr => ?_)
    refine j_aload_n (pc := 30) d_Md_box_30 rfl ?_
    refine j_iconst (pc := 31) d_Md_box_31 ?_
    refine j_puti (pc := 32) d_Md_box_32 (fd_Md_89 rfl) (⟨_, _, _, rfl, Or.inl rfl, rfl⟩ : mFldW M_Md_box 89 11 7 .int) hr (fun h5 hr => ?_)
    refine j_aload_n (pc := 35) d_Md_box_35 rfl ?_
    refine j_iconst (pc := 36) d_Md_box_36 ?_
    refine j_puti (pc := 37) d_Md_box_37 (fd_Md_95 rfl) (⟨_, _, _, rfl, Or.inl rfl, rfl⟩ : mFldW M_Md_box 95 11 9 .int) hr (fun h6 hr => ?_)
    refine j_aload_n (pc := 40) d_Md_box_40 rfl ?_
    refine j_iconst (pc := 41) d_Md_box_41 ?_
    refine j_puti (pc := 42) d_Md_box_42 (fd_Md_118 rfl) (⟨_, _, _, rfl, Or.inl rfl, rfl⟩ : mFldW M_Md_box 118 11 13 .int) hr (fun h7 hr => ?_)
    refine j_iconst (pc := 45) d_Md_box_45 ?_
    refine j_istore_n (pc := 46) (ls' := [(2, v0), (0, v1), (0, 0)]) d_Md_box_46 rfl ?_
    refine mJ_weak (ls' := [(2, v0), (9, 0), (0, 0)]) (mwk_s (mwk_d (mwk_s mwk_n))) (t_Md_box_L47 (fun h8  hr => ?_) _ _ _ hr)
    · refine j_aload_n (pc := 67) d_Md_box_67 rfl ?_
      obtain ⟨ha, hr⟩ := chk_some hr
      refine j_callG (pc := 68) (stk := [(2, v0)]) (as := [(2, v0)]) (P := (fun v9 => [])) (tg := 3) (My := M_Md_reads) (mRunV (as := []) (st := []) d_Md_box_68 (mc_Md_reads (by decide)) rfl (mv_Md_reads tb_ml_Md_137) rfl (Nat.le_of_ble_eq_true rfl) ha) (fun v => rfl) rfl hr (fun r1 h1 => t_Md_reads _ _ _ h1) (fun x10 h9 hr => ?_)
      refine mJ_weak (ls' := [(2, v0), (9, 0), (9, 0)]) (mwk_s (mwk_s (mwk_s mwk_n))) (t_Md_box_L71 (fun h11  hr => ?_) _ _  hr)
      · exact mJ_weak (ls' := [(2, v0), (9, 0), (9, 0)]) (mwk_s (mwk_s (mwk_s mwk_n))) (t_Md_box_J92  hr)
  · refine j_aload_n (pc := 19) d_Md_box_19 rfl ?_
    refine j_iconst (pc := 20) d_Md_box_20 ?_
    obtain ⟨ha, hr⟩ := chk_some hr
    refine j_callG (pc := 21) (stk := [(0, 1), (2, v0)]) (as := [(2, v0), (0, 1)]) (P := (fun v9 => ((0 : Nat), v9) :: [])) (tg := 0) (My := M_Md_fails) (mRunV (as := [(0, 1)]) (st := []) d_Md_box_21 (mc_Md_fails (by decide)) rfl (mv_Md_fails tb_ml_Md_197) rfl (Nat.le_of_ble_eq_true rfl) ha) (fun v => rfl) rfl hr (fun r1 h1 => t_Md_fails _ _ _ _ h1) (fun x13 h12 hr => ?_)
    exact j_iret (pc := 24) d_Md_box_24 rfl hr
def M_Md_fault : mM := ("NineBarsModel", ⟨"NineBarsModel", "fault", "(I)I"⟩, prog_13_method_24_code, 2, some .int, [], 1)
theorem tb_co_Md_fault : mTB (Cond.code ⟨"NineBarsModel", "fault", "(I)I"⟩ prog_13_method_24_code 2 (some .int)) := tbq7 188 (by decide +kernel) rfl
theorem mc_Md_fault {M : mM} (hd : 1 < mDp M) : mCal M M_Md_fault 1 := ⟨tb_co_Md_fault, tb_in_NineBarsModel, ⟨by decide +kernel, by decide +kernel⟩, by decide +kernel, hd, by decide⟩
theorem d_Md_fault_0 : decode prog_13_method_24_code 0 = .ok (.aload_n 0, 1) := by decide +kernel
theorem d_Md_fault_1 : decode prog_13_method_24_code 1 = .ok (.iconst 0, 1) := by decide +kernel
theorem d_Md_fault_2 : decode prog_13_method_24_code 2 = .ok (.putfield 86, 3) := by decide +kernel
theorem d_Md_fault_5 : decode prog_13_method_24_code 5 = .ok (.iload_n 1, 1) := by decide +kernel
theorem d_Md_fault_6 : decode prog_13_method_24_code 6 = .ok (.ifCond .ne 10, 3) := by decide +kernel
theorem d_Md_fault_16 : decode prog_13_method_24_code 16 = .ok (.iload_n 1, 1) := by decide +kernel
theorem d_Md_fault_17 : decode prog_13_method_24_code 17 = .ok (.iconst 1, 1) := by decide +kernel
theorem d_Md_fault_18 : decode prog_13_method_24_code 18 = .ok (.if_icmp .ne 10, 3) := by decide +kernel
theorem d_Md_fault_28 : decode prog_13_method_24_code 28 = .ok (.iconst (-1), 1) := by decide +kernel
theorem d_Md_fault_29 : decode prog_13_method_24_code 29 = .ok (.ireturn, 1) := by decide +kernel
theorem d_Md_fault_21 : decode prog_13_method_24_code 21 = .ok (.aload_n 0, 1) := by decide +kernel
theorem d_Md_fault_22 : decode prog_13_method_24_code 22 = .ok (.getfield 29, 3) := by decide +kernel
theorem d_Md_fault_25 : decode prog_13_method_24_code 25 = .ok (.goto 4, 3) := by decide +kernel
theorem d_Md_fault_9 : decode prog_13_method_24_code 9 = .ok (.aload_n 0, 1) := by decide +kernel
theorem d_Md_fault_10 : decode prog_13_method_24_code 10 = .ok (.getfield 203, 3) := by decide +kernel
theorem d_Md_fault_13 : decode prog_13_method_24_code 13 = .ok (.goto 16, 3) := by decide +kernel
theorem t_Md_fault {G : mG} (h : mH) (v0 v1 : Int) (r : mR) (hr : f_Md_fault h v0 v1 = some r) : mJM G M_Md_fault [(2, v0), (0, v1)] h r := by
  refine mJM_of (L := [(2, v0), (0, v1)]) rfl rfl rfl (Nat.le_of_ble_eq_true rfl) ?_
  unfold f_Md_fault at hr
  refine j_aload_n (pc := 0) d_Md_fault_0 rfl ?_
  refine j_iconst (pc := 1) d_Md_fault_1 ?_
  refine j_puti (pc := 2) d_Md_fault_2 (fd_Md_86 rfl) (⟨_, _, _, rfl, Or.inl rfl, rfl⟩ : mFldW M_Md_fault 86 11 5 .int) hr (fun h1 hr => ?_)
  refine j_iload_n (pc := 5) d_Md_fault_5 rfl ?_
  refine j_if_ne (pc := 6) (tgt := 16) d_Md_fault_6 hr (fun hr => ?_) (fun hr => ?_)
  · refine j_iload_n (pc := 16) d_Md_fault_16 rfl ?_
    refine j_iconst (pc := 17) d_Md_fault_17 ?_
    refine j_icmp_ne (pc := 18) (tgt := 28) d_Md_fault_18 hr (fun hr => ?_) (fun hr => ?_)
    · refine j_iconst (pc := 28) d_Md_fault_28 ?_
      exact j_iret (pc := 29) d_Md_fault_29 rfl hr
    · refine j_aload_n (pc := 21) d_Md_fault_21 rfl ?_
      refine j_getf (pc := 22) d_Md_fault_22 (fd_Md_29 rfl) hr (fun hr => ?_)
      refine j_goto (pc := 25) (tgt := 29) d_Md_fault_25 ?_
      exact j_iret (pc := 29) d_Md_fault_29 rfl hr
  · refine j_aload_n (pc := 9) d_Md_fault_9 rfl ?_
    refine j_getf (pc := 10) d_Md_fault_10 (fd_Md_203 rfl) hr (fun hr => ?_)
    refine j_goto (pc := 13) (tgt := 29) d_Md_fault_13 ?_
    exact j_iret (pc := 29) d_Md_fault_29 rfl hr
def M_Md_bars : mM := ("NineBarsModel", ⟨"NineBarsModel", "bars", "()I"⟩, prog_13_method_25_code, 1, some .int, [], 1)
theorem tb_co_Md_bars : mTB (Cond.code ⟨"NineBarsModel", "bars", "()I"⟩ prog_13_method_25_code 1 (some .int)) := tbq7 200 (by decide +kernel) rfl
theorem mc_Md_bars {M : mM} (hd : 1 < mDp M) : mCal M M_Md_bars 0 := ⟨tb_co_Md_bars, tb_in_NineBarsModel, ⟨by decide +kernel, by decide +kernel⟩, by decide +kernel, hd, by decide⟩
theorem d_Md_bars_0 : decode prog_13_method_25_code 0 = .ok (.aload_n 0, 1) := by decide +kernel
theorem d_Md_bars_1 : decode prog_13_method_25_code 1 = .ok (.getfield 9, 3) := by decide +kernel
theorem d_Md_bars_4 : decode prog_13_method_25_code 4 = .ok (.iconst 1, 1) := by decide +kernel
theorem d_Md_bars_5 : decode prog_13_method_25_code 5 = .ok (.iaload, 1) := by decide +kernel
theorem d_Md_bars_6 : decode prog_13_method_25_code 6 = .ok (.ireturn, 1) := by decide +kernel
theorem t_Md_bars {G : mG} (h : mH) (v0 : Int) (r : mR) (hr : f_Md_bars h v0 = some r) : mJM G M_Md_bars [(2, v0)] h r := by
  refine mJM_of (L := [(2, v0)]) rfl rfl rfl (Nat.le_of_ble_eq_true rfl) ?_
  unfold f_Md_bars at hr
  refine j_aload_n (pc := 0) d_Md_bars_0 rfl ?_
  refine j_getf (pc := 1) d_Md_bars_1 (fd_Md_9 rfl) hr (fun hr => ?_)
  refine j_iconst (pc := 4) d_Md_bars_4 ?_
  refine j_iaload (pc := 5) d_Md_bars_5 hr (fun hr => ?_)
  exact j_iret (pc := 6) d_Md_bars_6 rfl hr
def M_Md_isBar : mM := ("NineBarsModel", ⟨"NineBarsModel", "isBar", "(J)Z"⟩, prog_13_method_26_code, 3, some .boolean, [], 3)
theorem tb_co_Md_isBar : mTB (Cond.code ⟨"NineBarsModel", "isBar", "(J)Z"⟩ prog_13_method_26_code 3 (some .boolean)) := tbq7 196 (by decide +kernel) rfl
theorem mc_Md_isBar {M : mM} (hd : 3 < mDp M) : mCal M M_Md_isBar 1 := ⟨tb_co_Md_isBar, tb_in_NineBarsModel, ⟨by decide +kernel, by decide +kernel⟩, by decide +kernel, hd, by decide⟩
theorem d_Md_isBar_0 : decode prog_13_method_26_code 0 = .ok (.lload_n 1, 1) := by decide +kernel
theorem d_Md_isBar_1 : decode prog_13_method_26_code 1 = .ok (.lconst 0, 1) := by decide +kernel
theorem d_Md_isBar_2 : decode prog_13_method_26_code 2 = .ok (.aload_n 0, 1) := by decide +kernel
theorem d_Md_isBar_3 : decode prog_13_method_26_code 3 = .ok (.invokevirtual 210, 3) := by decide +kernel
theorem tb_ml_Md_210 : mTB (Cond.methodLink "NineBarsModel" 210 ⟨"NineBarsModel", "bars", "()I"⟩) := tbq7 197 (by decide +kernel) rfl
theorem tb_im_Md_bars : mTB (Cond.instanceMethod ⟨"NineBarsModel", "bars", "()I"⟩) := tbq7 199 (by decide +kernel) rfl
theorem tb_se_Md_bars : mTB (Cond.selects "NineBarsModel" ⟨"NineBarsModel", "bars", "()I"⟩ ⟨"NineBarsModel", "bars", "()I"⟩) := tbqp 61 (by decide +kernel) rfl
theorem mv_Md_bars {M : mM} {idx : Nat} (h : mTB (Cond.methodLink (mO M) idx ⟨"NineBarsModel", "bars", "()I"⟩)) : mCaV M M_Md_bars idx 11 := ⟨h, tb_im_Md_bars, tb_se_Md_bars, by decide, TX11, 40, rfl⟩
theorem d_Md_isBar_6 : decode prog_13_method_26_code 6 = .ok (.iconst 1, 1) := by decide +kernel
theorem d_Md_isBar_7 : decode prog_13_method_26_code 7 = .ok (.isub, 1) := by decide +kernel
theorem d_Md_isBar_8 : decode prog_13_method_26_code 8 = .ok (.i2l, 1) := by decide +kernel
theorem d_Md_isBar_9 : decode prog_13_method_26_code 9 = .ok (.invokestatic 147, 3) := by decide +kernel
theorem d_Md_isBar_12 : decode prog_13_method_26_code 12 = .ok (.ireturn, 1) := by decide +kernel
theorem t_Md_isBar {G : mG} (h : mH) (v0 v1 : Int) (r : mR) (hr : f_Md_isBar h v0 v1 = some r) : mJM G M_Md_isBar [(2, v0), (1, v1)] h r := by
  refine mJM_of (L := [(2, v0), (1, v1), (9, 0)]) rfl rfl rfl (Nat.le_of_ble_eq_true rfl) ?_
  unfold f_Md_isBar at hr
  refine j_lload_n (pc := 0) d_Md_isBar_0 rfl ?_
  refine j_lconst (pc := 1) (z := 0) d_Md_isBar_1 ?_
  refine j_aload_n (pc := 2) d_Md_isBar_2 rfl ?_
  obtain ⟨ha, hr⟩ := chk_some hr
  refine j_callG (pc := 3) (stk := [(2, v0), (1, 0), (1, v1)]) (as := [(2, v0)]) (P := (fun v9 => ((0 : Nat), v9) :: [(1, 0), (1, v1)])) (tg := 0) (My := M_Md_bars) (mRunV (as := []) (st := [(1, 0), (1, v1)]) d_Md_isBar_3 (mc_Md_bars (by decide)) rfl (mv_Md_bars tb_ml_Md_210) rfl (Nat.le_of_ble_eq_true rfl) ha) (fun v => rfl) rfl hr (fun r1 h1 => t_Md_bars _ _ _ h1) (fun x2 h1 hr => ?_)
  refine j_iconst (pc := 6) d_Md_isBar_6 ?_
  refine j_isub (pc := 7) d_Md_isBar_7 ?_
  refine j_i2l (pc := 8) d_Md_isBar_8 ?_
  refine j_callG (pc := 9) (stk := [(1, w32 (x2 - 1)), (1, 0), (1, v1)]) (as := [(1, v1), (1, 0), (1, w32 (x2 - 1))]) (P := (fun v9 => ((0 : Nat), v9) :: [])) (tg := 0) (My := M_Md_amid) (mRunS (as := [(1, v1), (1, 0), (1, w32 (x2 - 1))]) (st := []) d_Md_isBar_9 (mc_Md_amid (by decide)) rfl ⟨tb_ml_Md_147, tb_sm_Md_amid⟩ rfl (Nat.le_of_ble_eq_true rfl)) (fun v => rfl) rfl hr (fun r1 h1 => t_Md_amid _ _ _ _ _ h1) (fun x4 h3 hr => ?_)
  exact j_zret (pc := 12) d_Md_isBar_12 rfl hr
def M_Md_of : mM := ("NineBarsModel", ⟨"NineBarsModel", "of", "(II)I"⟩, prog_13_method_27_code, 3, some .int, [], 1)
theorem tb_co_Md_of : mTB (Cond.code ⟨"NineBarsModel", "of", "(II)I"⟩ prog_13_method_27_code 3 (some .int)) := tbq7 205 (by decide +kernel) rfl
theorem mc_Md_of {M : mM} (hd : 1 < mDp M) : mCal M M_Md_of 2 := ⟨tb_co_Md_of, tb_in_NineBarsModel, ⟨by decide +kernel, by decide +kernel⟩, by decide +kernel, hd, by decide⟩
theorem d_Md_of_0 : decode prog_13_method_27_code 0 = .ok (.aload_n 0, 1) := by decide +kernel
theorem d_Md_of_1 : decode prog_13_method_27_code 1 = .ok (.getfield 9, 3) := by decide +kernel
theorem d_Md_of_4 : decode prog_13_method_27_code 4 = .ok (.iconst 5, 1) := by decide +kernel
theorem d_Md_of_5 : decode prog_13_method_27_code 5 = .ok (.iconst 4, 1) := by decide +kernel
theorem d_Md_of_6 : decode prog_13_method_27_code 6 = .ok (.iload_n 1, 1) := by decide +kernel
theorem d_Md_of_7 : decode prog_13_method_27_code 7 = .ok (.imul, 1) := by decide +kernel
theorem d_Md_of_8 : decode prog_13_method_27_code 8 = .ok (.iadd, 1) := by decide +kernel
theorem d_Md_of_9 : decode prog_13_method_27_code 9 = .ok (.iload_n 2, 1) := by decide +kernel
theorem d_Md_of_10 : decode prog_13_method_27_code 10 = .ok (.iadd, 1) := by decide +kernel
theorem d_Md_of_11 : decode prog_13_method_27_code 11 = .ok (.iaload, 1) := by decide +kernel
theorem d_Md_of_12 : decode prog_13_method_27_code 12 = .ok (.ireturn, 1) := by decide +kernel
theorem t_Md_of {G : mG} (h : mH) (v0 v1 v2 : Int) (r : mR) (hr : f_Md_of h v0 v1 v2 = some r) : mJM G M_Md_of [(2, v0), (0, v1), (0, v2)] h r := by
  refine mJM_of (L := [(2, v0), (0, v1), (0, v2)]) rfl rfl rfl (Nat.le_of_ble_eq_true rfl) ?_
  unfold f_Md_of at hr
  refine j_aload_n (pc := 0) d_Md_of_0 rfl ?_
  refine j_getf (pc := 1) d_Md_of_1 (fd_Md_9 rfl) hr (fun hr => ?_)
  refine j_iconst (pc := 4) d_Md_of_4 ?_
  refine j_iconst (pc := 5) d_Md_of_5 ?_
  refine j_iload_n (pc := 6) d_Md_of_6 rfl ?_
  refine j_imul (pc := 7) d_Md_of_7 ?_
  refine j_iadd (pc := 8) d_Md_of_8 ?_
  refine j_iload_n (pc := 9) d_Md_of_9 rfl ?_
  refine j_iadd (pc := 10) d_Md_of_10 ?_
  refine j_iaload (pc := 11) d_Md_of_11 hr (fun hr => ?_)
  exact j_iret (pc := 12) d_Md_of_12 rfl hr
def M_Md_isWorn : mM := ("NineBarsModel", ⟨"NineBarsModel", "isWorn", "(I)Z"⟩, prog_13_method_28_code, 2, some .boolean, [], 3)
theorem tb_co_Md_isWorn : mTB (Cond.code ⟨"NineBarsModel", "isWorn", "(I)Z"⟩ prog_13_method_28_code 2 (some .boolean)) := tbq7 209 (by decide +kernel) rfl
theorem mc_Md_isWorn {M : mM} (hd : 3 < mDp M) : mCal M M_Md_isWorn 1 := ⟨tb_co_Md_isWorn, tb_in_NineBarsModel, ⟨by decide +kernel, by decide +kernel⟩, by decide +kernel, hd, by decide⟩
theorem d_Md_isWorn_0 : decode prog_13_method_28_code 0 = .ok (.aload_n 0, 1) := by decide +kernel
theorem d_Md_isWorn_1 : decode prog_13_method_28_code 1 = .ok (.getfield 9, 3) := by decide +kernel
theorem d_Md_isWorn_4 : decode prog_13_method_28_code 4 = .ok (.iconst 4, 1) := by decide +kernel
theorem d_Md_isWorn_5 : decode prog_13_method_28_code 5 = .ok (.iaload, 1) := by decide +kernel
theorem d_Md_isWorn_6 : decode prog_13_method_28_code 6 = .ok (.ifCond .le 22, 3) := by decide +kernel
theorem d_Md_isWorn_28 : decode prog_13_method_28_code 28 = .ok (.iconst 0, 1) := by decide +kernel
theorem d_Md_isWorn_29 : decode prog_13_method_28_code 29 = .ok (.ireturn, 1) := by decide +kernel
theorem d_Md_isWorn_9 : decode prog_13_method_28_code 9 = .ok (.aload_n 0, 1) := by decide +kernel
theorem d_Md_isWorn_10 : decode prog_13_method_28_code 10 = .ok (.iload_n 1, 1) := by decide +kernel
theorem d_Md_isWorn_11 : decode prog_13_method_28_code 11 = .ok (.iconst 3, 1) := by decide +kernel
theorem d_Md_isWorn_12 : decode prog_13_method_28_code 12 = .ok (.invokevirtual 213, 3) := by decide +kernel
theorem tb_ml_Md_213 : mTB (Cond.methodLink "NineBarsModel" 213 ⟨"NineBarsModel", "of", "(II)I"⟩) := tbq7 202 (by decide +kernel) rfl
theorem tb_im_Md_of : mTB (Cond.instanceMethod ⟨"NineBarsModel", "of", "(II)I"⟩) := tbq7 204 (by decide +kernel) rfl
theorem tb_se_Md_of : mTB (Cond.selects "NineBarsModel" ⟨"NineBarsModel", "of", "(II)I"⟩ ⟨"NineBarsModel", "of", "(II)I"⟩) := tbqp 62 (by decide +kernel) rfl
theorem mv_Md_of {M : mM} {idx : Nat} (h : mTB (Cond.methodLink (mO M) idx ⟨"NineBarsModel", "of", "(II)I"⟩)) : mCaV M M_Md_of idx 11 := ⟨h, tb_im_Md_of, tb_se_Md_of, by decide, TX11, 40, rfl⟩
theorem d_Md_isWorn_15 : decode prog_13_method_28_code 15 = .ok (.aload_n 0, 1) := by decide +kernel
theorem d_Md_isWorn_16 : decode prog_13_method_28_code 16 = .ok (.getfield 9, 3) := by decide +kernel
theorem d_Md_isWorn_19 : decode prog_13_method_28_code 19 = .ok (.iconst 4, 1) := by decide +kernel
theorem d_Md_isWorn_20 : decode prog_13_method_28_code 20 = .ok (.iaload, 1) := by decide +kernel
theorem d_Md_isWorn_21 : decode prog_13_method_28_code 21 = .ok (.if_icmp .lt 7, 3) := by decide +kernel
theorem d_Md_isWorn_24 : decode prog_13_method_28_code 24 = .ok (.iconst 1, 1) := by decide +kernel
theorem d_Md_isWorn_25 : decode prog_13_method_28_code 25 = .ok (.goto 4, 3) := by decide +kernel
theorem t_Md_isWorn_J28 {G : mG} {r : mR} {h : mH}  (hr : f_Md_isWorn_J28 h = some r) : mJ G M_Md_isWorn 28 [(9, 0), (9, 0)] [] h r := by
  unfold f_Md_isWorn_J28 at hr
  refine j_iconst (pc := 28) d_Md_isWorn_28 ?_
  exact j_zret (pc := 29) d_Md_isWorn_29 rfl hr
theorem t_Md_isWorn {G : mG} (h : mH) (v0 v1 : Int) (r : mR) (hr : f_Md_isWorn h v0 v1 = some r) : mJM G M_Md_isWorn [(2, v0), (0, v1)] h r := by
  refine mJM_of (L := [(2, v0), (0, v1)]) rfl rfl rfl (Nat.le_of_ble_eq_true rfl) ?_
  unfold f_Md_isWorn at hr
  refine j_aload_n (pc := 0) d_Md_isWorn_0 rfl ?_
  refine j_getf (pc := 1) d_Md_isWorn_1 (fd_Md_9 rfl) hr (fun hr => ?_)
  refine j_iconst (pc := 4) d_Md_isWorn_4 ?_
  refine j_iaload (pc := 5) d_Md_isWorn_5 hr (fun hr => ?_)
  refine j_if_le (pc := 6) (tgt := 28) d_Md_isWorn_6 hr (fun hr => ?_) (fun hr => ?_)
  · exact mJ_weak (ls' := [(9, 0), (9, 0)]) (mwk_d (mwk_d mwk_n)) (t_Md_isWorn_J28  hr)
  · refine j_aload_n (pc := 9) d_Md_isWorn_9 rfl ?_
    refine j_iload_n (pc := 10) d_Md_isWorn_10 rfl ?_
    refine j_iconst (pc := 11) d_Md_isWorn_11 ?_
    obtain ⟨ha, hr⟩ := chk_some hr
    refine j_callG (pc := 12) (stk := [(0, 3), (0, v1), (2, v0)]) (as := [(2, v0), (0, v1), (0, 3)]) (P := (fun v9 => ((0 : Nat), v9) :: [])) (tg := 0) (My := M_Md_of) (mRunV (as := [(0, v1), (0, 3)]) (st := []) d_Md_isWorn_12 (mc_Md_of (by decide)) rfl (mv_Md_of tb_ml_Md_213) rfl (Nat.le_of_ble_eq_true rfl) ha) (fun v => rfl) rfl hr (fun r1 h1 => t_Md_of _ _ _ _ _ h1) (fun x2 h1 hr => ?_)
    refine j_aload_n (pc := 15) d_Md_isWorn_15 rfl ?_
    refine j_getf (pc := 16) d_Md_isWorn_16 (fd_Md_9 rfl) hr (fun hr => ?_)
    refine j_iconst (pc := 19) d_Md_isWorn_19 ?_
    refine j_iaload (pc := 20) d_Md_isWorn_20 hr (fun hr => ?_)
    refine j_icmp_lt (pc := 21) (tgt := 28) d_Md_isWorn_21 hr (fun hr => ?_) (fun hr => ?_)
    · exact mJ_weak (ls' := [(9, 0), (9, 0)]) (mwk_d (mwk_d mwk_n)) (t_Md_isWorn_J28  hr)
    · refine j_iconst (pc := 24) d_Md_isWorn_24 ?_
      refine j_goto (pc := 25) (tgt := 29) d_Md_isWorn_25 ?_
      exact j_zret (pc := 29) d_Md_isWorn_29 rfl hr
def M_Md_worn : mM := ("NineBarsModel", ⟨"NineBarsModel", "worn", "()I"⟩, prog_13_method_29_code, 3, some .int, [], 5)
theorem tb_co_Md_worn : mTB (Cond.code ⟨"NineBarsModel", "worn", "()I"⟩ prog_13_method_29_code 3 (some .int)) := tbq8 33 (by decide +kernel) rfl
theorem mc_Md_worn {M : mM} (hd : 5 < mDp M) : mCal M M_Md_worn 0 := ⟨tb_co_Md_worn, tb_in_NineBarsModel, ⟨by decide +kernel, by decide +kernel⟩, by decide +kernel, hd, by decide⟩
theorem d_Md_worn_0 : decode prog_13_method_29_code 0 = .ok (.iconst 0, 1) := by decide +kernel
theorem d_Md_worn_1 : decode prog_13_method_29_code 1 = .ok (.istore_n 1, 1) := by decide +kernel
theorem d_Md_worn_2 : decode prog_13_method_29_code 2 = .ok (.iconst 0, 1) := by decide +kernel
theorem d_Md_worn_3 : decode prog_13_method_29_code 3 = .ok (.istore_n 2, 1) := by decide +kernel
theorem d_Md_worn_4 : decode prog_13_method_29_code 4 = .ok (.iload_n 2, 1) := by decide +kernel
theorem d_Md_worn_5 : decode prog_13_method_29_code 5 = .ok (.aload_n 0, 1) := by decide +kernel
theorem d_Md_worn_6 : decode prog_13_method_29_code 6 = .ok (.invokevirtual 210, 3) := by decide +kernel
theorem d_Md_worn_9 : decode prog_13_method_29_code 9 = .ok (.if_icmp .ge 27, 3) := by decide +kernel
theorem d_Md_worn_36 : decode prog_13_method_29_code 36 = .ok (.iload_n 1, 1) := by decide +kernel
theorem d_Md_worn_37 : decode prog_13_method_29_code 37 = .ok (.ireturn, 1) := by decide +kernel
theorem d_Md_worn_12 : decode prog_13_method_29_code 12 = .ok (.iload_n 1, 1) := by decide +kernel
theorem d_Md_worn_13 : decode prog_13_method_29_code 13 = .ok (.aload_n 0, 1) := by decide +kernel
theorem d_Md_worn_14 : decode prog_13_method_29_code 14 = .ok (.iload_n 2, 1) := by decide +kernel
theorem d_Md_worn_15 : decode prog_13_method_29_code 15 = .ok (.invokevirtual 216, 3) := by decide +kernel
theorem tb_ml_Md_216 : mTB (Cond.methodLink "NineBarsModel" 216 ⟨"NineBarsModel", "isWorn", "(I)Z"⟩) := tbq7 206 (by decide +kernel) rfl
theorem tb_im_Md_isWorn : mTB (Cond.instanceMethod ⟨"NineBarsModel", "isWorn", "(I)Z"⟩) := tbq7 208 (by decide +kernel) rfl
theorem tb_se_Md_isWorn : mTB (Cond.selects "NineBarsModel" ⟨"NineBarsModel", "isWorn", "(I)Z"⟩ ⟨"NineBarsModel", "isWorn", "(I)Z"⟩) := tbqp 63 (by decide +kernel) rfl
theorem mv_Md_isWorn {M : mM} {idx : Nat} (h : mTB (Cond.methodLink (mO M) idx ⟨"NineBarsModel", "isWorn", "(I)Z"⟩)) : mCaV M M_Md_isWorn idx 11 := ⟨h, tb_im_Md_isWorn, tb_se_Md_isWorn, by decide, TX11, 40, rfl⟩
theorem d_Md_worn_18 : decode prog_13_method_29_code 18 = .ok (.ifCond .eq 9, 3) := by decide +kernel
theorem d_Md_worn_27 : decode prog_13_method_29_code 27 = .ok (.iconst 0, 1) := by decide +kernel
theorem d_Md_worn_28 : decode prog_13_method_29_code 28 = .ok (.ior, 1) := by decide +kernel
theorem d_Md_worn_29 : decode prog_13_method_29_code 29 = .ok (.istore_n 1, 1) := by decide +kernel
theorem d_Md_worn_30 : decode prog_13_method_29_code 30 = .ok (.iinc 2 1, 3) := by decide +kernel
theorem d_Md_worn_33 : decode prog_13_method_29_code 33 = .ok (.goto (-29), 3) := by decide +kernel
theorem d_Md_worn_21 : decode prog_13_method_29_code 21 = .ok (.iconst 1, 1) := by decide +kernel
theorem d_Md_worn_22 : decode prog_13_method_29_code 22 = .ok (.iload_n 2, 1) := by decide +kernel
theorem d_Md_worn_23 : decode prog_13_method_29_code 23 = .ok (.ishl, 1) := by decide +kernel
theorem d_Md_worn_24 : decode prog_13_method_29_code 24 = .ok (.goto 4, 3) := by decide +kernel
theorem t_Md_worn_J28 {G : mG} {r : mR} {v0 v2 s0 s1 : Int} {h : mH} {R4 : mH → Int → Int → Option mR} (hR4 : ∀ (h : mH) (w1 w2 : Int) , R4 h w1 w2 = some r → mJ G M_Md_worn 4 [(2, v0), (0, w1), (0, w2)] [] h r) (hr : f_Md_worn_J28 R4 v2 s0 s1 h = some r) : mJ G M_Md_worn 28 [(2, v0), (9, 0), (0, v2)] [(0, s1), (0, s0)] h r := by
  unfold f_Md_worn_J28 at hr
  refine j_ior (pc := 28) d_Md_worn_28 ?_
  refine j_istoreW_n (pc := 29) (L := fun x1 => [(2, v0), (0, x1), (0, v2)]) d_Md_worn_29 (fun _ => rfl) hr (fun x1 hr => ?_)
  refine j_iincW (pc := 30) (L := fun x2 => [(2, v0), (0, x1), (0, x2)]) d_Md_worn_30 rfl (fun _ => rfl) hr (fun x2 hr => ?_)
  refine j_goto (pc := 33) (tgt := 4) d_Md_worn_33 ?_
  exact mJ_weak (ls' := [(2, v0), (0, x1), (0, x2)]) (mwk_s (mwk_s (mwk_s mwk_n))) (hR4 h _ _ hr)
theorem t_Md_worn_L4 {G : mG} {r : mR} {v0 : Int}  : ∀ (n : Nat) (h : mH) (v1 v2 : Int), f_Md_worn_L4 v0 n h v1 v2 = some r → mJ G M_Md_worn 4 [(2, v0), (0, v1), (0, v2)] [] h r := by
  intro n
  induction n with
  | zero =>
    intro h v1 v2 hr
    rw [f_Md_worn_L4] at hr
    cases hr
  | succ n hR4 =>
    intro h v1 v2 hr
    rw [f_Md_worn_L4] at hr
    refine j_iload_n (pc := 4) d_Md_worn_4 rfl ?_
    refine j_aload_n (pc := 5) d_Md_worn_5 rfl ?_
    obtain ⟨ha, hr⟩ := chk_some hr
    refine j_callG (pc := 6) (stk := [(2, v0), (0, v2)]) (as := [(2, v0)]) (P := (fun v9 => ((0 : Nat), v9) :: [(0, v2)])) (tg := 0) (My := M_Md_bars) (mRunV (as := []) (st := [(0, v2)]) d_Md_worn_6 (mc_Md_bars (by decide)) rfl (mv_Md_bars tb_ml_Md_210) rfl (Nat.le_of_ble_eq_true rfl) ha) (fun v => rfl) rfl hr (fun r1 h1 => t_Md_bars _ _ _ h1) (fun x2 h1 hr => ?_)
    refine j_icmp_ge (pc := 9) (tgt := 36) d_Md_worn_9 hr (fun hr => ?_) (fun hr => ?_)
    · refine j_iload_n (pc := 36) d_Md_worn_36 rfl ?_
      exact j_iret (pc := 37) d_Md_worn_37 rfl hr
    · refine j_iload_n (pc := 12) d_Md_worn_12 rfl ?_
      refine j_aload_n (pc := 13) d_Md_worn_13 rfl ?_
      refine j_iload_n (pc := 14) d_Md_worn_14 rfl ?_
      obtain ⟨ha, hr⟩ := chk_some hr
      refine j_callG (pc := 15) (stk := [(0, v2), (2, v0), (0, v1)]) (as := [(2, v0), (0, v2)]) (P := (fun v9 => ((0 : Nat), v9) :: [(0, v1)])) (tg := 0) (My := M_Md_isWorn) (mRunV (as := [(0, v2)]) (st := [(0, v1)]) d_Md_worn_15 (mc_Md_isWorn (by decide)) rfl (mv_Md_isWorn tb_ml_Md_216) rfl (Nat.le_of_ble_eq_true rfl) ha) (fun v => rfl) rfl hr (fun r1 h1 => t_Md_isWorn _ _ _ _ h1) (fun x4 h3 hr => ?_)
      refine j_if_eq (pc := 18) (tgt := 27) d_Md_worn_18 hr (fun hr => ?_) (fun hr => ?_)
      · refine j_iconst (pc := 27) d_Md_worn_27 ?_
        exact mJ_weak (ls' := [(2, v0), (9, 0), (0, v2)]) (mwk_s (mwk_d (mwk_s mwk_n))) (t_Md_worn_J28 hR4 hr)
      · refine j_iconst (pc := 21) d_Md_worn_21 ?_
        refine j_iload_n (pc := 22) d_Md_worn_22 rfl ?_
        refine j_ishl (pc := 23) d_Md_worn_23 ?_
        refine j_goto (pc := 24) (tgt := 28) d_Md_worn_24 ?_
        exact mJ_weak (ls' := [(2, v0), (9, 0), (0, v2)]) (mwk_s (mwk_d (mwk_s mwk_n))) (t_Md_worn_J28 hR4 hr)
theorem t_Md_worn {G : mG} (h : mH) (v0 : Int) (r : mR) (hr : f_Md_worn h v0 = some r) : mJM G M_Md_worn [(2, v0)] h r := by
  refine mJM_of (L := [(2, v0), (9, 0), (9, 0)]) rfl rfl rfl (Nat.le_of_ble_eq_true rfl) ?_
  unfold f_Md_worn at hr
  refine j_iconst (pc := 0) d_Md_worn_0 ?_
  refine j_istore_n (pc := 1) (ls' := [(2, v0), (0, 0), (9, 0)]) d_Md_worn_1 rfl ?_
  refine j_iconst (pc := 2) d_Md_worn_2 ?_
  refine j_istore_n (pc := 3) (ls' := [(2, v0), (0, 0), (0, 0)]) d_Md_worn_3 rfl ?_
  refine mJ_weak (ls' := [(2, v0), (0, 0), (0, 0)]) (mwk_s (mwk_s (mwk_s mwk_n))) (t_Md_worn_L4  _ _ _ _ hr)
def M_Md_stands : mM := ("NineBarsModel", ⟨"NineBarsModel", "stands", "()I"⟩, prog_13_method_30_code, 3, some .int, [], 3)
theorem tb_co_Md_stands : mTB (Cond.code ⟨"NineBarsModel", "stands", "()I"⟩ prog_13_method_30_code 3 (some .int)) := tbq7 237 (by decide +kernel) rfl
theorem mc_Md_stands {M : mM} (hd : 3 < mDp M) : mCal M M_Md_stands 0 := ⟨tb_co_Md_stands, tb_in_NineBarsModel, ⟨by decide +kernel, by decide +kernel⟩, by decide +kernel, hd, by decide⟩
theorem d_Md_stands_0 : decode prog_13_method_30_code 0 = .ok (.iconst 1, 1) := by decide +kernel
theorem d_Md_stands_1 : decode prog_13_method_30_code 1 = .ok (.istore_n 1, 1) := by decide +kernel
theorem d_Md_stands_2 : decode prog_13_method_30_code 2 = .ok (.iconst 0, 1) := by decide +kernel
theorem d_Md_stands_3 : decode prog_13_method_30_code 3 = .ok (.istore_n 2, 1) := by decide +kernel
theorem d_Md_stands_4 : decode prog_13_method_30_code 4 = .ok (.iload_n 2, 1) := by decide +kernel
theorem d_Md_stands_5 : decode prog_13_method_30_code 5 = .ok (.aload_n 0, 1) := by decide +kernel
theorem d_Md_stands_6 : decode prog_13_method_30_code 6 = .ok (.invokevirtual 210, 3) := by decide +kernel
theorem d_Md_stands_9 : decode prog_13_method_30_code 9 = .ok (.if_icmp .ge 18, 3) := by decide +kernel
theorem d_Md_stands_27 : decode prog_13_method_30_code 27 = .ok (.iload_n 1, 1) := by decide +kernel
theorem d_Md_stands_28 : decode prog_13_method_30_code 28 = .ok (.ireturn, 1) := by decide +kernel
theorem d_Md_stands_12 : decode prog_13_method_30_code 12 = .ok (.iload_n 1, 1) := by decide +kernel
theorem d_Md_stands_13 : decode prog_13_method_30_code 13 = .ok (.aload_n 0, 1) := by decide +kernel
theorem d_Md_stands_14 : decode prog_13_method_30_code 14 = .ok (.iload_n 2, 1) := by decide +kernel
theorem d_Md_stands_15 : decode prog_13_method_30_code 15 = .ok (.iconst 0, 1) := by decide +kernel
theorem d_Md_stands_16 : decode prog_13_method_30_code 16 = .ok (.invokevirtual 213, 3) := by decide +kernel
theorem d_Md_stands_19 : decode prog_13_method_30_code 19 = .ok (.imul, 1) := by decide +kernel
theorem d_Md_stands_20 : decode prog_13_method_30_code 20 = .ok (.istore_n 1, 1) := by decide +kernel
theorem d_Md_stands_21 : decode prog_13_method_30_code 21 = .ok (.iinc 2 1, 3) := by decide +kernel
theorem d_Md_stands_24 : decode prog_13_method_30_code 24 = .ok (.goto (-20), 3) := by decide +kernel
theorem t_Md_stands_L4 {G : mG} {r : mR} {v0 : Int}  : ∀ (n : Nat) (h : mH) (v1 v2 : Int), f_Md_stands_L4 v0 n h v1 v2 = some r → mJ G M_Md_stands 4 [(2, v0), (0, v1), (0, v2)] [] h r := by
  intro n
  induction n with
  | zero =>
    intro h v1 v2 hr
    rw [f_Md_stands_L4] at hr
    cases hr
  | succ n hR4 =>
    intro h v1 v2 hr
    rw [f_Md_stands_L4] at hr
    refine j_iload_n (pc := 4) d_Md_stands_4 rfl ?_
    refine j_aload_n (pc := 5) d_Md_stands_5 rfl ?_
    obtain ⟨ha, hr⟩ := chk_some hr
    refine j_callG (pc := 6) (stk := [(2, v0), (0, v2)]) (as := [(2, v0)]) (P := (fun v9 => ((0 : Nat), v9) :: [(0, v2)])) (tg := 0) (My := M_Md_bars) (mRunV (as := []) (st := [(0, v2)]) d_Md_stands_6 (mc_Md_bars (by decide)) rfl (mv_Md_bars tb_ml_Md_210) rfl (Nat.le_of_ble_eq_true rfl) ha) (fun v => rfl) rfl hr (fun r1 h1 => t_Md_bars _ _ _ h1) (fun x2 h1 hr => ?_)
    refine j_icmp_ge (pc := 9) (tgt := 27) d_Md_stands_9 hr (fun hr => ?_) (fun hr => ?_)
    · refine j_iload_n (pc := 27) d_Md_stands_27 rfl ?_
      exact j_iret (pc := 28) d_Md_stands_28 rfl hr
    · refine j_iload_n (pc := 12) d_Md_stands_12 rfl ?_
      refine j_aload_n (pc := 13) d_Md_stands_13 rfl ?_
      refine j_iload_n (pc := 14) d_Md_stands_14 rfl ?_
      refine j_iconst (pc := 15) d_Md_stands_15 ?_
      obtain ⟨ha, hr⟩ := chk_some hr
      refine j_callG (pc := 16) (stk := [(0, 0), (0, v2), (2, v0), (0, v1)]) (as := [(2, v0), (0, v2), (0, 0)]) (P := (fun v9 => ((0 : Nat), v9) :: [(0, v1)])) (tg := 0) (My := M_Md_of) (mRunV (as := [(0, v2), (0, 0)]) (st := [(0, v1)]) d_Md_stands_16 (mc_Md_of (by decide)) rfl (mv_Md_of tb_ml_Md_213) rfl (Nat.le_of_ble_eq_true rfl) ha) (fun v => rfl) rfl hr (fun r1 h1 => t_Md_of _ _ _ _ _ h1) (fun x4 h3 hr => ?_)
      refine j_imul (pc := 19) d_Md_stands_19 ?_
      refine j_istoreW_n (pc := 20) (L := fun x5 => [(2, v0), (0, x5), (0, v2)]) d_Md_stands_20 (fun _ => rfl) hr (fun x5 hr => ?_)
      refine j_iincW (pc := 21) (L := fun x6 => [(2, v0), (0, x5), (0, x6)]) d_Md_stands_21 rfl (fun _ => rfl) hr (fun x6 hr => ?_)
      refine j_goto (pc := 24) (tgt := 4) d_Md_stands_24 ?_
      exact mJ_weak (ls' := [(2, v0), (0, x5), (0, x6)]) (mwk_s (mwk_s (mwk_s mwk_n))) (hR4 h3 _ _ hr)
theorem t_Md_stands {G : mG} (h : mH) (v0 : Int) (r : mR) (hr : f_Md_stands h v0 = some r) : mJM G M_Md_stands [(2, v0)] h r := by
  refine mJM_of (L := [(2, v0), (9, 0), (9, 0)]) rfl rfl rfl (Nat.le_of_ble_eq_true rfl) ?_
  unfold f_Md_stands at hr
  refine j_iconst (pc := 0) d_Md_stands_0 ?_
  refine j_istore_n (pc := 1) (ls' := [(2, v0), (0, 1), (9, 0)]) d_Md_stands_1 rfl ?_
  refine j_iconst (pc := 2) d_Md_stands_2 ?_
  refine j_istore_n (pc := 3) (ls' := [(2, v0), (0, 1), (0, 0)]) d_Md_stands_3 rfl ?_
  refine mJ_weak (ls' := [(2, v0), (0, 1), (0, 0)]) (mwk_s (mwk_s (mwk_s mwk_n))) (t_Md_stands_L4  _ _ _ _ hr)
def M_Md_isSpent : mM := ("NineBarsModel", ⟨"NineBarsModel", "isSpent", "()Z"⟩, prog_13_method_31_code, 1, some .boolean, [], 5)
theorem tb_co_Md_isSpent : mTB (Cond.code ⟨"NineBarsModel", "isSpent", "()Z"⟩ prog_13_method_31_code 1 (some .boolean)) := tbq7 233 (by decide +kernel) rfl
theorem mc_Md_isSpent {M : mM} (hd : 5 < mDp M) : mCal M M_Md_isSpent 0 := ⟨tb_co_Md_isSpent, tb_in_NineBarsModel, ⟨by decide +kernel, by decide +kernel⟩, by decide +kernel, hd, by decide⟩
theorem d_Md_isSpent_0 : decode prog_13_method_31_code 0 = .ok (.aload_n 0, 1) := by decide +kernel
theorem d_Md_isSpent_1 : decode prog_13_method_31_code 1 = .ok (.invokevirtual 219, 3) := by decide +kernel
theorem tb_ml_Md_219 : mTB (Cond.methodLink "NineBarsModel" 219 ⟨"NineBarsModel", "stands", "()I"⟩) := tbq7 234 (by decide +kernel) rfl
theorem tb_im_Md_stands : mTB (Cond.instanceMethod ⟨"NineBarsModel", "stands", "()I"⟩) := tbq7 236 (by decide +kernel) rfl
theorem tb_se_Md_stands : mTB (Cond.selects "NineBarsModel" ⟨"NineBarsModel", "stands", "()I"⟩ ⟨"NineBarsModel", "stands", "()I"⟩) := tbqp 67 (by decide +kernel) rfl
theorem mv_Md_stands {M : mM} {idx : Nat} (h : mTB (Cond.methodLink (mO M) idx ⟨"NineBarsModel", "stands", "()I"⟩)) : mCaV M M_Md_stands idx 11 := ⟨h, tb_im_Md_stands, tb_se_Md_stands, by decide, TX11, 40, rfl⟩
theorem d_Md_isSpent_4 : decode prog_13_method_31_code 4 = .ok (.sipush 20000, 3) := by decide +kernel
theorem d_Md_isSpent_7 : decode prog_13_method_31_code 7 = .ok (.if_icmp .le 7, 3) := by decide +kernel
theorem d_Md_isSpent_14 : decode prog_13_method_31_code 14 = .ok (.iconst 0, 1) := by decide +kernel
theorem d_Md_isSpent_15 : decode prog_13_method_31_code 15 = .ok (.ireturn, 1) := by decide +kernel
theorem d_Md_isSpent_10 : decode prog_13_method_31_code 10 = .ok (.iconst 1, 1) := by decide +kernel
theorem d_Md_isSpent_11 : decode prog_13_method_31_code 11 = .ok (.goto 4, 3) := by decide +kernel
theorem t_Md_isSpent {G : mG} (h : mH) (v0 : Int) (r : mR) (hr : f_Md_isSpent h v0 = some r) : mJM G M_Md_isSpent [(2, v0)] h r := by
  refine mJM_of (L := [(2, v0)]) rfl rfl rfl (Nat.le_of_ble_eq_true rfl) ?_
  unfold f_Md_isSpent at hr
  refine j_aload_n (pc := 0) d_Md_isSpent_0 rfl ?_
  obtain ⟨ha, hr⟩ := chk_some hr
  refine j_callG (pc := 1) (stk := [(2, v0)]) (as := [(2, v0)]) (P := (fun v9 => ((0 : Nat), v9) :: [])) (tg := 0) (My := M_Md_stands) (mRunV (as := []) (st := []) d_Md_isSpent_1 (mc_Md_stands (by decide)) rfl (mv_Md_stands tb_ml_Md_219) rfl (Nat.le_of_ble_eq_true rfl) ha) (fun v => rfl) rfl hr (fun r1 h1 => t_Md_stands _ _ _ h1) (fun x2 h1 hr => ?_)
  refine j_sipush (pc := 4) d_Md_isSpent_4 ?_
  refine j_icmp_le (pc := 7) (tgt := 14) d_Md_isSpent_7 hr (fun hr => ?_) (fun hr => ?_)
  · refine j_iconst (pc := 14) d_Md_isSpent_14 ?_
    exact j_zret (pc := 15) d_Md_isSpent_15 rfl hr
  · refine j_iconst (pc := 10) d_Md_isSpent_10 ?_
    refine j_goto (pc := 11) (tgt := 15) d_Md_isSpent_11 ?_
    exact j_zret (pc := 15) d_Md_isSpent_15 rfl hr
def M_Md_standNow : mM := ("NineBarsModel", ⟨"NineBarsModel", "standNow", "()I"⟩, prog_13_method_32_code, 3, some .int, [], 3)
theorem tb_co_Md_standNow : mTB (Cond.code ⟨"NineBarsModel", "standNow", "()I"⟩ prog_13_method_32_code 3 (some .int)) := tbq8 1 (by decide +kernel) rfl
theorem mc_Md_standNow {M : mM} (hd : 3 < mDp M) : mCal M M_Md_standNow 0 := ⟨tb_co_Md_standNow, tb_in_NineBarsModel, ⟨by decide +kernel, by decide +kernel⟩, by decide +kernel, hd, by decide⟩
theorem d_Md_standNow_0 : decode prog_13_method_32_code 0 = .ok (.iconst 0, 1) := by decide +kernel
theorem d_Md_standNow_1 : decode prog_13_method_32_code 1 = .ok (.istore_n 1, 1) := by decide +kernel
theorem d_Md_standNow_2 : decode prog_13_method_32_code 2 = .ok (.aload_n 0, 1) := by decide +kernel
theorem d_Md_standNow_3 : decode prog_13_method_32_code 3 = .ok (.invokevirtual 210, 3) := by decide +kernel
theorem d_Md_standNow_6 : decode prog_13_method_32_code 6 = .ok (.iconst 1, 1) := by decide +kernel
theorem d_Md_standNow_7 : decode prog_13_method_32_code 7 = .ok (.isub, 1) := by decide +kernel
theorem d_Md_standNow_8 : decode prog_13_method_32_code 8 = .ok (.istore_n 2, 1) := by decide +kernel
theorem d_Md_standNow_9 : decode prog_13_method_32_code 9 = .ok (.iload_n 2, 1) := by decide +kernel
theorem d_Md_standNow_10 : decode prog_13_method_32_code 10 = .ok (.ifCond .lt 25, 3) := by decide +kernel
theorem d_Md_standNow_35 : decode prog_13_method_32_code 35 = .ok (.iload_n 1, 1) := by decide +kernel
theorem d_Md_standNow_36 : decode prog_13_method_32_code 36 = .ok (.ireturn, 1) := by decide +kernel
theorem d_Md_standNow_13 : decode prog_13_method_32_code 13 = .ok (.iload_n 1, 1) := by decide +kernel
theorem d_Md_standNow_14 : decode prog_13_method_32_code 14 = .ok (.aload_n 0, 1) := by decide +kernel
theorem d_Md_standNow_15 : decode prog_13_method_32_code 15 = .ok (.iload_n 2, 1) := by decide +kernel
theorem d_Md_standNow_16 : decode prog_13_method_32_code 16 = .ok (.iconst 0, 1) := by decide +kernel
theorem d_Md_standNow_17 : decode prog_13_method_32_code 17 = .ok (.invokevirtual 213, 3) := by decide +kernel
theorem d_Md_standNow_20 : decode prog_13_method_32_code 20 = .ok (.imul, 1) := by decide +kernel
theorem d_Md_standNow_21 : decode prog_13_method_32_code 21 = .ok (.aload_n 0, 1) := by decide +kernel
theorem d_Md_standNow_22 : decode prog_13_method_32_code 22 = .ok (.iload_n 2, 1) := by decide +kernel
theorem d_Md_standNow_23 : decode prog_13_method_32_code 23 = .ok (.iconst 1, 1) := by decide +kernel
theorem d_Md_standNow_24 : decode prog_13_method_32_code 24 = .ok (.invokevirtual 213, 3) := by decide +kernel
theorem d_Md_standNow_27 : decode prog_13_method_32_code 27 = .ok (.iadd, 1) := by decide +kernel
theorem d_Md_standNow_28 : decode prog_13_method_32_code 28 = .ok (.istore_n 1, 1) := by decide +kernel
theorem d_Md_standNow_29 : decode prog_13_method_32_code 29 = .ok (.iinc 2 (-1), 3) := by decide +kernel
theorem d_Md_standNow_32 : decode prog_13_method_32_code 32 = .ok (.goto (-23), 3) := by decide +kernel
theorem t_Md_standNow_L9 {G : mG} {r : mR} {v0 : Int}  : ∀ (n : Nat) (h : mH) (v1 v2 : Int), f_Md_standNow_L9 v0 n h v1 v2 = some r → mJ G M_Md_standNow 9 [(2, v0), (0, v1), (0, v2)] [] h r := by
  intro n
  induction n with
  | zero =>
    intro h v1 v2 hr
    rw [f_Md_standNow_L9] at hr
    cases hr
  | succ n hR9 =>
    intro h v1 v2 hr
    rw [f_Md_standNow_L9] at hr
    refine j_iload_n (pc := 9) d_Md_standNow_9 rfl ?_
    refine j_if_lt (pc := 10) (tgt := 35) d_Md_standNow_10 hr (fun hr => ?_) (fun hr => ?_)
    · refine j_iload_n (pc := 35) d_Md_standNow_35 rfl ?_
      exact j_iret (pc := 36) d_Md_standNow_36 rfl hr
    · refine j_iload_n (pc := 13) d_Md_standNow_13 rfl ?_
      refine j_aload_n (pc := 14) d_Md_standNow_14 rfl ?_
      refine j_iload_n (pc := 15) d_Md_standNow_15 rfl ?_
      refine j_iconst (pc := 16) d_Md_standNow_16 ?_
      obtain ⟨ha, hr⟩ := chk_some hr
      refine j_callG (pc := 17) (stk := [(0, 0), (0, v2), (2, v0), (0, v1)]) (as := [(2, v0), (0, v2), (0, 0)]) (P := (fun v9 => ((0 : Nat), v9) :: [(0, v1)])) (tg := 0) (My := M_Md_of) (mRunV (as := [(0, v2), (0, 0)]) (st := [(0, v1)]) d_Md_standNow_17 (mc_Md_of (by decide)) rfl (mv_Md_of tb_ml_Md_213) rfl (Nat.le_of_ble_eq_true rfl) ha) (fun v => rfl) rfl hr (fun r1 h1 => t_Md_of _ _ _ _ _ h1) (fun x2 h1 hr => ?_)
      refine j_imul (pc := 20) d_Md_standNow_20 ?_
      refine j_aload_n (pc := 21) d_Md_standNow_21 rfl ?_
      refine j_iload_n (pc := 22) d_Md_standNow_22 rfl ?_
      refine j_iconst (pc := 23) d_Md_standNow_23 ?_
      obtain ⟨ha, hr⟩ := chk_some hr
      refine j_callG (pc := 24) (stk := [(0, 1), (0, v2), (2, v0), (0, w32 (v1 * x2))]) (as := [(2, v0), (0, v2), (0, 1)]) (P := (fun v9 => ((0 : Nat), v9) :: [(0, w32 (v1 * x2))])) (tg := 0) (My := M_Md_of) (mRunV (as := [(0, v2), (0, 1)]) (st := [(0, w32 (v1 * x2))]) d_Md_standNow_24 (mc_Md_of (by decide)) rfl (mv_Md_of tb_ml_Md_213) rfl (Nat.le_of_ble_eq_true rfl) ha) (fun v => rfl) rfl hr (fun r1 h1 => t_Md_of _ _ _ _ _ h1) (fun x4 h3 hr => ?_)
      refine j_iadd (pc := 27) d_Md_standNow_27 ?_
      refine j_istoreW_n (pc := 28) (L := fun x5 => [(2, v0), (0, x5), (0, v2)]) d_Md_standNow_28 (fun _ => rfl) hr (fun x5 hr => ?_)
      refine j_iincW (pc := 29) (L := fun x6 => [(2, v0), (0, x5), (0, x6)]) d_Md_standNow_29 rfl (fun _ => rfl) hr (fun x6 hr => ?_)
      refine j_goto (pc := 32) (tgt := 9) d_Md_standNow_32 ?_
      exact mJ_weak (ls' := [(2, v0), (0, x5), (0, x6)]) (mwk_s (mwk_s (mwk_s mwk_n))) (hR9 h3 _ _ hr)
theorem t_Md_standNow {G : mG} (h : mH) (v0 : Int) (r : mR) (hr : f_Md_standNow h v0 = some r) : mJM G M_Md_standNow [(2, v0)] h r := by
  refine mJM_of (L := [(2, v0), (9, 0), (9, 0)]) rfl rfl rfl (Nat.le_of_ble_eq_true rfl) ?_
  unfold f_Md_standNow at hr
  refine j_iconst (pc := 0) d_Md_standNow_0 ?_
  refine j_istore_n (pc := 1) (ls' := [(2, v0), (0, 0), (9, 0)]) d_Md_standNow_1 rfl ?_
  refine j_aload_n (pc := 2) d_Md_standNow_2 rfl ?_
  obtain ⟨ha, hr⟩ := chk_some hr
  refine j_callG (pc := 3) (stk := [(2, v0)]) (as := [(2, v0)]) (P := (fun v9 => ((0 : Nat), v9) :: [])) (tg := 0) (My := M_Md_bars) (mRunV (as := []) (st := []) d_Md_standNow_3 (mc_Md_bars (by decide)) rfl (mv_Md_bars tb_ml_Md_210) rfl (Nat.le_of_ble_eq_true rfl) ha) (fun v => rfl) rfl hr (fun r1 h1 => t_Md_bars _ _ _ h1) (fun x2 h1 hr => ?_)
  refine j_iconst (pc := 6) d_Md_standNow_6 ?_
  refine j_isub (pc := 7) d_Md_standNow_7 ?_
  refine j_istoreW_n (pc := 8) (L := fun x3 => [(2, v0), (0, 0), (0, x3)]) d_Md_standNow_8 (fun _ => rfl) hr (fun x3 hr => ?_)
  refine mJ_weak (ls' := [(2, v0), (0, 0), (0, x3)]) (mwk_s (mwk_s (mwk_s mwk_n))) (t_Md_standNow_L9  _ _ _ _ hr)
def M_Md_openStand : mM := ("NineBarsModel", ⟨"NineBarsModel", "openStand", "()I"⟩, prog_13_method_33_code, 3, some .int, [], 3)
theorem tb_co_Md_openStand : mTB (Cond.code ⟨"NineBarsModel", "openStand", "()I"⟩ prog_13_method_33_code 3 (some .int)) := tbq8 148 (by decide +kernel) rfl
theorem mc_Md_openStand {M : mM} (hd : 3 < mDp M) : mCal M M_Md_openStand 0 := ⟨tb_co_Md_openStand, tb_in_NineBarsModel, ⟨by decide +kernel, by decide +kernel⟩, by decide +kernel, hd, by decide⟩
theorem d_Md_openStand_0 : decode prog_13_method_33_code 0 = .ok (.iconst 0, 1) := by decide +kernel
theorem d_Md_openStand_1 : decode prog_13_method_33_code 1 = .ok (.istore_n 1, 1) := by decide +kernel
theorem d_Md_openStand_2 : decode prog_13_method_33_code 2 = .ok (.aload_n 0, 1) := by decide +kernel
theorem d_Md_openStand_3 : decode prog_13_method_33_code 3 = .ok (.invokevirtual 210, 3) := by decide +kernel
theorem d_Md_openStand_6 : decode prog_13_method_33_code 6 = .ok (.iconst 1, 1) := by decide +kernel
theorem d_Md_openStand_7 : decode prog_13_method_33_code 7 = .ok (.isub, 1) := by decide +kernel
theorem d_Md_openStand_8 : decode prog_13_method_33_code 8 = .ok (.istore_n 2, 1) := by decide +kernel
theorem d_Md_openStand_9 : decode prog_13_method_33_code 9 = .ok (.iload_n 2, 1) := by decide +kernel
theorem d_Md_openStand_10 : decode prog_13_method_33_code 10 = .ok (.ifCond .lt 25, 3) := by decide +kernel
theorem d_Md_openStand_35 : decode prog_13_method_33_code 35 = .ok (.iload_n 1, 1) := by decide +kernel
theorem d_Md_openStand_36 : decode prog_13_method_33_code 36 = .ok (.ireturn, 1) := by decide +kernel
theorem d_Md_openStand_13 : decode prog_13_method_33_code 13 = .ok (.iload_n 1, 1) := by decide +kernel
theorem d_Md_openStand_14 : decode prog_13_method_33_code 14 = .ok (.aload_n 0, 1) := by decide +kernel
theorem d_Md_openStand_15 : decode prog_13_method_33_code 15 = .ok (.iload_n 2, 1) := by decide +kernel
theorem d_Md_openStand_16 : decode prog_13_method_33_code 16 = .ok (.iconst 0, 1) := by decide +kernel
theorem d_Md_openStand_17 : decode prog_13_method_33_code 17 = .ok (.invokevirtual 213, 3) := by decide +kernel
theorem d_Md_openStand_20 : decode prog_13_method_33_code 20 = .ok (.imul, 1) := by decide +kernel
theorem d_Md_openStand_21 : decode prog_13_method_33_code 21 = .ok (.aload_n 0, 1) := by decide +kernel
theorem d_Md_openStand_22 : decode prog_13_method_33_code 22 = .ok (.iload_n 2, 1) := by decide +kernel
theorem d_Md_openStand_23 : decode prog_13_method_33_code 23 = .ok (.iconst 2, 1) := by decide +kernel
theorem d_Md_openStand_24 : decode prog_13_method_33_code 24 = .ok (.invokevirtual 213, 3) := by decide +kernel
theorem d_Md_openStand_27 : decode prog_13_method_33_code 27 = .ok (.iadd, 1) := by decide +kernel
theorem d_Md_openStand_28 : decode prog_13_method_33_code 28 = .ok (.istore_n 1, 1) := by decide +kernel
theorem d_Md_openStand_29 : decode prog_13_method_33_code 29 = .ok (.iinc 2 (-1), 3) := by decide +kernel
theorem d_Md_openStand_32 : decode prog_13_method_33_code 32 = .ok (.goto (-23), 3) := by decide +kernel
theorem t_Md_openStand_L9 {G : mG} {r : mR} {v0 : Int}  : ∀ (n : Nat) (h : mH) (v1 v2 : Int), f_Md_openStand_L9 v0 n h v1 v2 = some r → mJ G M_Md_openStand 9 [(2, v0), (0, v1), (0, v2)] [] h r := by
  intro n
  induction n with
  | zero =>
    intro h v1 v2 hr
    rw [f_Md_openStand_L9] at hr
    cases hr
  | succ n hR9 =>
    intro h v1 v2 hr
    rw [f_Md_openStand_L9] at hr
    refine j_iload_n (pc := 9) d_Md_openStand_9 rfl ?_
    refine j_if_lt (pc := 10) (tgt := 35) d_Md_openStand_10 hr (fun hr => ?_) (fun hr => ?_)
    · refine j_iload_n (pc := 35) d_Md_openStand_35 rfl ?_
      exact j_iret (pc := 36) d_Md_openStand_36 rfl hr
    · refine j_iload_n (pc := 13) d_Md_openStand_13 rfl ?_
      refine j_aload_n (pc := 14) d_Md_openStand_14 rfl ?_
      refine j_iload_n (pc := 15) d_Md_openStand_15 rfl ?_
      refine j_iconst (pc := 16) d_Md_openStand_16 ?_
      obtain ⟨ha, hr⟩ := chk_some hr
      refine j_callG (pc := 17) (stk := [(0, 0), (0, v2), (2, v0), (0, v1)]) (as := [(2, v0), (0, v2), (0, 0)]) (P := (fun v9 => ((0 : Nat), v9) :: [(0, v1)])) (tg := 0) (My := M_Md_of) (mRunV (as := [(0, v2), (0, 0)]) (st := [(0, v1)]) d_Md_openStand_17 (mc_Md_of (by decide)) rfl (mv_Md_of tb_ml_Md_213) rfl (Nat.le_of_ble_eq_true rfl) ha) (fun v => rfl) rfl hr (fun r1 h1 => t_Md_of _ _ _ _ _ h1) (fun x2 h1 hr => ?_)
      refine j_imul (pc := 20) d_Md_openStand_20 ?_
      refine j_aload_n (pc := 21) d_Md_openStand_21 rfl ?_
      refine j_iload_n (pc := 22) d_Md_openStand_22 rfl ?_
      refine j_iconst (pc := 23) d_Md_openStand_23 ?_
      obtain ⟨ha, hr⟩ := chk_some hr
      refine j_callG (pc := 24) (stk := [(0, 2), (0, v2), (2, v0), (0, w32 (v1 * x2))]) (as := [(2, v0), (0, v2), (0, 2)]) (P := (fun v9 => ((0 : Nat), v9) :: [(0, w32 (v1 * x2))])) (tg := 0) (My := M_Md_of) (mRunV (as := [(0, v2), (0, 2)]) (st := [(0, w32 (v1 * x2))]) d_Md_openStand_24 (mc_Md_of (by decide)) rfl (mv_Md_of tb_ml_Md_213) rfl (Nat.le_of_ble_eq_true rfl) ha) (fun v => rfl) rfl hr (fun r1 h1 => t_Md_of _ _ _ _ _ h1) (fun x4 h3 hr => ?_)
      refine j_iadd (pc := 27) d_Md_openStand_27 ?_
      refine j_istoreW_n (pc := 28) (L := fun x5 => [(2, v0), (0, x5), (0, v2)]) d_Md_openStand_28 (fun _ => rfl) hr (fun x5 hr => ?_)
      refine j_iincW (pc := 29) (L := fun x6 => [(2, v0), (0, x5), (0, x6)]) d_Md_openStand_29 rfl (fun _ => rfl) hr (fun x6 hr => ?_)
      refine j_goto (pc := 32) (tgt := 9) d_Md_openStand_32 ?_
      exact mJ_weak (ls' := [(2, v0), (0, x5), (0, x6)]) (mwk_s (mwk_s (mwk_s mwk_n))) (hR9 h3 _ _ hr)
theorem t_Md_openStand {G : mG} (h : mH) (v0 : Int) (r : mR) (hr : f_Md_openStand h v0 = some r) : mJM G M_Md_openStand [(2, v0)] h r := by
  refine mJM_of (L := [(2, v0), (9, 0), (9, 0)]) rfl rfl rfl (Nat.le_of_ble_eq_true rfl) ?_
  unfold f_Md_openStand at hr
  refine j_iconst (pc := 0) d_Md_openStand_0 ?_
  refine j_istore_n (pc := 1) (ls' := [(2, v0), (0, 0), (9, 0)]) d_Md_openStand_1 rfl ?_
  refine j_aload_n (pc := 2) d_Md_openStand_2 rfl ?_
  obtain ⟨ha, hr⟩ := chk_some hr
  refine j_callG (pc := 3) (stk := [(2, v0)]) (as := [(2, v0)]) (P := (fun v9 => ((0 : Nat), v9) :: [])) (tg := 0) (My := M_Md_bars) (mRunV (as := []) (st := []) d_Md_openStand_3 (mc_Md_bars (by decide)) rfl (mv_Md_bars tb_ml_Md_210) rfl (Nat.le_of_ble_eq_true rfl) ha) (fun v => rfl) rfl hr (fun r1 h1 => t_Md_bars _ _ _ h1) (fun x2 h1 hr => ?_)
  refine j_iconst (pc := 6) d_Md_openStand_6 ?_
  refine j_isub (pc := 7) d_Md_openStand_7 ?_
  refine j_istoreW_n (pc := 8) (L := fun x3 => [(2, v0), (0, 0), (0, x3)]) d_Md_openStand_8 (fun _ => rfl) hr (fun x3 hr => ?_)
  refine mJ_weak (ls' := [(2, v0), (0, 0), (0, x3)]) (mwk_s (mwk_s (mwk_s mwk_n))) (t_Md_openStand_L9  _ _ _ _ hr)
def M_Md_placeOf : mM := ("NineBarsModel", ⟨"NineBarsModel", "placeOf", "(II)I"⟩, prog_13_method_34_code, 5, some .int, [], 3)
theorem tb_co_Md_placeOf : mTB (Cond.code ⟨"NineBarsModel", "placeOf", "(II)I"⟩ prog_13_method_34_code 5 (some .int)) := tbq8 13 (by decide +kernel) rfl
theorem mc_Md_placeOf {M : mM} (hd : 3 < mDp M) : mCal M M_Md_placeOf 2 := ⟨tb_co_Md_placeOf, tb_in_NineBarsModel, ⟨by decide +kernel, by decide +kernel⟩, by decide +kernel, hd, by decide⟩
theorem d_Md_placeOf_0 : decode prog_13_method_34_code 0 = .ok (.iload_n 1, 1) := by decide +kernel
theorem d_Md_placeOf_1 : decode prog_13_method_34_code 1 = .ok (.istore_n 3, 1) := by decide +kernel
theorem d_Md_placeOf_2 : decode prog_13_method_34_code 2 = .ok (.iconst 0, 1) := by decide +kernel
theorem d_Md_placeOf_3 : decode prog_13_method_34_code 3 = .ok (.istore 4, 2) := by decide +kernel
theorem d_Md_placeOf_5 : decode prog_13_method_34_code 5 = .ok (.iload 4, 2) := by decide +kernel
theorem d_Md_placeOf_7 : decode prog_13_method_34_code 7 = .ok (.iload_n 2, 1) := by decide +kernel
theorem d_Md_placeOf_8 : decode prog_13_method_34_code 8 = .ok (.if_icmp .ge 19, 3) := by decide +kernel
theorem d_Md_placeOf_11 : decode prog_13_method_34_code 11 = .ok (.iload_n 3, 1) := by decide +kernel
theorem d_Md_placeOf_12 : decode prog_13_method_34_code 12 = .ok (.aload_n 0, 1) := by decide +kernel
theorem d_Md_placeOf_13 : decode prog_13_method_34_code 13 = .ok (.iload 4, 2) := by decide +kernel
theorem d_Md_placeOf_15 : decode prog_13_method_34_code 15 = .ok (.iconst 0, 1) := by decide +kernel
theorem d_Md_placeOf_16 : decode prog_13_method_34_code 16 = .ok (.invokevirtual 213, 3) := by decide +kernel
theorem d_Md_placeOf_19 : decode prog_13_method_34_code 19 = .ok (.idiv, 1) := by decide +kernel
theorem d_Md_placeOf_20 : decode prog_13_method_34_code 20 = .ok (.istore_n 3, 1) := by decide +kernel
theorem d_Md_placeOf_21 : decode prog_13_method_34_code 21 = .ok (.iinc 4 1, 3) := by decide +kernel
theorem d_Md_placeOf_24 : decode prog_13_method_34_code 24 = .ok (.goto (-19), 3) := by decide +kernel
theorem d_Md_placeOf_27 : decode prog_13_method_34_code 27 = .ok (.iload_n 3, 1) := by decide +kernel
theorem d_Md_placeOf_28 : decode prog_13_method_34_code 28 = .ok (.aload_n 0, 1) := by decide +kernel
theorem d_Md_placeOf_29 : decode prog_13_method_34_code 29 = .ok (.iload_n 2, 1) := by decide +kernel
theorem d_Md_placeOf_30 : decode prog_13_method_34_code 30 = .ok (.iconst 0, 1) := by decide +kernel
theorem d_Md_placeOf_31 : decode prog_13_method_34_code 31 = .ok (.invokevirtual 213, 3) := by decide +kernel
theorem d_Md_placeOf_34 : decode prog_13_method_34_code 34 = .ok (.irem, 1) := by decide +kernel
theorem d_Md_placeOf_35 : decode prog_13_method_34_code 35 = .ok (.ireturn, 1) := by decide +kernel
theorem t_Md_placeOf_L5 {G : mG} {r : mR} {v0 v2 : Int} {K27 : mH → Int → Option mR} (hK27 : ∀ (h : mH) (w3 : Int) , K27 h w3 = some r → mJ G M_Md_placeOf 27 [(2, v0), (9, 0), (0, v2), (0, w3), (9, 0)] [] h r) : ∀ (n : Nat) (h : mH) (v3 v4 : Int), f_Md_placeOf_L5 K27 v0 v2 n h v3 v4 = some r → mJ G M_Md_placeOf 5 [(2, v0), (9, 0), (0, v2), (0, v3), (0, v4)] [] h r := by
  intro n
  induction n with
  | zero =>
    intro h v3 v4 hr
    rw [f_Md_placeOf_L5] at hr
    cases hr
  | succ n hR5 =>
    intro h v3 v4 hr
    rw [f_Md_placeOf_L5] at hr
    refine j_iload (pc := 5) d_Md_placeOf_5 rfl ?_
    refine j_iload_n (pc := 7) d_Md_placeOf_7 rfl ?_
    refine j_icmp_ge (pc := 8) (tgt := 27) d_Md_placeOf_8 hr (fun hr => ?_) (fun hr => ?_)
    · exact mJ_weak (ls' := [(2, v0), (9, 0), (0, v2), (0, v3), (9, 0)]) (mwk_s (mwk_s (mwk_s (mwk_s (mwk_d mwk_n))))) (hK27 h _ hr)
    · refine j_iload_n (pc := 11) d_Md_placeOf_11 rfl ?_
      refine j_aload_n (pc := 12) d_Md_placeOf_12 rfl ?_
      refine j_iload (pc := 13) d_Md_placeOf_13 rfl ?_
      refine j_iconst (pc := 15) d_Md_placeOf_15 ?_
      obtain ⟨ha, hr⟩ := chk_some hr
      refine j_callG (pc := 16) (stk := [(0, 0), (0, v4), (2, v0), (0, v3)]) (as := [(2, v0), (0, v4), (0, 0)]) (P := (fun v9 => ((0 : Nat), v9) :: [(0, v3)])) (tg := 0) (My := M_Md_of) (mRunV (as := [(0, v4), (0, 0)]) (st := [(0, v3)]) d_Md_placeOf_16 (mc_Md_of (by decide)) rfl (mv_Md_of tb_ml_Md_213) rfl (Nat.le_of_ble_eq_true rfl) ha) (fun v => rfl) rfl hr (fun r1 h1 => t_Md_of _ _ _ _ _ h1) (fun x2 h1 hr => ?_)
      refine j_idiv (pc := 19) d_Md_placeOf_19 hr (fun hr => ?_)
      refine j_istoreW_n (pc := 20) (L := fun x3 => [(2, v0), (9, 0), (0, v2), (0, x3), (0, v4)]) d_Md_placeOf_20 (fun _ => rfl) hr (fun x3 hr => ?_)
      refine j_iincW (pc := 21) (L := fun x4 => [(2, v0), (9, 0), (0, v2), (0, x3), (0, x4)]) d_Md_placeOf_21 rfl (fun _ => rfl) hr (fun x4 hr => ?_)
      refine j_goto (pc := 24) (tgt := 5) d_Md_placeOf_24 ?_
      exact mJ_weak (ls' := [(2, v0), (9, 0), (0, v2), (0, x3), (0, x4)]) (mwk_s (mwk_s (mwk_s (mwk_s (mwk_s mwk_n))))) (hR5 h1 _ _ hr)
theorem t_Md_placeOf {G : mG} (h : mH) (v0 v1 v2 : Int) (r : mR) (hr : f_Md_placeOf h v0 v1 v2 = some r) : mJM G M_Md_placeOf [(2, v0), (0, v1), (0, v2)] h r := by
  refine mJM_of (L := [(2, v0), (0, v1), (0, v2), (9, 0), (9, 0)]) rfl rfl rfl (Nat.le_of_ble_eq_true rfl) ?_
  unfold f_Md_placeOf at hr
  refine j_iload_n (pc := 0) d_Md_placeOf_0 rfl ?_
  refine j_istore_n (pc := 1) (ls' := [(2, v0), (0, v1), (0, v2), (0, v1), (9, 0)]) d_Md_placeOf_1 rfl ?_
  refine j_iconst (pc := 2) d_Md_placeOf_2 ?_
  refine j_istore (pc := 3) (ls' := [(2, v0), (0, v1), (0, v2), (0, v1), (0, 0)]) d_Md_placeOf_3 rfl ?_
  refine mJ_weak (ls' := [(2, v0), (9, 0), (0, v2), (0, v1), (0, 0)]) (mwk_s (mwk_d (mwk_s (mwk_s (mwk_s mwk_n))))) (t_Md_placeOf_L5 (fun h1 x2 hr => ?_) _ _ _ _ hr)
  · refine j_iload_n (pc := 27) d_Md_placeOf_27 rfl ?_
    refine j_aload_n (pc := 28) d_Md_placeOf_28 rfl ?_
    refine j_iload_n (pc := 29) d_Md_placeOf_29 rfl ?_
    refine j_iconst (pc := 30) d_Md_placeOf_30 ?_
    obtain ⟨ha, hr⟩ := chk_some hr
    refine j_callG (pc := 31) (stk := [(0, 0), (0, v2), (2, v0), (0, x2)]) (as := [(2, v0), (0, v2), (0, 0)]) (P := (fun v9 => ((0 : Nat), v9) :: [(0, x2)])) (tg := 0) (My := M_Md_of) (mRunV (as := [(0, v2), (0, 0)]) (st := [(0, x2)]) d_Md_placeOf_31 (mc_Md_of (by decide)) rfl (mv_Md_of tb_ml_Md_213) rfl (Nat.le_of_ble_eq_true rfl) ha) (fun v => rfl) rfl hr (fun r1 h1 => t_Md_of _ _ _ _ _ h1) (fun x4 h3 hr => ?_)
    refine j_irem (pc := 34) d_Md_placeOf_34 hr (fun hr => ?_)
    exact j_iret (pc := 35) d_Md_placeOf_35 rfl hr
def M_Md_weight : mM := ("NineBarsModel", ⟨"NineBarsModel", "weight", "(I)I"⟩, prog_13_method_35_code, 4, some .int, [], 3)
theorem tb_co_Md_weight : mTB (Cond.code ⟨"NineBarsModel", "weight", "(I)I"⟩ prog_13_method_35_code 4 (some .int)) := tbq8 116 (by decide +kernel) rfl
theorem mc_Md_weight {M : mM} (hd : 3 < mDp M) : mCal M M_Md_weight 1 := ⟨tb_co_Md_weight, tb_in_NineBarsModel, ⟨by decide +kernel, by decide +kernel⟩, by decide +kernel, hd, by decide⟩
theorem d_Md_weight_0 : decode prog_13_method_35_code 0 = .ok (.iconst 1, 1) := by decide +kernel
theorem d_Md_weight_1 : decode prog_13_method_35_code 1 = .ok (.istore_n 2, 1) := by decide +kernel
theorem d_Md_weight_2 : decode prog_13_method_35_code 2 = .ok (.iconst 0, 1) := by decide +kernel
theorem d_Md_weight_3 : decode prog_13_method_35_code 3 = .ok (.istore_n 3, 1) := by decide +kernel
theorem d_Md_weight_4 : decode prog_13_method_35_code 4 = .ok (.iload_n 3, 1) := by decide +kernel
theorem d_Md_weight_5 : decode prog_13_method_35_code 5 = .ok (.iload_n 1, 1) := by decide +kernel
theorem d_Md_weight_6 : decode prog_13_method_35_code 6 = .ok (.if_icmp .ge 18, 3) := by decide +kernel
theorem d_Md_weight_24 : decode prog_13_method_35_code 24 = .ok (.iload_n 2, 1) := by decide +kernel
theorem d_Md_weight_25 : decode prog_13_method_35_code 25 = .ok (.ireturn, 1) := by decide +kernel
theorem d_Md_weight_9 : decode prog_13_method_35_code 9 = .ok (.iload_n 2, 1) := by decide +kernel
theorem d_Md_weight_10 : decode prog_13_method_35_code 10 = .ok (.aload_n 0, 1) := by decide +kernel
theorem d_Md_weight_11 : decode prog_13_method_35_code 11 = .ok (.iload_n 3, 1) := by decide +kernel
theorem d_Md_weight_12 : decode prog_13_method_35_code 12 = .ok (.iconst 0, 1) := by decide +kernel
theorem d_Md_weight_13 : decode prog_13_method_35_code 13 = .ok (.invokevirtual 213, 3) := by decide +kernel
theorem d_Md_weight_16 : decode prog_13_method_35_code 16 = .ok (.imul, 1) := by decide +kernel
theorem d_Md_weight_17 : decode prog_13_method_35_code 17 = .ok (.istore_n 2, 1) := by decide +kernel
theorem d_Md_weight_18 : decode prog_13_method_35_code 18 = .ok (.iinc 3 1, 3) := by decide +kernel
theorem d_Md_weight_21 : decode prog_13_method_35_code 21 = .ok (.goto (-17), 3) := by decide +kernel
theorem t_Md_weight_L4 {G : mG} {r : mR} {v0 v1 : Int}  : ∀ (n : Nat) (h : mH) (v2 v3 : Int), f_Md_weight_L4 v0 v1 n h v2 v3 = some r → mJ G M_Md_weight 4 [(2, v0), (0, v1), (0, v2), (0, v3)] [] h r := by
  intro n
  induction n with
  | zero =>
    intro h v2 v3 hr
    rw [f_Md_weight_L4] at hr
    cases hr
  | succ n hR4 =>
    intro h v2 v3 hr
    rw [f_Md_weight_L4] at hr
    refine j_iload_n (pc := 4) d_Md_weight_4 rfl ?_
    refine j_iload_n (pc := 5) d_Md_weight_5 rfl ?_
    refine j_icmp_ge (pc := 6) (tgt := 24) d_Md_weight_6 hr (fun hr => ?_) (fun hr => ?_)
    · refine j_iload_n (pc := 24) d_Md_weight_24 rfl ?_
      exact j_iret (pc := 25) d_Md_weight_25 rfl hr
    · refine j_iload_n (pc := 9) d_Md_weight_9 rfl ?_
      refine j_aload_n (pc := 10) d_Md_weight_10 rfl ?_
      refine j_iload_n (pc := 11) d_Md_weight_11 rfl ?_
      refine j_iconst (pc := 12) d_Md_weight_12 ?_
      obtain ⟨ha, hr⟩ := chk_some hr
      refine j_callG (pc := 13) (stk := [(0, 0), (0, v3), (2, v0), (0, v2)]) (as := [(2, v0), (0, v3), (0, 0)]) (P := (fun v9 => ((0 : Nat), v9) :: [(0, v2)])) (tg := 0) (My := M_Md_of) (mRunV (as := [(0, v3), (0, 0)]) (st := [(0, v2)]) d_Md_weight_13 (mc_Md_of (by decide)) rfl (mv_Md_of tb_ml_Md_213) rfl (Nat.le_of_ble_eq_true rfl) ha) (fun v => rfl) rfl hr (fun r1 h1 => t_Md_of _ _ _ _ _ h1) (fun x2 h1 hr => ?_)
      refine j_imul (pc := 16) d_Md_weight_16 ?_
      refine j_istoreW_n (pc := 17) (L := fun x3 => [(2, v0), (0, v1), (0, x3), (0, v3)]) d_Md_weight_17 (fun _ => rfl) hr (fun x3 hr => ?_)
      refine j_iincW (pc := 18) (L := fun x4 => [(2, v0), (0, v1), (0, x3), (0, x4)]) d_Md_weight_18 rfl (fun _ => rfl) hr (fun x4 hr => ?_)
      refine j_goto (pc := 21) (tgt := 4) d_Md_weight_21 ?_
      exact mJ_weak (ls' := [(2, v0), (0, v1), (0, x3), (0, x4)]) (mwk_s (mwk_s (mwk_s (mwk_s mwk_n)))) (hR4 h1 _ _ hr)
theorem t_Md_weight {G : mG} (h : mH) (v0 v1 : Int) (r : mR) (hr : f_Md_weight h v0 v1 = some r) : mJM G M_Md_weight [(2, v0), (0, v1)] h r := by
  refine mJM_of (L := [(2, v0), (0, v1), (9, 0), (9, 0)]) rfl rfl rfl (Nat.le_of_ble_eq_true rfl) ?_
  unfold f_Md_weight at hr
  refine j_iconst (pc := 0) d_Md_weight_0 ?_
  refine j_istore_n (pc := 1) (ls' := [(2, v0), (0, v1), (0, 1), (9, 0)]) d_Md_weight_1 rfl ?_
  refine j_iconst (pc := 2) d_Md_weight_2 ?_
  refine j_istore_n (pc := 3) (ls' := [(2, v0), (0, v1), (0, 1), (0, 0)]) d_Md_weight_3 rfl ?_
  refine mJ_weak (ls' := [(2, v0), (0, v1), (0, 1), (0, 0)]) (mwk_s (mwk_s (mwk_s (mwk_s mwk_n)))) (t_Md_weight_L4  _ _ _ _ hr)
def M_Md_lays : mM := ("NineBarsModel", ⟨"NineBarsModel", "lays", "(I)V"⟩, prog_13_method_36_code, 4, none, [], 3)
theorem tb_co_Md_lays : mTB (Cond.code ⟨"NineBarsModel", "lays", "(I)V"⟩ prog_13_method_36_code 4 (none)) := tbq8 112 (by decide +kernel) rfl
theorem mc_Md_lays {M : mM} (hd : 3 < mDp M) : mCal M M_Md_lays 1 := ⟨tb_co_Md_lays, tb_in_NineBarsModel, ⟨by decide +kernel, by decide +kernel⟩, by decide +kernel, hd, by decide⟩
theorem d_Md_lays_0 : decode prog_13_method_36_code 0 = .ok (.iload_n 1, 1) := by decide +kernel
theorem d_Md_lays_1 : decode prog_13_method_36_code 1 = .ok (.istore_n 2, 1) := by decide +kernel
theorem d_Md_lays_2 : decode prog_13_method_36_code 2 = .ok (.iconst 0, 1) := by decide +kernel
theorem d_Md_lays_3 : decode prog_13_method_36_code 3 = .ok (.istore_n 3, 1) := by decide +kernel
theorem d_Md_lays_4 : decode prog_13_method_36_code 4 = .ok (.iload_n 3, 1) := by decide +kernel
theorem d_Md_lays_5 : decode prog_13_method_36_code 5 = .ok (.aload_n 0, 1) := by decide +kernel
theorem d_Md_lays_6 : decode prog_13_method_36_code 6 = .ok (.invokevirtual 210, 3) := by decide +kernel
theorem d_Md_lays_9 : decode prog_13_method_36_code 9 = .ok (.if_icmp .ge 32, 3) := by decide +kernel
theorem d_Md_lays_41 : decode prog_13_method_36_code 41 = .ok (.return_, 1) := by decide +kernel
theorem d_Md_lays_12 : decode prog_13_method_36_code 12 = .ok (.aload_n 0, 1) := by decide +kernel
theorem d_Md_lays_13 : decode prog_13_method_36_code 13 = .ok (.getfield 33, 3) := by decide +kernel
theorem d_Md_lays_16 : decode prog_13_method_36_code 16 = .ok (.iload_n 3, 1) := by decide +kernel
theorem d_Md_lays_17 : decode prog_13_method_36_code 17 = .ok (.iload_n 2, 1) := by decide +kernel
theorem d_Md_lays_18 : decode prog_13_method_36_code 18 = .ok (.aload_n 0, 1) := by decide +kernel
theorem d_Md_lays_19 : decode prog_13_method_36_code 19 = .ok (.iload_n 3, 1) := by decide +kernel
theorem d_Md_lays_20 : decode prog_13_method_36_code 20 = .ok (.iconst 0, 1) := by decide +kernel
theorem d_Md_lays_21 : decode prog_13_method_36_code 21 = .ok (.invokevirtual 213, 3) := by decide +kernel
theorem d_Md_lays_24 : decode prog_13_method_36_code 24 = .ok (.irem, 1) := by decide +kernel
theorem d_Md_lays_25 : decode prog_13_method_36_code 25 = .ok (.iastore, 1) := by decide +kernel
theorem d_Md_lays_26 : decode prog_13_method_36_code 26 = .ok (.iload_n 2, 1) := by decide +kernel
theorem d_Md_lays_27 : decode prog_13_method_36_code 27 = .ok (.aload_n 0, 1) := by decide +kernel
theorem d_Md_lays_28 : decode prog_13_method_36_code 28 = .ok (.iload_n 3, 1) := by decide +kernel
theorem d_Md_lays_29 : decode prog_13_method_36_code 29 = .ok (.iconst 0, 1) := by decide +kernel
theorem d_Md_lays_30 : decode prog_13_method_36_code 30 = .ok (.invokevirtual 213, 3) := by decide +kernel
theorem d_Md_lays_33 : decode prog_13_method_36_code 33 = .ok (.idiv, 1) := by decide +kernel
theorem d_Md_lays_34 : decode prog_13_method_36_code 34 = .ok (.istore_n 2, 1) := by decide +kernel
theorem d_Md_lays_35 : decode prog_13_method_36_code 35 = .ok (.iinc 3 1, 3) := by decide +kernel
theorem d_Md_lays_38 : decode prog_13_method_36_code 38 = .ok (.goto (-34), 3) := by decide +kernel
theorem t_Md_lays_L4 {G : mG} {r : mR} {v0 : Int}  : ∀ (n : Nat) (h : mH) (v2 v3 : Int), f_Md_lays_L4 v0 n h v2 v3 = some r → mJ G M_Md_lays 4 [(2, v0), (9, 0), (0, v2), (0, v3)] [] h r := by
  intro n
  induction n with
  | zero =>
    intro h v2 v3 hr
    rw [f_Md_lays_L4] at hr
    cases hr
  | succ n hR4 =>
    intro h v2 v3 hr
    rw [f_Md_lays_L4] at hr
    refine j_iload_n (pc := 4) d_Md_lays_4 rfl ?_
    refine j_aload_n (pc := 5) d_Md_lays_5 rfl ?_
    obtain ⟨ha, hr⟩ := chk_some hr
    refine j_callG (pc := 6) (stk := [(2, v0), (0, v3)]) (as := [(2, v0)]) (P := (fun v9 => ((0 : Nat), v9) :: [(0, v3)])) (tg := 0) (My := M_Md_bars) (mRunV (as := []) (st := [(0, v3)]) d_Md_lays_6 (mc_Md_bars (by decide)) rfl (mv_Md_bars tb_ml_Md_210) rfl (Nat.le_of_ble_eq_true rfl) ha) (fun v => rfl) rfl hr (fun r1 h1 => t_Md_bars _ _ _ h1) (fun x2 h1 hr => ?_)
    refine j_icmp_ge (pc := 9) (tgt := 41) d_Md_lays_9 hr (fun hr => ?_) (fun hr => ?_)
    · exact j_vret (pc := 41) d_Md_lays_41 rfl hr
    · refine j_aload_n (pc := 12) d_Md_lays_12 rfl ?_
      refine j_getf (pc := 13) d_Md_lays_13 (fd_Md_33 rfl) hr (fun hr => ?_)
      refine j_iload_n (pc := 16) d_Md_lays_16 rfl ?_
      refine j_iload_n (pc := 17) d_Md_lays_17 rfl ?_
      refine j_aload_n (pc := 18) d_Md_lays_18 rfl ?_
      refine j_iload_n (pc := 19) d_Md_lays_19 rfl ?_
      refine j_iconst (pc := 20) d_Md_lays_20 ?_
      obtain ⟨ha, hr⟩ := chk_some hr
      refine j_callG (pc := 21) (stk := [(0, 0), (0, v3), (2, v0), (0, v2), (0, v3), (2, hpV h1 v0 17)]) (as := [(2, v0), (0, v3), (0, 0)]) (P := (fun v9 => ((0 : Nat), v9) :: [(0, v2), (0, v3), (2, hpV h1 v0 17)])) (tg := 0) (My := M_Md_of) (mRunV (as := [(0, v3), (0, 0)]) (st := [(0, v2), (0, v3), (2, hpV h1 v0 17)]) d_Md_lays_21 (mc_Md_of (by decide)) rfl (mv_Md_of tb_ml_Md_213) rfl (Nat.le_of_ble_eq_true rfl) ha) (fun v => rfl) rfl hr (fun r1 h1 => t_Md_of _ _ _ _ _ h1) (fun x4 h3 hr => ?_)
      refine j_irem (pc := 24) d_Md_lays_24 hr (fun hr => ?_)
      refine j_iastore (pc := 25) d_Md_lays_25 hr (fun h5 hr => ?_)
      refine j_iload_n (pc := 26) d_Md_lays_26 rfl ?_
      refine j_aload_n (pc := 27) d_Md_lays_27 rfl ?_
      refine j_iload_n (pc := 28) d_Md_lays_28 rfl ?_
      refine j_iconst (pc := 29) d_Md_lays_29 ?_
      obtain ⟨ha, hr⟩ := chk_some hr
      refine j_callG (pc := 30) (stk := [(0, 0), (0, v3), (2, v0), (0, v2)]) (as := [(2, v0), (0, v3), (0, 0)]) (P := (fun v9 => ((0 : Nat), v9) :: [(0, v2)])) (tg := 0) (My := M_Md_of) (mRunV (as := [(0, v3), (0, 0)]) (st := [(0, v2)]) d_Md_lays_30 (mc_Md_of (by decide)) rfl (mv_Md_of tb_ml_Md_213) rfl (Nat.le_of_ble_eq_true rfl) ha) (fun v => rfl) rfl hr (fun r1 h1 => t_Md_of _ _ _ _ _ h1) (fun x7 h6 hr => ?_)
      refine j_idiv (pc := 33) d_Md_lays_33 hr (fun hr => ?_)
      refine j_istoreW_n (pc := 34) (L := fun x8 => [(2, v0), (9, 0), (0, x8), (0, v3)]) d_Md_lays_34 (fun _ => rfl) hr (fun x8 hr => ?_)
      refine j_iincW (pc := 35) (L := fun x9 => [(2, v0), (9, 0), (0, x8), (0, x9)]) d_Md_lays_35 rfl (fun _ => rfl) hr (fun x9 hr => ?_)
      refine j_goto (pc := 38) (tgt := 4) d_Md_lays_38 ?_
      exact mJ_weak (ls' := [(2, v0), (9, 0), (0, x8), (0, x9)]) (mwk_s (mwk_s (mwk_s (mwk_s mwk_n)))) (hR4 h6 _ _ hr)
theorem t_Md_lays {G : mG} (h : mH) (v0 v1 : Int) (r : mR) (hr : f_Md_lays h v0 v1 = some r) : mJM G M_Md_lays [(2, v0), (0, v1)] h r := by
  refine mJM_of (L := [(2, v0), (0, v1), (9, 0), (9, 0)]) rfl rfl rfl (Nat.le_of_ble_eq_true rfl) ?_
  unfold f_Md_lays at hr
  refine j_iload_n (pc := 0) d_Md_lays_0 rfl ?_
  refine j_istore_n (pc := 1) (ls' := [(2, v0), (0, v1), (0, v1), (9, 0)]) d_Md_lays_1 rfl ?_
  refine j_iconst (pc := 2) d_Md_lays_2 ?_
  refine j_istore_n (pc := 3) (ls' := [(2, v0), (0, v1), (0, v1), (0, 0)]) d_Md_lays_3 rfl ?_
  refine mJ_weak (ls' := [(2, v0), (9, 0), (0, v1), (0, 0)]) (mwk_s (mwk_d (mwk_s (mwk_s mwk_n)))) (t_Md_lays_L4  _ _ _ _ hr)
def M_Md_isTrue : mM := ("NineBarsModel", ⟨"NineBarsModel", "isTrue", "([III)Z"⟩, prog_13_method_37_code, 3, some .boolean, [], 1)
theorem tb_co_Md_isTrue : mTB (Cond.code ⟨"NineBarsModel", "isTrue", "([III)Z"⟩ prog_13_method_37_code 3 (some .boolean)) := tbq7 225 (by decide +kernel) rfl
theorem mc_Md_isTrue {M : mM} (hd : 1 < mDp M) : mCal M M_Md_isTrue 3 := ⟨tb_co_Md_isTrue, tb_in_NineBarsModel, ⟨by decide +kernel, by decide +kernel⟩, by decide +kernel, hd, by decide⟩
theorem d_Md_isTrue_0 : decode prog_13_method_37_code 0 = .ok (.iload_n 2, 1) := by decide +kernel
theorem d_Md_isTrue_1 : decode prog_13_method_37_code 1 = .ok (.aload_n 0, 1) := by decide +kernel
theorem d_Md_isTrue_2 : decode prog_13_method_37_code 2 = .ok (.iload_n 1, 1) := by decide +kernel
theorem d_Md_isTrue_3 : decode prog_13_method_37_code 3 = .ok (.iconst 2, 1) := by decide +kernel
theorem d_Md_isTrue_4 : decode prog_13_method_37_code 4 = .ok (.iadd, 1) := by decide +kernel
theorem d_Md_isTrue_5 : decode prog_13_method_37_code 5 = .ok (.iaload, 1) := by decide +kernel
theorem d_Md_isTrue_6 : decode prog_13_method_37_code 6 = .ok (.if_icmp .ne 7, 3) := by decide +kernel
theorem d_Md_isTrue_13 : decode prog_13_method_37_code 13 = .ok (.iconst 0, 1) := by decide +kernel
theorem d_Md_isTrue_14 : decode prog_13_method_37_code 14 = .ok (.aload_n 0, 1) := by decide +kernel
theorem d_Md_isTrue_15 : decode prog_13_method_37_code 15 = .ok (.iload_n 1, 1) := by decide +kernel
theorem d_Md_isTrue_16 : decode prog_13_method_37_code 16 = .ok (.iconst 1, 1) := by decide +kernel
theorem d_Md_isTrue_17 : decode prog_13_method_37_code 17 = .ok (.iadd, 1) := by decide +kernel
theorem d_Md_isTrue_18 : decode prog_13_method_37_code 18 = .ok (.iaload, 1) := by decide +kernel
theorem d_Md_isTrue_19 : decode prog_13_method_37_code 19 = .ok (.ifCond .ne 7, 3) := by decide +kernel
theorem d_Md_isTrue_26 : decode prog_13_method_37_code 26 = .ok (.iconst 0, 1) := by decide +kernel
theorem d_Md_isTrue_27 : decode prog_13_method_37_code 27 = .ok (.if_icmp .ne 7, 3) := by decide +kernel
theorem d_Md_isTrue_34 : decode prog_13_method_37_code 34 = .ok (.iconst 0, 1) := by decide +kernel
theorem d_Md_isTrue_35 : decode prog_13_method_37_code 35 = .ok (.ireturn, 1) := by decide +kernel
theorem d_Md_isTrue_30 : decode prog_13_method_37_code 30 = .ok (.iconst 1, 1) := by decide +kernel
theorem d_Md_isTrue_31 : decode prog_13_method_37_code 31 = .ok (.goto 4, 3) := by decide +kernel
theorem d_Md_isTrue_22 : decode prog_13_method_37_code 22 = .ok (.iconst 1, 1) := by decide +kernel
theorem d_Md_isTrue_23 : decode prog_13_method_37_code 23 = .ok (.goto 4, 3) := by decide +kernel
theorem d_Md_isTrue_9 : decode prog_13_method_37_code 9 = .ok (.iconst 1, 1) := by decide +kernel
theorem d_Md_isTrue_10 : decode prog_13_method_37_code 10 = .ok (.goto 4, 3) := by decide +kernel
theorem t_Md_isTrue_J27 {G : mG} {r : mR} {s0 s1 : Int} {h : mH}  (hr : f_Md_isTrue_J27 s0 s1 h = some r) : mJ G M_Md_isTrue 27 [(9, 0), (9, 0), (9, 0)] [(0, s1), (0, s0)] h r := by
  unfold f_Md_isTrue_J27 at hr
  refine j_icmp_ne (pc := 27) (tgt := 34) d_Md_isTrue_27 hr (fun hr => ?_) (fun hr => ?_)
  · refine j_iconst (pc := 34) d_Md_isTrue_34 ?_
    exact j_zret (pc := 35) d_Md_isTrue_35 rfl hr
  · refine j_iconst (pc := 30) d_Md_isTrue_30 ?_
    refine j_goto (pc := 31) (tgt := 35) d_Md_isTrue_31 ?_
    exact j_zret (pc := 35) d_Md_isTrue_35 rfl hr
theorem t_Md_isTrue_J14 {G : mG} {r : mR} {v0 v1 s0 : Int} {h : mH}  (hr : f_Md_isTrue_J14 v0 v1 s0 h = some r) : mJ G M_Md_isTrue 14 [(2, v0), (0, v1), (9, 0)] [(0, s0)] h r := by
  unfold f_Md_isTrue_J14 at hr
  refine j_aload_n (pc := 14) d_Md_isTrue_14 rfl ?_
  refine j_iload_n (pc := 15) d_Md_isTrue_15 rfl ?_
  refine j_iconst (pc := 16) d_Md_isTrue_16 ?_
  refine j_iadd (pc := 17) d_Md_isTrue_17 ?_
  refine j_iaload (pc := 18) d_Md_isTrue_18 hr (fun hr => ?_)
  refine j_if_ne (pc := 19) (tgt := 26) d_Md_isTrue_19 hr (fun hr => ?_) (fun hr => ?_)
  · refine j_iconst (pc := 26) d_Md_isTrue_26 ?_
    exact mJ_weak (ls' := [(9, 0), (9, 0), (9, 0)]) (mwk_d (mwk_d (mwk_s mwk_n))) (t_Md_isTrue_J27  hr)
  · refine j_iconst (pc := 22) d_Md_isTrue_22 ?_
    refine j_goto (pc := 23) (tgt := 27) d_Md_isTrue_23 ?_
    exact mJ_weak (ls' := [(9, 0), (9, 0), (9, 0)]) (mwk_d (mwk_d (mwk_s mwk_n))) (t_Md_isTrue_J27  hr)
theorem t_Md_isTrue {G : mG} (h : mH) (v0 v1 v2 : Int) (r : mR) (hr : f_Md_isTrue h v0 v1 v2 = some r) : mJM G M_Md_isTrue [(2, v0), (0, v1), (0, v2)] h r := by
  refine mJM_of (L := [(2, v0), (0, v1), (0, v2)]) rfl rfl rfl (Nat.le_of_ble_eq_true rfl) ?_
  unfold f_Md_isTrue at hr
  refine j_iload_n (pc := 0) d_Md_isTrue_0 rfl ?_
  refine j_aload_n (pc := 1) d_Md_isTrue_1 rfl ?_
  refine j_iload_n (pc := 2) d_Md_isTrue_2 rfl ?_
  refine j_iconst (pc := 3) d_Md_isTrue_3 ?_
  refine j_iadd (pc := 4) d_Md_isTrue_4 ?_
  refine j_iaload (pc := 5) d_Md_isTrue_5 hr (fun hr => ?_)
  refine j_icmp_ne (pc := 6) (tgt := 13) d_Md_isTrue_6 hr (fun hr => ?_) (fun hr => ?_)
  · refine j_iconst (pc := 13) d_Md_isTrue_13 ?_
    exact mJ_weak (ls' := [(2, v0), (0, v1), (9, 0)]) (mwk_s (mwk_s (mwk_d mwk_n))) (t_Md_isTrue_J14  hr)
  · refine j_iconst (pc := 9) d_Md_isTrue_9 ?_
    refine j_goto (pc := 10) (tgt := 14) d_Md_isTrue_10 ?_
    exact mJ_weak (ls' := [(2, v0), (0, v1), (9, 0)]) (mwk_s (mwk_s (mwk_d mwk_n))) (t_Md_isTrue_J14  hr)
def M_Md_holds : mM := ("NineBarsModel", ⟨"NineBarsModel", "holds", "([II)Z"⟩, prog_13_method_38_code, 4, some .boolean, [], 3)
theorem tb_co_Md_holds : mTB (Cond.code ⟨"NineBarsModel", "holds", "([II)Z"⟩ prog_13_method_38_code 4 (some .boolean)) := tbq7 222 (by decide +kernel) rfl
theorem mc_Md_holds {M : mM} (hd : 3 < mDp M) : mCal M M_Md_holds 2 := ⟨tb_co_Md_holds, tb_in_NineBarsModel, ⟨by decide +kernel, by decide +kernel⟩, by decide +kernel, hd, by decide⟩
theorem d_Md_holds_0 : decode prog_13_method_38_code 0 = .ok (.iconst 0, 1) := by decide +kernel
theorem d_Md_holds_1 : decode prog_13_method_38_code 1 = .ok (.istore_n 3, 1) := by decide +kernel
theorem d_Md_holds_2 : decode prog_13_method_38_code 2 = .ok (.iload_n 3, 1) := by decide +kernel
theorem d_Md_holds_3 : decode prog_13_method_38_code 3 = .ok (.aload_n 1, 1) := by decide +kernel
theorem d_Md_holds_4 : decode prog_13_method_38_code 4 = .ok (.iload_n 2, 1) := by decide +kernel
theorem d_Md_holds_5 : decode prog_13_method_38_code 5 = .ok (.iconst 3, 1) := by decide +kernel
theorem d_Md_holds_6 : decode prog_13_method_38_code 6 = .ok (.iadd, 1) := by decide +kernel
theorem d_Md_holds_7 : decode prog_13_method_38_code 7 = .ok (.iaload, 1) := by decide +kernel
theorem d_Md_holds_8 : decode prog_13_method_38_code 8 = .ok (.if_icmp .ge 39, 3) := by decide +kernel
theorem d_Md_holds_47 : decode prog_13_method_38_code 47 = .ok (.iconst 1, 1) := by decide +kernel
theorem d_Md_holds_48 : decode prog_13_method_38_code 48 = .ok (.ireturn, 1) := by decide +kernel
theorem d_Md_holds_11 : decode prog_13_method_38_code 11 = .ok (.aload_n 1, 1) := by decide +kernel
theorem d_Md_holds_12 : decode prog_13_method_38_code 12 = .ok (.iload_n 2, 1) := by decide +kernel
theorem d_Md_holds_13 : decode prog_13_method_38_code 13 = .ok (.iconst 4, 1) := by decide +kernel
theorem d_Md_holds_14 : decode prog_13_method_38_code 14 = .ok (.iadd, 1) := by decide +kernel
theorem d_Md_holds_15 : decode prog_13_method_38_code 15 = .ok (.iconst 3, 1) := by decide +kernel
theorem d_Md_holds_16 : decode prog_13_method_38_code 16 = .ok (.iload_n 3, 1) := by decide +kernel
theorem d_Md_holds_17 : decode prog_13_method_38_code 17 = .ok (.imul, 1) := by decide +kernel
theorem d_Md_holds_18 : decode prog_13_method_38_code 18 = .ok (.iadd, 1) := by decide +kernel
theorem d_Md_holds_19 : decode prog_13_method_38_code 19 = .ok (.aload_n 0, 1) := by decide +kernel
theorem d_Md_holds_20 : decode prog_13_method_38_code 20 = .ok (.getfield 33, 3) := by decide +kernel
theorem d_Md_holds_23 : decode prog_13_method_38_code 23 = .ok (.aload_n 1, 1) := by decide +kernel
theorem d_Md_holds_24 : decode prog_13_method_38_code 24 = .ok (.iload_n 2, 1) := by decide +kernel
theorem d_Md_holds_25 : decode prog_13_method_38_code 25 = .ok (.iconst 4, 1) := by decide +kernel
theorem d_Md_holds_26 : decode prog_13_method_38_code 26 = .ok (.iadd, 1) := by decide +kernel
theorem d_Md_holds_27 : decode prog_13_method_38_code 27 = .ok (.iconst 3, 1) := by decide +kernel
theorem d_Md_holds_28 : decode prog_13_method_38_code 28 = .ok (.iload_n 3, 1) := by decide +kernel
theorem d_Md_holds_29 : decode prog_13_method_38_code 29 = .ok (.imul, 1) := by decide +kernel
theorem d_Md_holds_30 : decode prog_13_method_38_code 30 = .ok (.iadd, 1) := by decide +kernel
theorem d_Md_holds_31 : decode prog_13_method_38_code 31 = .ok (.iaload, 1) := by decide +kernel
theorem d_Md_holds_32 : decode prog_13_method_38_code 32 = .ok (.iaload, 1) := by decide +kernel
theorem d_Md_holds_33 : decode prog_13_method_38_code 33 = .ok (.invokestatic 222, 3) := by decide +kernel
theorem tb_ml_Md_222 : mTB (Cond.methodLink "NineBarsModel" 222 ⟨"NineBarsModel", "isTrue", "([III)Z"⟩) := tbq7 223 (by decide +kernel) rfl
theorem tb_sm_Md_isTrue : mTB (Cond.static ⟨"NineBarsModel", "isTrue", "([III)Z"⟩) := tbq7 224 (by decide +kernel) rfl
theorem d_Md_holds_36 : decode prog_13_method_38_code 36 = .ok (.ifCond .ne 5, 3) := by decide +kernel
theorem d_Md_holds_41 : decode prog_13_method_38_code 41 = .ok (.iinc 3 1, 3) := by decide +kernel
theorem d_Md_holds_44 : decode prog_13_method_38_code 44 = .ok (.goto (-42), 3) := by decide +kernel
theorem d_Md_holds_39 : decode prog_13_method_38_code 39 = .ok (.iconst 0, 1) := by decide +kernel
theorem d_Md_holds_40 : decode prog_13_method_38_code 40 = .ok (.ireturn, 1) := by decide +kernel
theorem t_Md_holds_L2 {G : mG} {r : mR} {v0 v1 v2 : Int}  : ∀ (n : Nat) (h : mH) (v3 : Int), f_Md_holds_L2 v0 v1 v2 n h v3 = some r → mJ G M_Md_holds 2 [(2, v0), (2, v1), (0, v2), (0, v3)] [] h r := by
  intro n
  induction n with
  | zero =>
    intro h v3 hr
    rw [f_Md_holds_L2] at hr
    cases hr
  | succ n hR2 =>
    intro h v3 hr
    rw [f_Md_holds_L2] at hr
    refine j_iload_n (pc := 2) d_Md_holds_2 rfl ?_
    refine j_aload_n (pc := 3) d_Md_holds_3 rfl ?_
    refine j_iload_n (pc := 4) d_Md_holds_4 rfl ?_
    refine j_iconst (pc := 5) d_Md_holds_5 ?_
    refine j_iadd (pc := 6) d_Md_holds_6 ?_
    refine j_iaload (pc := 7) d_Md_holds_7 hr (fun hr => ?_)
    refine j_icmp_ge (pc := 8) (tgt := 47) d_Md_holds_8 hr (fun hr => ?_) (fun hr => ?_)
    · refine j_iconst (pc := 47) d_Md_holds_47 ?_
      exact j_zret (pc := 48) d_Md_holds_48 rfl hr
    · refine j_aload_n (pc := 11) d_Md_holds_11 rfl ?_
      refine j_iload_n (pc := 12) d_Md_holds_12 rfl ?_
      refine j_iconst (pc := 13) d_Md_holds_13 ?_
      refine j_iadd (pc := 14) d_Md_holds_14 ?_
      refine j_iconst (pc := 15) d_Md_holds_15 ?_
      refine j_iload_n (pc := 16) d_Md_holds_16 rfl ?_
      refine j_imul (pc := 17) d_Md_holds_17 ?_
      refine j_iadd (pc := 18) d_Md_holds_18 ?_
      refine j_aload_n (pc := 19) d_Md_holds_19 rfl ?_
      refine j_getf (pc := 20) d_Md_holds_20 (fd_Md_33 rfl) hr (fun hr => ?_)
      refine j_aload_n (pc := 23) d_Md_holds_23 rfl ?_
      refine j_iload_n (pc := 24) d_Md_holds_24 rfl ?_
      refine j_iconst (pc := 25) d_Md_holds_25 ?_
      refine j_iadd (pc := 26) d_Md_holds_26 ?_
      refine j_iconst (pc := 27) d_Md_holds_27 ?_
      refine j_iload_n (pc := 28) d_Md_holds_28 rfl ?_
      refine j_imul (pc := 29) d_Md_holds_29 ?_
      refine j_iadd (pc := 30) d_Md_holds_30 ?_
      refine j_iaload (pc := 31) d_Md_holds_31 hr (fun hr => ?_)
      refine j_iaload (pc := 32) d_Md_holds_32 hr (fun hr => ?_)
      refine j_callG (pc := 33) (stk := [(0, hpV h (hpV h v0 17) (hpV h v1 (w32 ((w32 (v2 + 4)) + (w32 (3 * v3)))))), (0, w32 ((w32 (v2 + 4)) + (w32 (3 * v3)))), (2, v1)]) (as := [(2, v1), (0, w32 ((w32 (v2 + 4)) + (w32 (3 * v3)))), (0, hpV h (hpV h v0 17) (hpV h v1 (w32 ((w32 (v2 + 4)) + (w32 (3 * v3))))))]) (P := (fun v9 => ((0 : Nat), v9) :: [])) (tg := 0) (My := M_Md_isTrue) (mRunS (as := [(2, v1), (0, w32 ((w32 (v2 + 4)) + (w32 (3 * v3)))), (0, hpV h (hpV h v0 17) (hpV h v1 (w32 ((w32 (v2 + 4)) + (w32 (3 * v3))))))]) (st := []) d_Md_holds_33 (mc_Md_isTrue (by decide)) rfl ⟨tb_ml_Md_222, tb_sm_Md_isTrue⟩ rfl (Nat.le_of_ble_eq_true rfl)) (fun v => rfl) rfl hr (fun r1 h1 => t_Md_isTrue _ _ _ _ _ h1) (fun x2 h1 hr => ?_)
      refine j_if_ne (pc := 36) (tgt := 41) d_Md_holds_36 hr (fun hr => ?_) (fun hr => ?_)
      · refine j_iincW (pc := 41) (L := fun x3 => [(2, v0), (2, v1), (0, v2), (0, x3)]) d_Md_holds_41 rfl (fun _ => rfl) hr (fun x3 hr => ?_)
        refine j_goto (pc := 44) (tgt := 2) d_Md_holds_44 ?_
        exact mJ_weak (ls' := [(2, v0), (2, v1), (0, v2), (0, x3)]) (mwk_s (mwk_s (mwk_s (mwk_s mwk_n)))) (hR2 h1 _ hr)
      · refine j_iconst (pc := 39) d_Md_holds_39 ?_
        exact j_zret (pc := 40) d_Md_holds_40 rfl hr
theorem t_Md_holds {G : mG} (h : mH) (v0 v1 v2 : Int) (r : mR) (hr : f_Md_holds h v0 v1 v2 = some r) : mJM G M_Md_holds [(2, v0), (2, v1), (0, v2)] h r := by
  refine mJM_of (L := [(2, v0), (2, v1), (0, v2), (9, 0)]) rfl rfl rfl (Nat.le_of_ble_eq_true rfl) ?_
  unfold f_Md_holds at hr
  refine j_iconst (pc := 0) d_Md_holds_0 ?_
  refine j_istore_n (pc := 1) (ls' := [(2, v0), (2, v1), (0, v2), (0, 0)]) d_Md_holds_1 rfl ?_
  refine mJ_weak (ls' := [(2, v0), (2, v1), (0, v2), (0, 0)]) (mwk_s (mwk_s (mwk_s (mwk_s mwk_n)))) (t_Md_holds_L2  _ _ _ hr)
def M_Md_isFree : mM := ("NineBarsModel", ⟨"NineBarsModel", "isFree", "(I)Z"⟩, prog_13_method_39_code, 3, some .boolean, [], 1)
theorem tb_co_Md_isFree : mTB (Cond.code ⟨"NineBarsModel", "isFree", "(I)Z"⟩ prog_13_method_39_code 3 (some .boolean)) := tbq8 41 (by decide +kernel) rfl
theorem mc_Md_isFree {M : mM} (hd : 1 < mDp M) : mCal M M_Md_isFree 1 := ⟨tb_co_Md_isFree, tb_in_NineBarsModel, ⟨by decide +kernel, by decide +kernel⟩, by decide +kernel, hd, by decide⟩
theorem d_Md_isFree_0 : decode prog_13_method_39_code 0 = .ok (.iconst 0, 1) := by decide +kernel
theorem d_Md_isFree_1 : decode prog_13_method_39_code 1 = .ok (.istore_n 2, 1) := by decide +kernel
theorem d_Md_isFree_2 : decode prog_13_method_39_code 2 = .ok (.iload_n 2, 1) := by decide +kernel
theorem d_Md_isFree_3 : decode prog_13_method_39_code 3 = .ok (.iload_n 1, 1) := by decide +kernel
theorem d_Md_isFree_4 : decode prog_13_method_39_code 4 = .ok (.iconst 1, 1) := by decide +kernel
theorem d_Md_isFree_5 : decode prog_13_method_39_code 5 = .ok (.isub, 1) := by decide +kernel
theorem d_Md_isFree_6 : decode prog_13_method_39_code 6 = .ok (.if_icmp .ge 20, 3) := by decide +kernel
theorem d_Md_isFree_9 : decode prog_13_method_39_code 9 = .ok (.aload_n 0, 1) := by decide +kernel
theorem d_Md_isFree_10 : decode prog_13_method_39_code 10 = .ok (.getfield 33, 3) := by decide +kernel
theorem d_Md_isFree_13 : decode prog_13_method_39_code 13 = .ok (.iload_n 2, 1) := by decide +kernel
theorem d_Md_isFree_14 : decode prog_13_method_39_code 14 = .ok (.iaload, 1) := by decide +kernel
theorem d_Md_isFree_15 : decode prog_13_method_39_code 15 = .ok (.ifCond .eq 5, 3) := by decide +kernel
theorem d_Md_isFree_20 : decode prog_13_method_39_code 20 = .ok (.iinc 2 1, 3) := by decide +kernel
theorem d_Md_isFree_23 : decode prog_13_method_39_code 23 = .ok (.goto (-21), 3) := by decide +kernel
theorem d_Md_isFree_18 : decode prog_13_method_39_code 18 = .ok (.iconst 0, 1) := by decide +kernel
theorem d_Md_isFree_19 : decode prog_13_method_39_code 19 = .ok (.ireturn, 1) := by decide +kernel
theorem d_Md_isFree_26 : decode prog_13_method_39_code 26 = .ok (.iload_n 1, 1) := by decide +kernel
theorem d_Md_isFree_27 : decode prog_13_method_39_code 27 = .ok (.ifCond .eq 15, 3) := by decide +kernel
theorem d_Md_isFree_42 : decode prog_13_method_39_code 42 = .ok (.iconst 1, 1) := by decide +kernel
theorem d_Md_isFree_43 : decode prog_13_method_39_code 43 = .ok (.goto 4, 3) := by decide +kernel
theorem d_Md_isFree_47 : decode prog_13_method_39_code 47 = .ok (.ireturn, 1) := by decide +kernel
theorem d_Md_isFree_30 : decode prog_13_method_39_code 30 = .ok (.aload_n 0, 1) := by decide +kernel
theorem d_Md_isFree_31 : decode prog_13_method_39_code 31 = .ok (.getfield 33, 3) := by decide +kernel
theorem d_Md_isFree_34 : decode prog_13_method_39_code 34 = .ok (.iload_n 1, 1) := by decide +kernel
theorem d_Md_isFree_35 : decode prog_13_method_39_code 35 = .ok (.iconst 1, 1) := by decide +kernel
theorem d_Md_isFree_36 : decode prog_13_method_39_code 36 = .ok (.isub, 1) := by decide +kernel
theorem d_Md_isFree_37 : decode prog_13_method_39_code 37 = .ok (.iaload, 1) := by decide +kernel
theorem d_Md_isFree_38 : decode prog_13_method_39_code 38 = .ok (.iconst 1, 1) := by decide +kernel
theorem d_Md_isFree_39 : decode prog_13_method_39_code 39 = .ok (.if_icmp .ne 7, 3) := by decide +kernel
theorem d_Md_isFree_46 : decode prog_13_method_39_code 46 = .ok (.iconst 0, 1) := by decide +kernel
theorem t_Md_isFree_L2 {G : mG} {r : mR} {v0 v1 : Int} {K26 : mH → Option mR} (hK26 : ∀ (h : mH) , K26 h  = some r → mJ G M_Md_isFree 26 [(2, v0), (0, v1), (9, 0)] [] h r) : ∀ (n : Nat) (h : mH) (v2 : Int), f_Md_isFree_L2 K26 v0 v1 n h v2 = some r → mJ G M_Md_isFree 2 [(2, v0), (0, v1), (0, v2)] [] h r := by
  intro n
  induction n with
  | zero =>
    intro h v2 hr
    rw [f_Md_isFree_L2] at hr
    cases hr
  | succ n hR2 =>
    intro h v2 hr
    rw [f_Md_isFree_L2] at hr
    refine j_iload_n (pc := 2) d_Md_isFree_2 rfl ?_
    refine j_iload_n (pc := 3) d_Md_isFree_3 rfl ?_
    refine j_iconst (pc := 4) d_Md_isFree_4 ?_
    refine j_isub (pc := 5) d_Md_isFree_5 ?_
    refine j_icmp_ge (pc := 6) (tgt := 26) d_Md_isFree_6 hr (fun hr => ?_) (fun hr => ?_)
    · exact mJ_weak (ls' := [(2, v0), (0, v1), (9, 0)]) (mwk_s (mwk_s (mwk_d mwk_n))) (hK26 h  hr)
    · refine j_aload_n (pc := 9) d_Md_isFree_9 rfl ?_
      refine j_getf (pc := 10) d_Md_isFree_10 (fd_Md_33 rfl) hr (fun hr => ?_)
      refine j_iload_n (pc := 13) d_Md_isFree_13 rfl ?_
      refine j_iaload (pc := 14) d_Md_isFree_14 hr (fun hr => ?_)
      refine j_if_eq (pc := 15) (tgt := 20) d_Md_isFree_15 hr (fun hr => ?_) (fun hr => ?_)
      · refine j_iincW (pc := 20) (L := fun x1 => [(2, v0), (0, v1), (0, x1)]) d_Md_isFree_20 rfl (fun _ => rfl) hr (fun x1 hr => ?_)
        refine j_goto (pc := 23) (tgt := 2) d_Md_isFree_23 ?_
        exact mJ_weak (ls' := [(2, v0), (0, v1), (0, x1)]) (mwk_s (mwk_s (mwk_s mwk_n))) (hR2 h _ hr)
      · refine j_iconst (pc := 18) d_Md_isFree_18 ?_
        exact j_zret (pc := 19) d_Md_isFree_19 rfl hr
theorem t_Md_isFree_J42 {G : mG} {r : mR} {h : mH}  (hr : f_Md_isFree_J42 h = some r) : mJ G M_Md_isFree 42 [(9, 0), (9, 0), (9, 0)] [] h r := by
  unfold f_Md_isFree_J42 at hr
  refine j_iconst (pc := 42) d_Md_isFree_42 ?_
  refine j_goto (pc := 43) (tgt := 47) d_Md_isFree_43 ?_
  exact j_zret (pc := 47) d_Md_isFree_47 rfl hr
theorem t_Md_isFree {G : mG} (h : mH) (v0 v1 : Int) (r : mR) (hr : f_Md_isFree h v0 v1 = some r) : mJM G M_Md_isFree [(2, v0), (0, v1)] h r := by
  refine mJM_of (L := [(2, v0), (0, v1), (9, 0)]) rfl rfl rfl (Nat.le_of_ble_eq_true rfl) ?_
  unfold f_Md_isFree at hr
  refine j_iconst (pc := 0) d_Md_isFree_0 ?_
  refine j_istore_n (pc := 1) (ls' := [(2, v0), (0, v1), (0, 0)]) d_Md_isFree_1 rfl ?_
  refine mJ_weak (ls' := [(2, v0), (0, v1), (0, 0)]) (mwk_s (mwk_s (mwk_s mwk_n))) (t_Md_isFree_L2 (fun h1  hr => ?_) _ _ _ hr)
  · refine j_iload_n (pc := 26) d_Md_isFree_26 rfl ?_
    refine j_if_eq (pc := 27) (tgt := 42) d_Md_isFree_27 hr (fun hr => ?_) (fun hr => ?_)
    · exact mJ_weak (ls' := [(9, 0), (9, 0), (9, 0)]) (mwk_d (mwk_d (mwk_s mwk_n))) (t_Md_isFree_J42  hr)
    · refine j_aload_n (pc := 30) d_Md_isFree_30 rfl ?_
      refine j_getf (pc := 31) d_Md_isFree_31 (fd_Md_33 rfl) hr (fun hr => ?_)
      refine j_iload_n (pc := 34) d_Md_isFree_34 rfl ?_
      refine j_iconst (pc := 35) d_Md_isFree_35 ?_
      refine j_isub (pc := 36) d_Md_isFree_36 ?_
      refine j_iaload (pc := 37) d_Md_isFree_37 hr (fun hr => ?_)
      refine j_iconst (pc := 38) d_Md_isFree_38 ?_
      refine j_icmp_ne (pc := 39) (tgt := 46) d_Md_isFree_39 hr (fun hr => ?_) (fun hr => ?_)
      · refine j_iconst (pc := 46) d_Md_isFree_46 ?_
        exact j_zret (pc := 47) d_Md_isFree_47 rfl hr
      · exact mJ_weak (ls' := [(9, 0), (9, 0), (9, 0)]) (mwk_d (mwk_d (mwk_s mwk_n))) (t_Md_isFree_J42  hr)
def M_Md_whyNot : mM := ("NineBarsModel", ⟨"NineBarsModel", "whyNot", "(IZI)I"⟩, prog_13_method_40_code, 9, some .int, [], 5)
theorem tb_co_Md_whyNot : mTB (Cond.code ⟨"NineBarsModel", "whyNot", "(IZI)I"⟩ prog_13_method_40_code 9 (some .int)) := tbq8 37 (by decide +kernel) rfl
theorem mc_Md_whyNot {M : mM} (hd : 5 < mDp M) : mCal M M_Md_whyNot 3 := ⟨tb_co_Md_whyNot, tb_in_NineBarsModel, ⟨by decide +kernel, by decide +kernel⟩, by decide +kernel, hd, by decide⟩
theorem d_Md_whyNot_0 : decode prog_13_method_40_code 0 = .ok (.aload_n 0, 1) := by decide +kernel
theorem d_Md_whyNot_1 : decode prog_13_method_40_code 1 = .ok (.iload_n 1, 1) := by decide +kernel
theorem d_Md_whyNot_2 : decode prog_13_method_40_code 2 = .ok (.i2l, 1) := by decide +kernel
theorem d_Md_whyNot_3 : decode prog_13_method_40_code 3 = .ok (.invokevirtual 226, 3) := by decide +kernel
theorem tb_ml_Md_226 : mTB (Cond.methodLink "NineBarsModel" 226 ⟨"NineBarsModel", "isBar", "(J)Z"⟩) := tbq7 193 (by decide +kernel) rfl
theorem tb_im_Md_isBar : mTB (Cond.instanceMethod ⟨"NineBarsModel", "isBar", "(J)Z"⟩) := tbq7 195 (by decide +kernel) rfl
theorem tb_se_Md_isBar : mTB (Cond.selects "NineBarsModel" ⟨"NineBarsModel", "isBar", "(J)Z"⟩ ⟨"NineBarsModel", "isBar", "(J)Z"⟩) := tbqp 60 (by decide +kernel) rfl
theorem mv_Md_isBar {M : mM} {idx : Nat} (h : mTB (Cond.methodLink (mO M) idx ⟨"NineBarsModel", "isBar", "(J)Z"⟩)) : mCaV M M_Md_isBar idx 11 := ⟨h, tb_im_Md_isBar, tb_se_Md_isBar, by decide, TX11, 40, rfl⟩
theorem d_Md_whyNot_6 : decode prog_13_method_40_code 6 = .ok (.ifCond .ne 5, 3) := by decide +kernel
theorem d_Md_whyNot_11 : decode prog_13_method_40_code 11 = .ok (.aload_n 0, 1) := by decide +kernel
theorem d_Md_whyNot_12 : decode prog_13_method_40_code 12 = .ok (.getfield 33, 3) := by decide +kernel
theorem d_Md_whyNot_15 : decode prog_13_method_40_code 15 = .ok (.iload_n 1, 1) := by decide +kernel
theorem d_Md_whyNot_16 : decode prog_13_method_40_code 16 = .ok (.iaload, 1) := by decide +kernel
theorem d_Md_whyNot_17 : decode prog_13_method_40_code 17 = .ok (.istore 4, 2) := by decide +kernel
theorem d_Md_whyNot_19 : decode prog_13_method_40_code 19 = .ok (.iload_n 2, 1) := by decide +kernel
theorem d_Md_whyNot_20 : decode prog_13_method_40_code 20 = .ok (.ifCond .eq 10, 3) := by decide +kernel
theorem d_Md_whyNot_30 : decode prog_13_method_40_code 30 = .ok (.iload 4, 2) := by decide +kernel
theorem d_Md_whyNot_32 : decode prog_13_method_40_code 32 = .ok (.iconst 1, 1) := by decide +kernel
theorem d_Md_whyNot_33 : decode prog_13_method_40_code 33 = .ok (.isub, 1) := by decide +kernel
theorem d_Md_whyNot_34 : decode prog_13_method_40_code 34 = .ok (.istore 5, 2) := by decide +kernel
theorem d_Md_whyNot_36 : decode prog_13_method_40_code 36 = .ok (.iload 5, 2) := by decide +kernel
theorem d_Md_whyNot_38 : decode prog_13_method_40_code 38 = .ok (.i2l, 1) := by decide +kernel
theorem d_Md_whyNot_39 : decode prog_13_method_40_code 39 = .ok (.lconst 0, 1) := by decide +kernel
theorem d_Md_whyNot_40 : decode prog_13_method_40_code 40 = .ok (.aload_n 0, 1) := by decide +kernel
theorem d_Md_whyNot_41 : decode prog_13_method_40_code 41 = .ok (.iload_n 1, 1) := by decide +kernel
theorem d_Md_whyNot_42 : decode prog_13_method_40_code 42 = .ok (.iconst 0, 1) := by decide +kernel
theorem d_Md_whyNot_43 : decode prog_13_method_40_code 43 = .ok (.invokevirtual 213, 3) := by decide +kernel
theorem d_Md_whyNot_46 : decode prog_13_method_40_code 46 = .ok (.iconst 1, 1) := by decide +kernel
theorem d_Md_whyNot_47 : decode prog_13_method_40_code 47 = .ok (.isub, 1) := by decide +kernel
theorem d_Md_whyNot_48 : decode prog_13_method_40_code 48 = .ok (.i2l, 1) := by decide +kernel
theorem d_Md_whyNot_49 : decode prog_13_method_40_code 49 = .ok (.invokestatic 147, 3) := by decide +kernel
theorem d_Md_whyNot_52 : decode prog_13_method_40_code 52 = .ok (.ifCond .ne 5, 3) := by decide +kernel
theorem d_Md_whyNot_57 : decode prog_13_method_40_code 57 = .ok (.iload_n 1, 1) := by decide +kernel
theorem d_Md_whyNot_58 : decode prog_13_method_40_code 58 = .ok (.aload_n 0, 1) := by decide +kernel
theorem d_Md_whyNot_59 : decode prog_13_method_40_code 59 = .ok (.getfield 9, 3) := by decide +kernel
theorem d_Md_whyNot_62 : decode prog_13_method_40_code 62 = .ok (.iconst 3, 1) := by decide +kernel
theorem d_Md_whyNot_63 : decode prog_13_method_40_code 63 = .ok (.iaload, 1) := by decide +kernel
theorem d_Md_whyNot_64 : decode prog_13_method_40_code 64 = .ok (.if_icmp .ge 22, 3) := by decide +kernel
theorem d_Md_whyNot_86 : decode prog_13_method_40_code 86 = .ok (.iload_n 3, 1) := by decide +kernel
theorem d_Md_whyNot_87 : decode prog_13_method_40_code 87 = .ok (.iload_n 1, 1) := by decide +kernel
theorem d_Md_whyNot_88 : decode prog_13_method_40_code 88 = .ok (.ishr, 1) := by decide +kernel
theorem d_Md_whyNot_89 : decode prog_13_method_40_code 89 = .ok (.iconst 1, 1) := by decide +kernel
theorem d_Md_whyNot_90 : decode prog_13_method_40_code 90 = .ok (.iand, 1) := by decide +kernel
theorem d_Md_whyNot_91 : decode prog_13_method_40_code 91 = .ok (.iconst 1, 1) := by decide +kernel
theorem d_Md_whyNot_92 : decode prog_13_method_40_code 92 = .ok (.if_icmp .ne 5, 3) := by decide +kernel
theorem d_Md_whyNot_97 : decode prog_13_method_40_code 97 = .ok (.iconst 0, 1) := by decide +kernel
theorem d_Md_whyNot_98 : decode prog_13_method_40_code 98 = .ok (.istore 6, 2) := by decide +kernel
theorem d_Md_whyNot_100 : decode prog_13_method_40_code 100 = .ok (.iconst 0, 1) := by decide +kernel
theorem d_Md_whyNot_101 : decode prog_13_method_40_code 101 = .ok (.istore 7, 2) := by decide +kernel
theorem d_Md_whyNot_103 : decode prog_13_method_40_code 103 = .ok (.iload 7, 2) := by decide +kernel
theorem d_Md_whyNot_105 : decode prog_13_method_40_code 105 = .ok (.aload_n 0, 1) := by decide +kernel
theorem d_Md_whyNot_106 : decode prog_13_method_40_code 106 = .ok (.getfield 9, 3) := by decide +kernel
theorem d_Md_whyNot_109 : decode prog_13_method_40_code 109 = .ok (.iconst 2, 1) := by decide +kernel
theorem d_Md_whyNot_110 : decode prog_13_method_40_code 110 = .ok (.iaload, 1) := by decide +kernel
theorem d_Md_whyNot_111 : decode prog_13_method_40_code 111 = .ok (.if_icmp .ge 79, 3) := by decide +kernel
theorem d_Md_whyNot_114 : decode prog_13_method_40_code 114 = .ok (.bipush 41, 2) := by decide +kernel
theorem d_Md_whyNot_116 : decode prog_13_method_40_code 116 = .ok (.bipush 16, 2) := by decide +kernel
theorem d_Md_whyNot_118 : decode prog_13_method_40_code 118 = .ok (.iload 7, 2) := by decide +kernel
theorem d_Md_whyNot_120 : decode prog_13_method_40_code 120 = .ok (.imul, 1) := by decide +kernel
theorem d_Md_whyNot_121 : decode prog_13_method_40_code 121 = .ok (.iadd, 1) := by decide +kernel
theorem d_Md_whyNot_122 : decode prog_13_method_40_code 122 = .ok (.istore 8, 2) := by decide +kernel
theorem d_Md_whyNot_124 : decode prog_13_method_40_code 124 = .ok (.aload_n 0, 1) := by decide +kernel
theorem d_Md_whyNot_125 : decode prog_13_method_40_code 125 = .ok (.getfield 9, 3) := by decide +kernel
theorem d_Md_whyNot_128 : decode prog_13_method_40_code 128 = .ok (.iload 8, 2) := by decide +kernel
theorem d_Md_whyNot_130 : decode prog_13_method_40_code 130 = .ok (.iaload, 1) := by decide +kernel
theorem d_Md_whyNot_131 : decode prog_13_method_40_code 131 = .ok (.iload_n 1, 1) := by decide +kernel
theorem d_Md_whyNot_132 : decode prog_13_method_40_code 132 = .ok (.if_icmp .ne 52, 3) := by decide +kernel
theorem d_Md_whyNot_184 : decode prog_13_method_40_code 184 = .ok (.iinc 7 1, 3) := by decide +kernel
theorem d_Md_whyNot_187 : decode prog_13_method_40_code 187 = .ok (.goto (-84), 3) := by decide +kernel
theorem d_Md_whyNot_135 : decode prog_13_method_40_code 135 = .ok (.aload_n 0, 1) := by decide +kernel
theorem d_Md_whyNot_136 : decode prog_13_method_40_code 136 = .ok (.getfield 9, 3) := by decide +kernel
theorem d_Md_whyNot_139 : decode prog_13_method_40_code 139 = .ok (.iload 8, 2) := by decide +kernel
theorem d_Md_whyNot_141 : decode prog_13_method_40_code 141 = .ok (.iconst 1, 1) := by decide +kernel
theorem d_Md_whyNot_142 : decode prog_13_method_40_code 142 = .ok (.iadd, 1) := by decide +kernel
theorem d_Md_whyNot_143 : decode prog_13_method_40_code 143 = .ok (.iaload, 1) := by decide +kernel
theorem d_Md_whyNot_144 : decode prog_13_method_40_code 144 = .ok (.iload 4, 2) := by decide +kernel
theorem d_Md_whyNot_146 : decode prog_13_method_40_code 146 = .ok (.if_icmp .ne 38, 3) := by decide +kernel
theorem d_Md_whyNot_149 : decode prog_13_method_40_code 149 = .ok (.aload_n 0, 1) := by decide +kernel
theorem d_Md_whyNot_150 : decode prog_13_method_40_code 150 = .ok (.getfield 9, 3) := by decide +kernel
theorem d_Md_whyNot_153 : decode prog_13_method_40_code 153 = .ok (.iload 8, 2) := by decide +kernel
theorem d_Md_whyNot_155 : decode prog_13_method_40_code 155 = .ok (.iconst 2, 1) := by decide +kernel
theorem d_Md_whyNot_156 : decode prog_13_method_40_code 156 = .ok (.iadd, 1) := by decide +kernel
theorem d_Md_whyNot_157 : decode prog_13_method_40_code 157 = .ok (.iaload, 1) := by decide +kernel
theorem d_Md_whyNot_158 : decode prog_13_method_40_code 158 = .ok (.iload 5, 2) := by decide +kernel
theorem d_Md_whyNot_160 : decode prog_13_method_40_code 160 = .ok (.if_icmp .eq 6, 3) := by decide +kernel
theorem d_Md_whyNot_166 : decode prog_13_method_40_code 166 = .ok (.iconst 1, 1) := by decide +kernel
theorem d_Md_whyNot_167 : decode prog_13_method_40_code 167 = .ok (.istore 6, 2) := by decide +kernel
theorem d_Md_whyNot_169 : decode prog_13_method_40_code 169 = .ok (.aload_n 0, 1) := by decide +kernel
theorem d_Md_whyNot_170 : decode prog_13_method_40_code 170 = .ok (.aload_n 0, 1) := by decide +kernel
theorem d_Md_whyNot_171 : decode prog_13_method_40_code 171 = .ok (.getfield 9, 3) := by decide +kernel
theorem d_Md_whyNot_174 : decode prog_13_method_40_code 174 = .ok (.iload 8, 2) := by decide +kernel
theorem d_Md_whyNot_176 : decode prog_13_method_40_code 176 = .ok (.invokevirtual 233, 3) := by decide +kernel
theorem tb_ml_Md_233 : mTB (Cond.methodLink "NineBarsModel" 233 ⟨"NineBarsModel", "holds", "([II)Z"⟩) := tbq7 219 (by decide +kernel) rfl
theorem tb_im_Md_holds : mTB (Cond.instanceMethod ⟨"NineBarsModel", "holds", "([II)Z"⟩) := tbq7 221 (by decide +kernel) rfl
theorem tb_se_Md_holds : mTB (Cond.selects "NineBarsModel" ⟨"NineBarsModel", "holds", "([II)Z"⟩ ⟨"NineBarsModel", "holds", "([II)Z"⟩) := tbqp 65 (by decide +kernel) rfl
theorem mv_Md_holds {M : mM} {idx : Nat} (h : mTB (Cond.methodLink (mO M) idx ⟨"NineBarsModel", "holds", "([II)Z"⟩)) : mCaV M M_Md_holds idx 11 := ⟨h, tb_im_Md_holds, tb_se_Md_holds, by decide, TX11, 40, rfl⟩
theorem d_Md_whyNot_179 : decode prog_13_method_40_code 179 = .ok (.ifCond .eq 5, 3) := by decide +kernel
theorem d_Md_whyNot_182 : decode prog_13_method_40_code 182 = .ok (.iconst 0, 1) := by decide +kernel
theorem d_Md_whyNot_183 : decode prog_13_method_40_code 183 = .ok (.ireturn, 1) := by decide +kernel
theorem d_Md_whyNot_163 : decode prog_13_method_40_code 163 = .ok (.goto 21, 3) := by decide +kernel
theorem d_Md_whyNot_190 : decode prog_13_method_40_code 190 = .ok (.aload_n 0, 1) := by decide +kernel
theorem tb_fl_Md_237 : mTB (Cond.fieldLink "NineBarsModel" 237 "NineBarsModel" "isExtra" "Z") := tbq6 226 (by decide +kernel) rfl
theorem fd_Md_237 {M : mM} (h : mO M = "NineBarsModel") : mFld M 237 11 19 0 := ⟨_, _, _, tyX11, rfl, by decide, by decide, rfl, uw_11, tyX11_ok, nmX11, by rw [h]; exact Or.inl tb_fl_Md_237⟩
theorem d_Md_whyNot_191 : decode prog_13_method_40_code 191 = .ok (.getfield 237, 3) := by decide +kernel
theorem d_Md_whyNot_194 : decode prog_13_method_40_code 194 = .ok (.ifCond .eq 52, 3) := by decide +kernel
theorem d_Md_whyNot_246 : decode prog_13_method_40_code 246 = .ok (.iload 6, 2) := by decide +kernel
theorem d_Md_whyNot_248 : decode prog_13_method_40_code 248 = .ok (.ifCond .eq 7, 3) := by decide +kernel
theorem d_Md_whyNot_255 : decode prog_13_method_40_code 255 = .ok (.iconst 0, 1) := by decide +kernel
theorem d_Md_whyNot_256 : decode prog_13_method_40_code 256 = .ok (.ireturn, 1) := by decide +kernel
theorem d_Md_whyNot_251 : decode prog_13_method_40_code 251 = .ok (.iconst 4, 1) := by decide +kernel
theorem d_Md_whyNot_252 : decode prog_13_method_40_code 252 = .ok (.goto 4, 3) := by decide +kernel
theorem d_Md_whyNot_197 : decode prog_13_method_40_code 197 = .ok (.aload_n 0, 1) := by decide +kernel
theorem d_Md_whyNot_198 : decode prog_13_method_40_code 198 = .ok (.getfield 36, 3) := by decide +kernel
theorem d_Md_whyNot_201 : decode prog_13_method_40_code 201 = .ok (.iconst 0, 1) := by decide +kernel
theorem d_Md_whyNot_202 : decode prog_13_method_40_code 202 = .ok (.iaload, 1) := by decide +kernel
theorem d_Md_whyNot_203 : decode prog_13_method_40_code 203 = .ok (.iload_n 1, 1) := by decide +kernel
theorem d_Md_whyNot_204 : decode prog_13_method_40_code 204 = .ok (.if_icmp .ne 42, 3) := by decide +kernel
theorem d_Md_whyNot_207 : decode prog_13_method_40_code 207 = .ok (.aload_n 0, 1) := by decide +kernel
theorem d_Md_whyNot_208 : decode prog_13_method_40_code 208 = .ok (.getfield 36, 3) := by decide +kernel
theorem d_Md_whyNot_211 : decode prog_13_method_40_code 211 = .ok (.iconst 1, 1) := by decide +kernel
theorem d_Md_whyNot_212 : decode prog_13_method_40_code 212 = .ok (.iaload, 1) := by decide +kernel
theorem d_Md_whyNot_213 : decode prog_13_method_40_code 213 = .ok (.iload 4, 2) := by decide +kernel
theorem d_Md_whyNot_215 : decode prog_13_method_40_code 215 = .ok (.if_icmp .ne 31, 3) := by decide +kernel
theorem d_Md_whyNot_218 : decode prog_13_method_40_code 218 = .ok (.aload_n 0, 1) := by decide +kernel
theorem d_Md_whyNot_219 : decode prog_13_method_40_code 219 = .ok (.getfield 36, 3) := by decide +kernel
theorem d_Md_whyNot_222 : decode prog_13_method_40_code 222 = .ok (.iconst 2, 1) := by decide +kernel
theorem d_Md_whyNot_223 : decode prog_13_method_40_code 223 = .ok (.iaload, 1) := by decide +kernel
theorem d_Md_whyNot_224 : decode prog_13_method_40_code 224 = .ok (.iload 5, 2) := by decide +kernel
theorem d_Md_whyNot_226 : decode prog_13_method_40_code 226 = .ok (.if_icmp .ne 20, 3) := by decide +kernel
theorem d_Md_whyNot_229 : decode prog_13_method_40_code 229 = .ok (.iconst 1, 1) := by decide +kernel
theorem d_Md_whyNot_230 : decode prog_13_method_40_code 230 = .ok (.istore 6, 2) := by decide +kernel
theorem d_Md_whyNot_232 : decode prog_13_method_40_code 232 = .ok (.aload_n 0, 1) := by decide +kernel
theorem d_Md_whyNot_233 : decode prog_13_method_40_code 233 = .ok (.aload_n 0, 1) := by decide +kernel
theorem d_Md_whyNot_234 : decode prog_13_method_40_code 234 = .ok (.getfield 36, 3) := by decide +kernel
theorem d_Md_whyNot_237 : decode prog_13_method_40_code 237 = .ok (.iconst 0, 1) := by decide +kernel
theorem d_Md_whyNot_238 : decode prog_13_method_40_code 238 = .ok (.invokevirtual 233, 3) := by decide +kernel
theorem d_Md_whyNot_241 : decode prog_13_method_40_code 241 = .ok (.ifCond .eq 5, 3) := by decide +kernel
theorem d_Md_whyNot_244 : decode prog_13_method_40_code 244 = .ok (.iconst 0, 1) := by decide +kernel
theorem d_Md_whyNot_245 : decode prog_13_method_40_code 245 = .ok (.ireturn, 1) := by decide +kernel
theorem d_Md_whyNot_95 : decode prog_13_method_40_code 95 = .ok (.iconst 0, 1) := by decide +kernel
theorem d_Md_whyNot_96 : decode prog_13_method_40_code 96 = .ok (.ireturn, 1) := by decide +kernel
theorem d_Md_whyNot_67 : decode prog_13_method_40_code 67 = .ok (.iload 4, 2) := by decide +kernel
theorem d_Md_whyNot_69 : decode prog_13_method_40_code 69 = .ok (.iload 5, 2) := by decide +kernel
theorem d_Md_whyNot_71 : decode prog_13_method_40_code 71 = .ok (.iadd, 1) := by decide +kernel
theorem d_Md_whyNot_72 : decode prog_13_method_40_code 72 = .ok (.iconst 1, 1) := by decide +kernel
theorem d_Md_whyNot_73 : decode prog_13_method_40_code 73 = .ok (.if_icmp .ne 13, 3) := by decide +kernel
theorem d_Md_whyNot_76 : decode prog_13_method_40_code 76 = .ok (.aload_n 0, 1) := by decide +kernel
theorem d_Md_whyNot_77 : decode prog_13_method_40_code 77 = .ok (.iload_n 1, 1) := by decide +kernel
theorem d_Md_whyNot_78 : decode prog_13_method_40_code 78 = .ok (.invokevirtual 230, 3) := by decide +kernel
theorem tb_ml_Md_230 : mTB (Cond.methodLink "NineBarsModel" 230 ⟨"NineBarsModel", "isFree", "(I)Z"⟩) := tbq8 38 (by decide +kernel) rfl
theorem tb_im_Md_isFree : mTB (Cond.instanceMethod ⟨"NineBarsModel", "isFree", "(I)Z"⟩) := tbq8 40 (by decide +kernel) rfl
theorem tb_se_Md_isFree : mTB (Cond.selects "NineBarsModel" ⟨"NineBarsModel", "isFree", "(I)Z"⟩ ⟨"NineBarsModel", "isFree", "(I)Z"⟩) := tbqp 75 (by decide +kernel) rfl
theorem mv_Md_isFree {M : mM} {idx : Nat} (h : mTB (Cond.methodLink (mO M) idx ⟨"NineBarsModel", "isFree", "(I)Z"⟩)) : mCaV M M_Md_isFree idx 11 := ⟨h, tb_im_Md_isFree, tb_se_Md_isFree, by decide, TX11, 40, rfl⟩
theorem d_Md_whyNot_81 : decode prog_13_method_40_code 81 = .ok (.ifCond .ne 5, 3) := by decide +kernel
theorem d_Md_whyNot_84 : decode prog_13_method_40_code 84 = .ok (.iconst 3, 1) := by decide +kernel
theorem d_Md_whyNot_85 : decode prog_13_method_40_code 85 = .ok (.ireturn, 1) := by decide +kernel
theorem d_Md_whyNot_55 : decode prog_13_method_40_code 55 = .ok (.iconst 2, 1) := by decide +kernel
theorem d_Md_whyNot_56 : decode prog_13_method_40_code 56 = .ok (.ireturn, 1) := by decide +kernel
theorem d_Md_whyNot_23 : decode prog_13_method_40_code 23 = .ok (.iload 4, 2) := by decide +kernel
theorem d_Md_whyNot_25 : decode prog_13_method_40_code 25 = .ok (.iconst 1, 1) := by decide +kernel
theorem d_Md_whyNot_26 : decode prog_13_method_40_code 26 = .ok (.iadd, 1) := by decide +kernel
theorem d_Md_whyNot_27 : decode prog_13_method_40_code 27 = .ok (.goto 7, 3) := by decide +kernel
theorem d_Md_whyNot_9 : decode prog_13_method_40_code 9 = .ok (.iconst 1, 1) := by decide +kernel
theorem d_Md_whyNot_10 : decode prog_13_method_40_code 10 = .ok (.ireturn, 1) := by decide +kernel
theorem t_Md_whyNot_J184 {G : mG} {r : mR} {v0 v1 v4 v5 v6 v7 : Int} {h : mH} {R103 : mH → Int → Int → Option mR} (hR103 : ∀ (h : mH) (w6 w7 : Int) , R103 h w6 w7 = some r → mJ G M_Md_whyNot 103 [(2, v0), (0, v1), (9, 0), (9, 0), (0, v4), (0, v5), (0, w6), (0, w7), (9, 0)] [] h r) (hr : f_Md_whyNot_J184 R103 v6 v7 h = some r) : mJ G M_Md_whyNot 184 [(2, v0), (0, v1), (9, 0), (9, 0), (0, v4), (0, v5), (0, v6), (0, v7), (9, 0)] [] h r := by
  unfold f_Md_whyNot_J184 at hr
  refine j_iincW (pc := 184) (L := fun x1 => [(2, v0), (0, v1), (9, 0), (9, 0), (0, v4), (0, v5), (0, v6), (0, x1), (9, 0)]) d_Md_whyNot_184 rfl (fun _ => rfl) hr (fun x1 hr => ?_)
  refine j_goto (pc := 187) (tgt := 103) d_Md_whyNot_187 ?_
  exact mJ_weak (ls' := [(2, v0), (0, v1), (9, 0), (9, 0), (0, v4), (0, v5), (0, v6), (0, x1), (9, 0)]) (mwk_s (mwk_s (mwk_s (mwk_s (mwk_s (mwk_s (mwk_s (mwk_s (mwk_s mwk_n))))))))) (hR103 h _ _ hr)
theorem t_Md_whyNot_L103 {G : mG} {r : mR} {v0 v1 v4 v5 : Int} {K190 : mH → Int → Option mR} (hK190 : ∀ (h : mH) (w6 : Int) , K190 h w6 = some r → mJ G M_Md_whyNot 190 [(2, v0), (0, v1), (9, 0), (9, 0), (0, v4), (0, v5), (0, w6), (9, 0), (9, 0)] [] h r) : ∀ (n : Nat) (h : mH) (v6 v7 : Int), f_Md_whyNot_L103 K190 v0 v1 v4 v5 n h v6 v7 = some r → mJ G M_Md_whyNot 103 [(2, v0), (0, v1), (9, 0), (9, 0), (0, v4), (0, v5), (0, v6), (0, v7), (9, 0)] [] h r := by
  intro n
  induction n with
  | zero =>
    intro h v6 v7 hr
    rw [f_Md_whyNot_L103] at hr
    cases hr
  | succ n hR103 =>
    intro h v6 v7 hr
    rw [f_Md_whyNot_L103] at hr
    refine j_iload (pc := 103) d_Md_whyNot_103 rfl ?_
    refine j_aload_n (pc := 105) d_Md_whyNot_105 rfl ?_
    refine j_getf (pc := 106) d_Md_whyNot_106 (fd_Md_9 rfl) hr (fun hr => ?_)
    refine j_iconst (pc := 109) d_Md_whyNot_109 ?_
    refine j_iaload (pc := 110) d_Md_whyNot_110 hr (fun hr => ?_)
    refine j_icmp_ge (pc := 111) (tgt := 190) d_Md_whyNot_111 hr (fun hr => ?_) (fun hr => ?_)
    · exact mJ_weak (ls' := [(2, v0), (0, v1), (9, 0), (9, 0), (0, v4), (0, v5), (0, v6), (9, 0), (9, 0)]) (mwk_s (mwk_s (mwk_s (mwk_s (mwk_s (mwk_s (mwk_s (mwk_d (mwk_s mwk_n))))))))) (hK190 h _ hr)
    · refine j_bipush (pc := 114) d_Md_whyNot_114 ?_
      refine j_bipush (pc := 116) d_Md_whyNot_116 ?_
      refine j_iload (pc := 118) d_Md_whyNot_118 rfl ?_
      refine j_imul (pc := 120) d_Md_whyNot_120 ?_
      refine j_iadd (pc := 121) d_Md_whyNot_121 ?_
      refine j_istoreW (pc := 122) (L := fun x1 => [(2, v0), (0, v1), (9, 0), (9, 0), (0, v4), (0, v5), (0, v6), (0, v7), (0, x1)]) d_Md_whyNot_122 (fun _ => rfl) hr (fun x1 hr => ?_)
      refine j_aload_n (pc := 124) d_Md_whyNot_124 rfl ?_
      refine j_getf (pc := 125) d_Md_whyNot_125 (fd_Md_9 rfl) hr (fun hr => ?_)
      refine j_iload (pc := 128) d_Md_whyNot_128 rfl ?_
      refine j_iaload (pc := 130) d_Md_whyNot_130 hr (fun hr => ?_)
      refine j_iload_n (pc := 131) d_Md_whyNot_131 rfl ?_
      refine j_icmp_ne (pc := 132) (tgt := 184) d_Md_whyNot_132 hr (fun hr => ?_) (fun hr => ?_)
      · exact mJ_weak (ls' := [(2, v0), (0, v1), (9, 0), (9, 0), (0, v4), (0, v5), (0, v6), (0, v7), (9, 0)]) (mwk_s (mwk_s (mwk_s (mwk_s (mwk_s (mwk_s (mwk_s (mwk_s (mwk_d mwk_n))))))))) (t_Md_whyNot_J184 hR103 hr)
      · refine j_aload_n (pc := 135) d_Md_whyNot_135 rfl ?_
        refine j_getf (pc := 136) d_Md_whyNot_136 (fd_Md_9 rfl) hr (fun hr => ?_)
        refine j_iload (pc := 139) d_Md_whyNot_139 rfl ?_
        refine j_iconst (pc := 141) d_Md_whyNot_141 ?_
        refine j_iadd (pc := 142) d_Md_whyNot_142 ?_
        refine j_iaload (pc := 143) d_Md_whyNot_143 hr (fun hr => ?_)
        refine j_iload (pc := 144) d_Md_whyNot_144 rfl ?_
        refine j_icmp_ne (pc := 146) (tgt := 184) d_Md_whyNot_146 hr (fun hr => ?_) (fun hr => ?_)
        · exact mJ_weak (ls' := [(2, v0), (0, v1), (9, 0), (9, 0), (0, v4), (0, v5), (0, v6), (0, v7), (9, 0)]) (mwk_s (mwk_s (mwk_s (mwk_s (mwk_s (mwk_s (mwk_s (mwk_s (mwk_d mwk_n))))))))) (t_Md_whyNot_J184 hR103 hr)
        · refine j_aload_n (pc := 149) d_Md_whyNot_149 rfl ?_
          refine j_getf (pc := 150) d_Md_whyNot_150 (fd_Md_9 rfl) hr (fun hr => ?_)
          refine j_iload (pc := 153) d_Md_whyNot_153 rfl ?_
          refine j_iconst (pc := 155) d_Md_whyNot_155 ?_
          refine j_iadd (pc := 156) d_Md_whyNot_156 ?_
          refine j_iaload (pc := 157) d_Md_whyNot_157 hr (fun hr => ?_)
          refine j_iload (pc := 158) d_Md_whyNot_158 rfl ?_
          refine j_icmp_eq (pc := 160) (tgt := 166) d_Md_whyNot_160 hr (fun hr => ?_) (fun hr => ?_)
          · refine j_iconst (pc := 166) d_Md_whyNot_166 ?_
            refine j_istore (pc := 167) (ls' := [(2, v0), (0, v1), (9, 0), (9, 0), (0, v4), (0, v5), (0, 1), (0, v7), (0, x1)]) d_Md_whyNot_167 rfl ?_
            refine j_aload_n (pc := 169) d_Md_whyNot_169 rfl ?_
            refine j_aload_n (pc := 170) d_Md_whyNot_170 rfl ?_
            refine j_getf (pc := 171) d_Md_whyNot_171 (fd_Md_9 rfl) hr (fun hr => ?_)
            refine j_iload (pc := 174) d_Md_whyNot_174 rfl ?_
            obtain ⟨ha, hr⟩ := chk_some hr
            refine j_callG (pc := 176) (stk := [(0, x1), (2, hpV h v0 0), (2, v0)]) (as := [(2, v0), (2, hpV h v0 0), (0, x1)]) (P := (fun v9 => ((0 : Nat), v9) :: [])) (tg := 0) (My := M_Md_holds) (mRunV (as := [(2, hpV h v0 0), (0, x1)]) (st := []) d_Md_whyNot_176 (mc_Md_holds (by decide)) rfl (mv_Md_holds tb_ml_Md_233) rfl (Nat.le_of_ble_eq_true rfl) ha) (fun v => rfl) rfl hr (fun r1 h1 => t_Md_holds _ _ _ _ _ h1) (fun x3 h2 hr => ?_)
            refine j_if_eq (pc := 179) (tgt := 184) d_Md_whyNot_179 hr (fun hr => ?_) (fun hr => ?_)
            · exact mJ_weak (ls' := [(2, v0), (0, v1), (9, 0), (9, 0), (0, v4), (0, v5), (0, 1), (0, v7), (9, 0)]) (mwk_s (mwk_s (mwk_s (mwk_s (mwk_s (mwk_s (mwk_s (mwk_s (mwk_d mwk_n))))))))) (t_Md_whyNot_J184 hR103 hr)
            · refine j_iconst (pc := 182) d_Md_whyNot_182 ?_
              exact j_iret (pc := 183) d_Md_whyNot_183 rfl hr
          · refine j_goto (pc := 163) (tgt := 184) d_Md_whyNot_163 ?_
            exact mJ_weak (ls' := [(2, v0), (0, v1), (9, 0), (9, 0), (0, v4), (0, v5), (0, v6), (0, v7), (9, 0)]) (mwk_s (mwk_s (mwk_s (mwk_s (mwk_s (mwk_s (mwk_s (mwk_s (mwk_d mwk_n))))))))) (t_Md_whyNot_J184 hR103 hr)
theorem t_Md_whyNot_J246 {G : mG} {r : mR} {v6 : Int} {h : mH}  (hr : f_Md_whyNot_J246 v6 h = some r) : mJ G M_Md_whyNot 246 [(9, 0), (9, 0), (9, 0), (9, 0), (9, 0), (9, 0), (0, v6), (9, 0), (9, 0)] [] h r := by
  unfold f_Md_whyNot_J246 at hr
  refine j_iload (pc := 246) d_Md_whyNot_246 rfl ?_
  refine j_if_eq (pc := 248) (tgt := 255) d_Md_whyNot_248 hr (fun hr => ?_) (fun hr => ?_)
  · refine j_iconst (pc := 255) d_Md_whyNot_255 ?_
    exact j_iret (pc := 256) d_Md_whyNot_256 rfl hr
  · refine j_iconst (pc := 251) d_Md_whyNot_251 ?_
    refine j_goto (pc := 252) (tgt := 256) d_Md_whyNot_252 ?_
    exact j_iret (pc := 256) d_Md_whyNot_256 rfl hr
theorem t_Md_whyNot_J86 {G : mG} {r : mR} {v0 v1 v3 v4 v5 : Int} {h : mH}  (hr : f_Md_whyNot_J86 v0 v1 v3 v4 v5 h = some r) : mJ G M_Md_whyNot 86 [(2, v0), (0, v1), (9, 0), (0, v3), (0, v4), (0, v5), (9, 0), (9, 0), (9, 0)] [] h r := by
  unfold f_Md_whyNot_J86 at hr
  refine j_iload_n (pc := 86) d_Md_whyNot_86 rfl ?_
  refine j_iload_n (pc := 87) d_Md_whyNot_87 rfl ?_
  refine j_ishr (pc := 88) d_Md_whyNot_88 ?_
  refine j_iconst (pc := 89) d_Md_whyNot_89 ?_
  refine j_iand (pc := 90) d_Md_whyNot_90 ?_
  refine j_iconst (pc := 91) d_Md_whyNot_91 ?_
  refine j_icmp_ne (pc := 92) (tgt := 97) d_Md_whyNot_92 hr (fun hr => ?_) (fun hr => ?_)
  · refine j_iconst (pc := 97) d_Md_whyNot_97 ?_
    refine j_istore (pc := 98) (ls' := [(2, v0), (0, v1), (9, 0), (0, v3), (0, v4), (0, v5), (0, 0), (9, 0), (9, 0)]) d_Md_whyNot_98 rfl ?_
    refine j_iconst (pc := 100) d_Md_whyNot_100 ?_
    refine j_istore (pc := 101) (ls' := [(2, v0), (0, v1), (9, 0), (0, v3), (0, v4), (0, v5), (0, 0), (0, 0), (9, 0)]) d_Md_whyNot_101 rfl ?_
    refine mJ_weak (ls' := [(2, v0), (0, v1), (9, 0), (9, 0), (0, v4), (0, v5), (0, 0), (0, 0), (9, 0)]) (mwk_s (mwk_s (mwk_s (mwk_d (mwk_s (mwk_s (mwk_s (mwk_s (mwk_s mwk_n))))))))) (t_Md_whyNot_L103 (fun h1 x2 hr => ?_) _ _ _ _ hr)
    · refine j_aload_n (pc := 190) d_Md_whyNot_190 rfl ?_
      refine j_getf (pc := 191) d_Md_whyNot_191 (fd_Md_237 rfl) hr (fun hr => ?_)
      refine j_if_eq (pc := 194) (tgt := 246) d_Md_whyNot_194 hr (fun hr => ?_) (fun hr => ?_)
      · exact mJ_weak (ls' := [(9, 0), (9, 0), (9, 0), (9, 0), (9, 0), (9, 0), (0, x2), (9, 0), (9, 0)]) (mwk_d (mwk_d (mwk_s (mwk_s (mwk_d (mwk_d (mwk_s (mwk_s (mwk_s mwk_n))))))))) (t_Md_whyNot_J246  hr)
      · refine j_aload_n (pc := 197) d_Md_whyNot_197 rfl ?_
        refine j_getf (pc := 198) d_Md_whyNot_198 (fd_Md_36 rfl) hr (fun hr => ?_)
        refine j_iconst (pc := 201) d_Md_whyNot_201 ?_
        refine j_iaload (pc := 202) d_Md_whyNot_202 hr (fun hr => ?_)
        refine j_iload_n (pc := 203) d_Md_whyNot_203 rfl ?_
        refine j_icmp_ne (pc := 204) (tgt := 246) d_Md_whyNot_204 hr (fun hr => ?_) (fun hr => ?_)
        · exact mJ_weak (ls' := [(9, 0), (9, 0), (9, 0), (9, 0), (9, 0), (9, 0), (0, x2), (9, 0), (9, 0)]) (mwk_d (mwk_d (mwk_s (mwk_s (mwk_d (mwk_d (mwk_s (mwk_s (mwk_s mwk_n))))))))) (t_Md_whyNot_J246  hr)
        · refine j_aload_n (pc := 207) d_Md_whyNot_207 rfl ?_
          refine j_getf (pc := 208) d_Md_whyNot_208 (fd_Md_36 rfl) hr (fun hr => ?_)
          refine j_iconst (pc := 211) d_Md_whyNot_211 ?_
          refine j_iaload (pc := 212) d_Md_whyNot_212 hr (fun hr => ?_)
          refine j_iload (pc := 213) d_Md_whyNot_213 rfl ?_
          refine j_icmp_ne (pc := 215) (tgt := 246) d_Md_whyNot_215 hr (fun hr => ?_) (fun hr => ?_)
          · exact mJ_weak (ls' := [(9, 0), (9, 0), (9, 0), (9, 0), (9, 0), (9, 0), (0, x2), (9, 0), (9, 0)]) (mwk_d (mwk_d (mwk_s (mwk_s (mwk_d (mwk_d (mwk_s (mwk_s (mwk_s mwk_n))))))))) (t_Md_whyNot_J246  hr)
          · refine j_aload_n (pc := 218) d_Md_whyNot_218 rfl ?_
            refine j_getf (pc := 219) d_Md_whyNot_219 (fd_Md_36 rfl) hr (fun hr => ?_)
            refine j_iconst (pc := 222) d_Md_whyNot_222 ?_
            refine j_iaload (pc := 223) d_Md_whyNot_223 hr (fun hr => ?_)
            refine j_iload (pc := 224) d_Md_whyNot_224 rfl ?_
            refine j_icmp_ne (pc := 226) (tgt := 246) d_Md_whyNot_226 hr (fun hr => ?_) (fun hr => ?_)
            · exact mJ_weak (ls' := [(9, 0), (9, 0), (9, 0), (9, 0), (9, 0), (9, 0), (0, x2), (9, 0), (9, 0)]) (mwk_d (mwk_d (mwk_s (mwk_s (mwk_d (mwk_d (mwk_s (mwk_s (mwk_s mwk_n))))))))) (t_Md_whyNot_J246  hr)
            · refine j_iconst (pc := 229) d_Md_whyNot_229 ?_
              refine j_istore (pc := 230) (ls' := [(2, v0), (0, v1), (9, 0), (9, 0), (0, v4), (0, v5), (0, 1), (9, 0), (9, 0)]) d_Md_whyNot_230 rfl ?_
              refine j_aload_n (pc := 232) d_Md_whyNot_232 rfl ?_
              refine j_aload_n (pc := 233) d_Md_whyNot_233 rfl ?_
              refine j_getf (pc := 234) d_Md_whyNot_234 (fd_Md_36 rfl) hr (fun hr => ?_)
              refine j_iconst (pc := 237) d_Md_whyNot_237 ?_
              obtain ⟨ha, hr⟩ := chk_some hr
              refine j_callG (pc := 238) (stk := [(0, 0), (2, hpV h1 v0 18), (2, v0)]) (as := [(2, v0), (2, hpV h1 v0 18), (0, 0)]) (P := (fun v9 => ((0 : Nat), v9) :: [])) (tg := 0) (My := M_Md_holds) (mRunV (as := [(2, hpV h1 v0 18), (0, 0)]) (st := []) d_Md_whyNot_238 (mc_Md_holds (by decide)) rfl (mv_Md_holds tb_ml_Md_233) rfl (Nat.le_of_ble_eq_true rfl) ha) (fun v => rfl) rfl hr (fun r1 h1 => t_Md_holds _ _ _ _ _ h1) (fun x4 h3 hr => ?_)
              refine j_if_eq (pc := 241) (tgt := 246) d_Md_whyNot_241 hr (fun hr => ?_) (fun hr => ?_)
              · exact mJ_weak (ls' := [(9, 0), (9, 0), (9, 0), (9, 0), (9, 0), (9, 0), (0, 1), (9, 0), (9, 0)]) (mwk_d (mwk_d (mwk_s (mwk_s (mwk_d (mwk_d (mwk_s (mwk_s (mwk_s mwk_n))))))))) (t_Md_whyNot_J246  hr)
              · refine j_iconst (pc := 244) d_Md_whyNot_244 ?_
                exact j_iret (pc := 245) d_Md_whyNot_245 rfl hr
  · refine j_iconst (pc := 95) d_Md_whyNot_95 ?_
    exact j_iret (pc := 96) d_Md_whyNot_96 rfl hr
theorem t_Md_whyNot_J34 {G : mG} {r : mR} {v0 v1 v3 v4 s0 : Int} {h : mH}  (hr : f_Md_whyNot_J34 v0 v1 v3 v4 s0 h = some r) : mJ G M_Md_whyNot 34 [(2, v0), (0, v1), (9, 0), (0, v3), (0, v4), (9, 0), (9, 0), (9, 0), (9, 0)] [(0, s0)] h r := by
  unfold f_Md_whyNot_J34 at hr
  refine j_istore (pc := 34) (ls' := [(2, v0), (0, v1), (9, 0), (0, v3), (0, v4), (0, s0), (9, 0), (9, 0), (9, 0)]) d_Md_whyNot_34 rfl ?_
  refine j_iload (pc := 36) d_Md_whyNot_36 rfl ?_
  refine j_i2l (pc := 38) d_Md_whyNot_38 ?_
  refine j_lconst (pc := 39) (z := 0) d_Md_whyNot_39 ?_
  refine j_aload_n (pc := 40) d_Md_whyNot_40 rfl ?_
  refine j_iload_n (pc := 41) d_Md_whyNot_41 rfl ?_
  refine j_iconst (pc := 42) d_Md_whyNot_42 ?_
  obtain ⟨ha, hr⟩ := chk_some hr
  refine j_callG (pc := 43) (stk := [(0, 0), (0, v1), (2, v0), (1, 0), (1, s0)]) (as := [(2, v0), (0, v1), (0, 0)]) (P := (fun v9 => ((0 : Nat), v9) :: [(1, 0), (1, s0)])) (tg := 0) (My := M_Md_of) (mRunV (as := [(0, v1), (0, 0)]) (st := [(1, 0), (1, s0)]) d_Md_whyNot_43 (mc_Md_of (by decide)) rfl (mv_Md_of tb_ml_Md_213) rfl (Nat.le_of_ble_eq_true rfl) ha) (fun v => rfl) rfl hr (fun r1 h1 => t_Md_of _ _ _ _ _ h1) (fun x2 h1 hr => ?_)
  refine j_iconst (pc := 46) d_Md_whyNot_46 ?_
  refine j_isub (pc := 47) d_Md_whyNot_47 ?_
  refine j_i2l (pc := 48) d_Md_whyNot_48 ?_
  refine j_callG (pc := 49) (stk := [(1, w32 (x2 - 1)), (1, 0), (1, s0)]) (as := [(1, s0), (1, 0), (1, w32 (x2 - 1))]) (P := (fun v9 => ((0 : Nat), v9) :: [])) (tg := 0) (My := M_Md_amid) (mRunS (as := [(1, s0), (1, 0), (1, w32 (x2 - 1))]) (st := []) d_Md_whyNot_49 (mc_Md_amid (by decide)) rfl ⟨tb_ml_Md_147, tb_sm_Md_amid⟩ rfl (Nat.le_of_ble_eq_true rfl)) (fun v => rfl) rfl hr (fun r1 h1 => t_Md_amid _ _ _ _ _ h1) (fun x4 h3 hr => ?_)
  refine j_if_ne (pc := 52) (tgt := 57) d_Md_whyNot_52 hr (fun hr => ?_) (fun hr => ?_)
  · refine j_iload_n (pc := 57) d_Md_whyNot_57 rfl ?_
    refine j_aload_n (pc := 58) d_Md_whyNot_58 rfl ?_
    refine j_getf (pc := 59) d_Md_whyNot_59 (fd_Md_9 rfl) hr (fun hr => ?_)
    refine j_iconst (pc := 62) d_Md_whyNot_62 ?_
    refine j_iaload (pc := 63) d_Md_whyNot_63 hr (fun hr => ?_)
    refine j_icmp_ge (pc := 64) (tgt := 86) d_Md_whyNot_64 hr (fun hr => ?_) (fun hr => ?_)
    · exact mJ_weak (ls' := [(2, v0), (0, v1), (9, 0), (0, v3), (0, v4), (0, s0), (9, 0), (9, 0), (9, 0)]) (mwk_s (mwk_s (mwk_s (mwk_s (mwk_s (mwk_s (mwk_s (mwk_s (mwk_s mwk_n))))))))) (t_Md_whyNot_J86  hr)
    · refine j_iload (pc := 67) d_Md_whyNot_67 rfl ?_
      refine j_iload (pc := 69) d_Md_whyNot_69 rfl ?_
      refine j_iadd (pc := 71) d_Md_whyNot_71 ?_
      refine j_iconst (pc := 72) d_Md_whyNot_72 ?_
      refine j_icmp_ne (pc := 73) (tgt := 86) d_Md_whyNot_73 hr (fun hr => ?_) (fun hr => ?_)
      · exact mJ_weak (ls' := [(2, v0), (0, v1), (9, 0), (0, v3), (0, v4), (0, s0), (9, 0), (9, 0), (9, 0)]) (mwk_s (mwk_s (mwk_s (mwk_s (mwk_s (mwk_s (mwk_s (mwk_s (mwk_s mwk_n))))))))) (t_Md_whyNot_J86  hr)
      · refine j_aload_n (pc := 76) d_Md_whyNot_76 rfl ?_
        refine j_iload_n (pc := 77) d_Md_whyNot_77 rfl ?_
        obtain ⟨ha, hr⟩ := chk_some hr
        refine j_callG (pc := 78) (stk := [(0, v1), (2, v0)]) (as := [(2, v0), (0, v1)]) (P := (fun v9 => ((0 : Nat), v9) :: [])) (tg := 0) (My := M_Md_isFree) (mRunV (as := [(0, v1)]) (st := []) d_Md_whyNot_78 (mc_Md_isFree (by decide)) rfl (mv_Md_isFree tb_ml_Md_230) rfl (Nat.le_of_ble_eq_true rfl) ha) (fun v => rfl) rfl hr (fun r1 h1 => t_Md_isFree _ _ _ _ h1) (fun x6 h5 hr => ?_)
        refine j_if_ne (pc := 81) (tgt := 86) d_Md_whyNot_81 hr (fun hr => ?_) (fun hr => ?_)
        · exact mJ_weak (ls' := [(2, v0), (0, v1), (9, 0), (0, v3), (0, v4), (0, s0), (9, 0), (9, 0), (9, 0)]) (mwk_s (mwk_s (mwk_s (mwk_s (mwk_s (mwk_s (mwk_s (mwk_s (mwk_s mwk_n))))))))) (t_Md_whyNot_J86  hr)
        · refine j_iconst (pc := 84) d_Md_whyNot_84 ?_
          exact j_iret (pc := 85) d_Md_whyNot_85 rfl hr
  · refine j_iconst (pc := 55) d_Md_whyNot_55 ?_
    exact j_iret (pc := 56) d_Md_whyNot_56 rfl hr
theorem t_Md_whyNot {G : mG} (h : mH) (v0 v1 v2 v3 : Int) (r : mR) (hr : f_Md_whyNot h v0 v1 v2 v3 = some r) : mJM G M_Md_whyNot [(2, v0), (0, v1), (0, v2), (0, v3)] h r := by
  refine mJM_of (L := [(2, v0), (0, v1), (0, v2), (0, v3), (9, 0), (9, 0), (9, 0), (9, 0), (9, 0)]) rfl rfl rfl (Nat.le_of_ble_eq_true rfl) ?_
  unfold f_Md_whyNot at hr
  refine j_aload_n (pc := 0) d_Md_whyNot_0 rfl ?_
  refine j_iload_n (pc := 1) d_Md_whyNot_1 rfl ?_
  refine j_i2l (pc := 2) d_Md_whyNot_2 ?_
  obtain ⟨ha, hr⟩ := chk_some hr
  refine j_callG (pc := 3) (stk := [(1, v1), (2, v0)]) (as := [(2, v0), (1, v1)]) (P := (fun v9 => ((0 : Nat), v9) :: [])) (tg := 0) (My := M_Md_isBar) (mRunV (as := [(1, v1)]) (st := []) d_Md_whyNot_3 (mc_Md_isBar (by decide)) rfl (mv_Md_isBar tb_ml_Md_226) rfl (Nat.le_of_ble_eq_true rfl) ha) (fun v => rfl) rfl hr (fun r1 h1 => t_Md_isBar _ _ _ _ h1) (fun x2 h1 hr => ?_)
  refine j_if_ne (pc := 6) (tgt := 11) d_Md_whyNot_6 hr (fun hr => ?_) (fun hr => ?_)
  · refine j_aload_n (pc := 11) d_Md_whyNot_11 rfl ?_
    refine j_getf (pc := 12) d_Md_whyNot_12 (fd_Md_33 rfl) hr (fun hr => ?_)
    refine j_iload_n (pc := 15) d_Md_whyNot_15 rfl ?_
    refine j_iaload (pc := 16) d_Md_whyNot_16 hr (fun hr => ?_)
    refine j_istoreW (pc := 17) (L := fun x3 => [(2, v0), (0, v1), (0, v2), (0, v3), (0, x3), (9, 0), (9, 0), (9, 0), (9, 0)]) d_Md_whyNot_17 (fun _ => rfl) hr (fun x3 hr => ?_)
    refine j_iload_n (pc := 19) d_Md_whyNot_19 rfl ?_
    refine j_if_eq (pc := 20) (tgt := 30) d_Md_whyNot_20 hr (fun hr => ?_) (fun hr => ?_)
    · refine j_iload (pc := 30) d_Md_whyNot_30 rfl ?_
      refine j_iconst (pc := 32) d_Md_whyNot_32 ?_
      refine j_isub (pc := 33) d_Md_whyNot_33 ?_
      exact mJ_weak (ls' := [(2, v0), (0, v1), (9, 0), (0, v3), (0, x3), (9, 0), (9, 0), (9, 0), (9, 0)]) (mwk_s (mwk_s (mwk_d (mwk_s (mwk_s (mwk_s (mwk_s (mwk_s (mwk_s mwk_n))))))))) (t_Md_whyNot_J34  hr)
    · refine j_iload (pc := 23) d_Md_whyNot_23 rfl ?_
      refine j_iconst (pc := 25) d_Md_whyNot_25 ?_
      refine j_iadd (pc := 26) d_Md_whyNot_26 ?_
      refine j_goto (pc := 27) (tgt := 34) d_Md_whyNot_27 ?_
      exact mJ_weak (ls' := [(2, v0), (0, v1), (9, 0), (0, v3), (0, x3), (9, 0), (9, 0), (9, 0), (9, 0)]) (mwk_s (mwk_s (mwk_d (mwk_s (mwk_s (mwk_s (mwk_s (mwk_s (mwk_s mwk_n))))))))) (t_Md_whyNot_J34  hr)
  · refine j_iconst (pc := 9) d_Md_whyNot_9 ?_
    exact j_iret (pc := 10) d_Md_whyNot_10 rfl hr
