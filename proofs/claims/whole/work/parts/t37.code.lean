def M_Md_someLeads : mM := ("NineBarsModel", ⟨"NineBarsModel", "someLeads", "(I[II)Z"⟩, prog_13_method_106_code, 7, some .boolean, [], 5)
theorem tb_co_Md_someLeads : mTB (Cond.code ⟨"NineBarsModel", "someLeads", "(I[II)Z"⟩ prog_13_method_106_code 7 (some .boolean)) := tbq9 52 (by decide +kernel) rfl
theorem mc_Md_someLeads {M : mM} (hd : 5 < mDp M) : mCal M M_Md_someLeads 3 := ⟨tb_co_Md_someLeads, tb_in_NineBarsModel, ⟨by decide +kernel, by decide +kernel⟩, by decide +kernel, hd, by decide⟩
theorem d_Md_someLeads_0 : decode prog_13_method_106_code 0 = .ok (.iconst 0, 1) := by decide +kernel
theorem d_Md_someLeads_1 : decode prog_13_method_106_code 1 = .ok (.istore 4, 2) := by decide +kernel
theorem d_Md_someLeads_3 : decode prog_13_method_106_code 3 = .ok (.iconst 0, 1) := by decide +kernel
theorem d_Md_someLeads_4 : decode prog_13_method_106_code 4 = .ok (.istore 5, 2) := by decide +kernel
theorem d_Md_someLeads_6 : decode prog_13_method_106_code 6 = .ok (.iload 5, 2) := by decide +kernel
theorem d_Md_someLeads_8 : decode prog_13_method_106_code 8 = .ok (.aload_n 0, 1) := by decide +kernel
theorem d_Md_someLeads_9 : decode prog_13_method_106_code 9 = .ok (.invokevirtual 319, 3) := by decide +kernel
theorem d_Md_someLeads_12 : decode prog_13_method_106_code 12 = .ok (.if_icmp .ge 53, 3) := by decide +kernel
theorem d_Md_someLeads_15 : decode prog_13_method_106_code 15 = .ok (.aload_n 0, 1) := by decide +kernel
theorem d_Md_someLeads_16 : decode prog_13_method_106_code 16 = .ok (.getfield 59, 3) := by decide +kernel
theorem d_Md_someLeads_19 : decode prog_13_method_106_code 19 = .ok (.bipush 18, 2) := by decide +kernel
theorem d_Md_someLeads_21 : decode prog_13_method_106_code 21 = .ok (.iload_n 1, 1) := by decide +kernel
theorem d_Md_someLeads_22 : decode prog_13_method_106_code 22 = .ok (.imul, 1) := by decide +kernel
theorem d_Md_someLeads_23 : decode prog_13_method_106_code 23 = .ok (.iload 5, 2) := by decide +kernel
theorem d_Md_someLeads_25 : decode prog_13_method_106_code 25 = .ok (.iadd, 1) := by decide +kernel
theorem d_Md_someLeads_26 : decode prog_13_method_106_code 26 = .ok (.iaload, 1) := by decide +kernel
theorem d_Md_someLeads_27 : decode prog_13_method_106_code 27 = .ok (.istore 6, 2) := by decide +kernel
theorem d_Md_someLeads_29 : decode prog_13_method_106_code 29 = .ok (.iload 6, 2) := by decide +kernel
theorem d_Md_someLeads_31 : decode prog_13_method_106_code 31 = .ok (.iconst (-1), 1) := by decide +kernel
theorem d_Md_someLeads_32 : decode prog_13_method_106_code 32 = .ok (.if_icmp .ne 6, 3) := by decide +kernel
theorem d_Md_someLeads_38 : decode prog_13_method_106_code 38 = .ok (.iconst 1, 1) := by decide +kernel
theorem d_Md_someLeads_39 : decode prog_13_method_106_code 39 = .ok (.istore 4, 2) := by decide +kernel
theorem d_Md_someLeads_41 : decode prog_13_method_106_code 41 = .ok (.aload_n 2, 1) := by decide +kernel
theorem d_Md_someLeads_42 : decode prog_13_method_106_code 42 = .ok (.iload 6, 2) := by decide +kernel
theorem d_Md_someLeads_44 : decode prog_13_method_106_code 44 = .ok (.iaload, 1) := by decide +kernel
theorem d_Md_someLeads_45 : decode prog_13_method_106_code 45 = .ok (.iconst (-1), 1) := by decide +kernel
theorem d_Md_someLeads_46 : decode prog_13_method_106_code 46 = .ok (.if_icmp .eq 13, 3) := by decide +kernel
theorem d_Md_someLeads_59 : decode prog_13_method_106_code 59 = .ok (.iinc 5 1, 3) := by decide +kernel
theorem d_Md_someLeads_62 : decode prog_13_method_106_code 62 = .ok (.goto (-56), 3) := by decide +kernel
theorem d_Md_someLeads_49 : decode prog_13_method_106_code 49 = .ok (.aload_n 2, 1) := by decide +kernel
theorem d_Md_someLeads_50 : decode prog_13_method_106_code 50 = .ok (.iload 6, 2) := by decide +kernel
theorem d_Md_someLeads_52 : decode prog_13_method_106_code 52 = .ok (.iaload, 1) := by decide +kernel
theorem d_Md_someLeads_53 : decode prog_13_method_106_code 53 = .ok (.iload_n 3, 1) := by decide +kernel
theorem d_Md_someLeads_54 : decode prog_13_method_106_code 54 = .ok (.if_icmp .gt 5, 3) := by decide +kernel
theorem d_Md_someLeads_57 : decode prog_13_method_106_code 57 = .ok (.iconst 1, 1) := by decide +kernel
theorem d_Md_someLeads_58 : decode prog_13_method_106_code 58 = .ok (.ireturn, 1) := by decide +kernel
theorem d_Md_someLeads_35 : decode prog_13_method_106_code 35 = .ok (.goto 24, 3) := by decide +kernel
theorem d_Md_someLeads_65 : decode prog_13_method_106_code 65 = .ok (.iload 4, 2) := by decide +kernel
theorem d_Md_someLeads_67 : decode prog_13_method_106_code 67 = .ok (.ifCond .ne 21, 3) := by decide +kernel
theorem d_Md_someLeads_88 : decode prog_13_method_106_code 88 = .ok (.iconst 0, 1) := by decide +kernel
theorem d_Md_someLeads_89 : decode prog_13_method_106_code 89 = .ok (.ireturn, 1) := by decide +kernel
theorem d_Md_someLeads_70 : decode prog_13_method_106_code 70 = .ok (.aload_n 2, 1) := by decide +kernel
theorem d_Md_someLeads_71 : decode prog_13_method_106_code 71 = .ok (.iload_n 1, 1) := by decide +kernel
theorem d_Md_someLeads_72 : decode prog_13_method_106_code 72 = .ok (.iaload, 1) := by decide +kernel
theorem d_Md_someLeads_73 : decode prog_13_method_106_code 73 = .ok (.iconst (-1), 1) := by decide +kernel
theorem d_Md_someLeads_74 : decode prog_13_method_106_code 74 = .ok (.if_icmp .eq 14, 3) := by decide +kernel
theorem d_Md_someLeads_77 : decode prog_13_method_106_code 77 = .ok (.aload_n 2, 1) := by decide +kernel
theorem d_Md_someLeads_78 : decode prog_13_method_106_code 78 = .ok (.iload_n 1, 1) := by decide +kernel
theorem d_Md_someLeads_79 : decode prog_13_method_106_code 79 = .ok (.iaload, 1) := by decide +kernel
theorem d_Md_someLeads_80 : decode prog_13_method_106_code 80 = .ok (.iload_n 3, 1) := by decide +kernel
theorem d_Md_someLeads_81 : decode prog_13_method_106_code 81 = .ok (.if_icmp .gt 7, 3) := by decide +kernel
theorem d_Md_someLeads_84 : decode prog_13_method_106_code 84 = .ok (.iconst 1, 1) := by decide +kernel
theorem d_Md_someLeads_85 : decode prog_13_method_106_code 85 = .ok (.goto 4, 3) := by decide +kernel
theorem t_Md_someLeads_J59 {G : mG} {r : mR} {v0 v1 v2 v3 v4 v5 : Int} {h : mH} {R6 : mH → Int → Int → Option mR} (hR6 : ∀ (h : mH) (w4 w5 : Int) , R6 h w4 w5 = some r → mJ G M_Md_someLeads 6 [(2, v0), (0, v1), (2, v2), (0, v3), (0, w4), (0, w5), (9, 0)] [] h r) (hr : f_Md_someLeads_J59 R6 v4 v5 h = some r) : mJ G M_Md_someLeads 59 [(2, v0), (0, v1), (2, v2), (0, v3), (0, v4), (0, v5), (9, 0)] [] h r := by
  unfold f_Md_someLeads_J59 at hr
  refine j_iincW (pc := 59) (L := fun x1 => [(2, v0), (0, v1), (2, v2), (0, v3), (0, v4), (0, x1), (9, 0)]) d_Md_someLeads_59 rfl (fun _ => rfl) hr (fun x1 hr => ?_)
  refine j_goto (pc := 62) (tgt := 6) d_Md_someLeads_62 ?_
  exact mJ_weak (ls' := [(2, v0), (0, v1), (2, v2), (0, v3), (0, v4), (0, x1), (9, 0)]) (mwk_s (mwk_s (mwk_s (mwk_s (mwk_s (mwk_s (mwk_s mwk_n))))))) (hR6 h _ _ hr)
theorem t_Md_someLeads_L6 {G : mG} {r : mR} {v0 v1 v2 v3 : Int} {K65 : mH → Int → Option mR} (hK65 : ∀ (h : mH) (w4 : Int) , K65 h w4 = some r → mJ G M_Md_someLeads 65 [(9, 0), (0, v1), (2, v2), (0, v3), (0, w4), (9, 0), (9, 0)] [] h r) : ∀ (n : Nat) (h : mH) (v4 v5 : Int), f_Md_someLeads_L6 K65 v0 v1 v2 v3 n h v4 v5 = some r → mJ G M_Md_someLeads 6 [(2, v0), (0, v1), (2, v2), (0, v3), (0, v4), (0, v5), (9, 0)] [] h r := by
  intro n
  induction n with
  | zero =>
    intro h v4 v5 hr
    rw [f_Md_someLeads_L6] at hr
    cases hr
  | succ n hR6 =>
    intro h v4 v5 hr
    rw [f_Md_someLeads_L6] at hr
    refine j_iload (pc := 6) d_Md_someLeads_6 rfl ?_
    refine j_aload_n (pc := 8) d_Md_someLeads_8 rfl ?_
    obtain ⟨ha, hr⟩ := chk_some hr
    refine j_callG (pc := 9) (stk := [(2, v0), (0, v5)]) (as := [(2, v0)]) (P := (fun v9 => ((0 : Nat), v9) :: [(0, v5)])) (tg := 0) (My := M_Md_steps) (mRunV (as := []) (st := [(0, v5)]) d_Md_someLeads_9 (mc_Md_steps (by decide)) rfl (mv_Md_steps tb_ml_Md_319) rfl (Nat.le_of_ble_eq_true rfl) ha) (fun v => rfl) rfl hr (fun r1 h1 => t_Md_steps _ _ _ h1) (fun x2 h1 hr => ?_)
    refine j_icmp_ge (pc := 12) (tgt := 65) d_Md_someLeads_12 hr (fun hr => ?_) (fun hr => ?_)
    · exact mJ_weak (ls' := [(9, 0), (0, v1), (2, v2), (0, v3), (0, v4), (9, 0), (9, 0)]) (mwk_d (mwk_s (mwk_s (mwk_s (mwk_s (mwk_d (mwk_s mwk_n))))))) (hK65 h1 _ hr)
    · refine j_aload_n (pc := 15) d_Md_someLeads_15 rfl ?_
      refine j_getf (pc := 16) d_Md_someLeads_16 (fd_Md_59 rfl) hr (fun hr => ?_)
      refine j_bipush (pc := 19) d_Md_someLeads_19 ?_
      refine j_iload_n (pc := 21) d_Md_someLeads_21 rfl ?_
      refine j_imul (pc := 22) d_Md_someLeads_22 ?_
      refine j_iload (pc := 23) d_Md_someLeads_23 rfl ?_
      refine j_iadd (pc := 25) d_Md_someLeads_25 ?_
      refine j_iaload (pc := 26) d_Md_someLeads_26 hr (fun hr => ?_)
      refine j_istoreW (pc := 27) (L := fun x3 => [(2, v0), (0, v1), (2, v2), (0, v3), (0, v4), (0, v5), (0, x3)]) d_Md_someLeads_27 (fun _ => rfl) hr (fun x3 hr => ?_)
      refine j_iload (pc := 29) d_Md_someLeads_29 rfl ?_
      refine j_iconst (pc := 31) d_Md_someLeads_31 ?_
      refine j_icmp_ne (pc := 32) (tgt := 38) d_Md_someLeads_32 hr (fun hr => ?_) (fun hr => ?_)
      · refine j_iconst (pc := 38) d_Md_someLeads_38 ?_
        refine j_istore (pc := 39) (ls' := [(2, v0), (0, v1), (2, v2), (0, v3), (0, 1), (0, v5), (0, x3)]) d_Md_someLeads_39 rfl ?_
        refine j_aload_n (pc := 41) d_Md_someLeads_41 rfl ?_
        refine j_iload (pc := 42) d_Md_someLeads_42 rfl ?_
        refine j_iaload (pc := 44) d_Md_someLeads_44 hr (fun hr => ?_)
        refine j_iconst (pc := 45) d_Md_someLeads_45 ?_
        refine j_icmp_eq (pc := 46) (tgt := 59) d_Md_someLeads_46 hr (fun hr => ?_) (fun hr => ?_)
        · exact mJ_weak (ls' := [(2, v0), (0, v1), (2, v2), (0, v3), (0, 1), (0, v5), (9, 0)]) (mwk_s (mwk_s (mwk_s (mwk_s (mwk_s (mwk_s (mwk_d mwk_n))))))) (t_Md_someLeads_J59 hR6 hr)
        · refine j_aload_n (pc := 49) d_Md_someLeads_49 rfl ?_
          refine j_iload (pc := 50) d_Md_someLeads_50 rfl ?_
          refine j_iaload (pc := 52) d_Md_someLeads_52 hr (fun hr => ?_)
          refine j_iload_n (pc := 53) d_Md_someLeads_53 rfl ?_
          refine j_icmp_gt (pc := 54) (tgt := 59) d_Md_someLeads_54 hr (fun hr => ?_) (fun hr => ?_)
          · exact mJ_weak (ls' := [(2, v0), (0, v1), (2, v2), (0, v3), (0, 1), (0, v5), (9, 0)]) (mwk_s (mwk_s (mwk_s (mwk_s (mwk_s (mwk_s (mwk_d mwk_n))))))) (t_Md_someLeads_J59 hR6 hr)
          · refine j_iconst (pc := 57) d_Md_someLeads_57 ?_
            exact j_zret (pc := 58) d_Md_someLeads_58 rfl hr
      · refine j_goto (pc := 35) (tgt := 59) d_Md_someLeads_35 ?_
        exact mJ_weak (ls' := [(2, v0), (0, v1), (2, v2), (0, v3), (0, v4), (0, v5), (9, 0)]) (mwk_s (mwk_s (mwk_s (mwk_s (mwk_s (mwk_s (mwk_d mwk_n))))))) (t_Md_someLeads_J59 hR6 hr)
theorem t_Md_someLeads_J88 {G : mG} {r : mR} {h : mH}  (hr : f_Md_someLeads_J88 h = some r) : mJ G M_Md_someLeads 88 [(9, 0), (9, 0), (9, 0), (9, 0), (9, 0), (9, 0), (9, 0)] [] h r := by
  unfold f_Md_someLeads_J88 at hr
  refine j_iconst (pc := 88) d_Md_someLeads_88 ?_
  exact j_zret (pc := 89) d_Md_someLeads_89 rfl hr
theorem t_Md_someLeads {G : mG} (h : mH) (v0 v1 v2 v3 : Int) (r : mR) (hr : f_Md_someLeads h v0 v1 v2 v3 = some r) : mJM G M_Md_someLeads [(2, v0), (0, v1), (2, v2), (0, v3)] h r := by
  refine mJM_of (L := [(2, v0), (0, v1), (2, v2), (0, v3), (9, 0), (9, 0), (9, 0)]) rfl rfl rfl (Nat.le_of_ble_eq_true rfl) ?_
  unfold f_Md_someLeads at hr
  refine j_iconst (pc := 0) d_Md_someLeads_0 ?_
  refine j_istore (pc := 1) (ls' := [(2, v0), (0, v1), (2, v2), (0, v3), (0, 0), (9, 0), (9, 0)]) d_Md_someLeads_1 rfl ?_
  refine j_iconst (pc := 3) d_Md_someLeads_3 ?_
  refine j_istore (pc := 4) (ls' := [(2, v0), (0, v1), (2, v2), (0, v3), (0, 0), (0, 0), (9, 0)]) d_Md_someLeads_4 rfl ?_
  refine mJ_weak (ls' := [(2, v0), (0, v1), (2, v2), (0, v3), (0, 0), (0, 0), (9, 0)]) (mwk_s (mwk_s (mwk_s (mwk_s (mwk_s (mwk_s (mwk_s mwk_n))))))) (t_Md_someLeads_L6 (fun h1 x2 hr => ?_) _ _ _ _ hr)
  · refine j_iload (pc := 65) d_Md_someLeads_65 rfl ?_
    refine j_if_ne (pc := 67) (tgt := 88) d_Md_someLeads_67 hr (fun hr => ?_) (fun hr => ?_)
    · exact mJ_weak (ls' := [(9, 0), (9, 0), (9, 0), (9, 0), (9, 0), (9, 0), (9, 0)]) (mwk_s (mwk_d (mwk_d (mwk_d (mwk_d (mwk_s (mwk_s mwk_n))))))) (t_Md_someLeads_J88  hr)
    · refine j_aload_n (pc := 70) d_Md_someLeads_70 rfl ?_
      refine j_iload_n (pc := 71) d_Md_someLeads_71 rfl ?_
      refine j_iaload (pc := 72) d_Md_someLeads_72 hr (fun hr => ?_)
      refine j_iconst (pc := 73) d_Md_someLeads_73 ?_
      refine j_icmp_eq (pc := 74) (tgt := 88) d_Md_someLeads_74 hr (fun hr => ?_) (fun hr => ?_)
      · exact mJ_weak (ls' := [(9, 0), (9, 0), (9, 0), (9, 0), (9, 0), (9, 0), (9, 0)]) (mwk_s (mwk_d (mwk_d (mwk_d (mwk_d (mwk_s (mwk_s mwk_n))))))) (t_Md_someLeads_J88  hr)
      · refine j_aload_n (pc := 77) d_Md_someLeads_77 rfl ?_
        refine j_iload_n (pc := 78) d_Md_someLeads_78 rfl ?_
        refine j_iaload (pc := 79) d_Md_someLeads_79 hr (fun hr => ?_)
        refine j_iload_n (pc := 80) d_Md_someLeads_80 rfl ?_
        refine j_icmp_gt (pc := 81) (tgt := 88) d_Md_someLeads_81 hr (fun hr => ?_) (fun hr => ?_)
        · exact mJ_weak (ls' := [(9, 0), (9, 0), (9, 0), (9, 0), (9, 0), (9, 0), (9, 0)]) (mwk_s (mwk_d (mwk_d (mwk_d (mwk_d (mwk_s (mwk_s mwk_n))))))) (t_Md_someLeads_J88  hr)
        · refine j_iconst (pc := 84) d_Md_someLeads_84 ?_
          refine j_goto (pc := 85) (tgt := 89) d_Md_someLeads_85 ?_
          exact j_zret (pc := 89) d_Md_someLeads_89 rfl hr
def M_Md_allLead : mM := ("NineBarsModel", ⟨"NineBarsModel", "allLead", "(I[II)Z"⟩, prog_13_method_107_code, 7, some .boolean, [], 5)
theorem tb_co_Md_allLead : mTB (Cond.code ⟨"NineBarsModel", "allLead", "(I[II)Z"⟩ prog_13_method_107_code 7 (some .boolean)) := tbq9 56 (by decide +kernel) rfl
theorem mc_Md_allLead {M : mM} (hd : 5 < mDp M) : mCal M M_Md_allLead 3 := ⟨tb_co_Md_allLead, tb_in_NineBarsModel, ⟨by decide +kernel, by decide +kernel⟩, by decide +kernel, hd, by decide⟩
theorem d_Md_allLead_0 : decode prog_13_method_107_code 0 = .ok (.iconst 0, 1) := by decide +kernel
theorem d_Md_allLead_1 : decode prog_13_method_107_code 1 = .ok (.istore 4, 2) := by decide +kernel
theorem d_Md_allLead_3 : decode prog_13_method_107_code 3 = .ok (.iconst 0, 1) := by decide +kernel
theorem d_Md_allLead_4 : decode prog_13_method_107_code 4 = .ok (.istore 5, 2) := by decide +kernel
theorem d_Md_allLead_6 : decode prog_13_method_107_code 6 = .ok (.iload 5, 2) := by decide +kernel
theorem d_Md_allLead_8 : decode prog_13_method_107_code 8 = .ok (.aload_n 0, 1) := by decide +kernel
theorem d_Md_allLead_9 : decode prog_13_method_107_code 9 = .ok (.invokevirtual 319, 3) := by decide +kernel
theorem d_Md_allLead_12 : decode prog_13_method_107_code 12 = .ok (.if_icmp .ge 53, 3) := by decide +kernel
theorem d_Md_allLead_15 : decode prog_13_method_107_code 15 = .ok (.aload_n 0, 1) := by decide +kernel
theorem d_Md_allLead_16 : decode prog_13_method_107_code 16 = .ok (.getfield 59, 3) := by decide +kernel
theorem d_Md_allLead_19 : decode prog_13_method_107_code 19 = .ok (.bipush 18, 2) := by decide +kernel
theorem d_Md_allLead_21 : decode prog_13_method_107_code 21 = .ok (.iload_n 1, 1) := by decide +kernel
theorem d_Md_allLead_22 : decode prog_13_method_107_code 22 = .ok (.imul, 1) := by decide +kernel
theorem d_Md_allLead_23 : decode prog_13_method_107_code 23 = .ok (.iload 5, 2) := by decide +kernel
theorem d_Md_allLead_25 : decode prog_13_method_107_code 25 = .ok (.iadd, 1) := by decide +kernel
theorem d_Md_allLead_26 : decode prog_13_method_107_code 26 = .ok (.iaload, 1) := by decide +kernel
theorem d_Md_allLead_27 : decode prog_13_method_107_code 27 = .ok (.istore 6, 2) := by decide +kernel
theorem d_Md_allLead_29 : decode prog_13_method_107_code 29 = .ok (.iload 6, 2) := by decide +kernel
theorem d_Md_allLead_31 : decode prog_13_method_107_code 31 = .ok (.iconst (-1), 1) := by decide +kernel
theorem d_Md_allLead_32 : decode prog_13_method_107_code 32 = .ok (.if_icmp .ne 6, 3) := by decide +kernel
theorem d_Md_allLead_38 : decode prog_13_method_107_code 38 = .ok (.iconst 1, 1) := by decide +kernel
theorem d_Md_allLead_39 : decode prog_13_method_107_code 39 = .ok (.istore 4, 2) := by decide +kernel
theorem d_Md_allLead_41 : decode prog_13_method_107_code 41 = .ok (.aload_n 2, 1) := by decide +kernel
theorem d_Md_allLead_42 : decode prog_13_method_107_code 42 = .ok (.iload 6, 2) := by decide +kernel
theorem d_Md_allLead_44 : decode prog_13_method_107_code 44 = .ok (.iaload, 1) := by decide +kernel
theorem d_Md_allLead_45 : decode prog_13_method_107_code 45 = .ok (.iconst (-1), 1) := by decide +kernel
theorem d_Md_allLead_46 : decode prog_13_method_107_code 46 = .ok (.if_icmp .eq 11, 3) := by decide +kernel
theorem d_Md_allLead_57 : decode prog_13_method_107_code 57 = .ok (.iconst 0, 1) := by decide +kernel
theorem d_Md_allLead_58 : decode prog_13_method_107_code 58 = .ok (.ireturn, 1) := by decide +kernel
theorem d_Md_allLead_49 : decode prog_13_method_107_code 49 = .ok (.aload_n 2, 1) := by decide +kernel
theorem d_Md_allLead_50 : decode prog_13_method_107_code 50 = .ok (.iload 6, 2) := by decide +kernel
theorem d_Md_allLead_52 : decode prog_13_method_107_code 52 = .ok (.iaload, 1) := by decide +kernel
theorem d_Md_allLead_53 : decode prog_13_method_107_code 53 = .ok (.iload_n 3, 1) := by decide +kernel
theorem d_Md_allLead_54 : decode prog_13_method_107_code 54 = .ok (.if_icmp .le 5, 3) := by decide +kernel
theorem d_Md_allLead_59 : decode prog_13_method_107_code 59 = .ok (.iinc 5 1, 3) := by decide +kernel
theorem d_Md_allLead_62 : decode prog_13_method_107_code 62 = .ok (.goto (-56), 3) := by decide +kernel
theorem d_Md_allLead_35 : decode prog_13_method_107_code 35 = .ok (.goto 24, 3) := by decide +kernel
theorem d_Md_allLead_65 : decode prog_13_method_107_code 65 = .ok (.iload 4, 2) := by decide +kernel
theorem d_Md_allLead_67 : decode prog_13_method_107_code 67 = .ok (.ifCond .ne 17, 3) := by decide +kernel
theorem d_Md_allLead_84 : decode prog_13_method_107_code 84 = .ok (.iconst 1, 1) := by decide +kernel
theorem d_Md_allLead_85 : decode prog_13_method_107_code 85 = .ok (.goto 4, 3) := by decide +kernel
theorem d_Md_allLead_89 : decode prog_13_method_107_code 89 = .ok (.ireturn, 1) := by decide +kernel
theorem d_Md_allLead_70 : decode prog_13_method_107_code 70 = .ok (.aload_n 2, 1) := by decide +kernel
theorem d_Md_allLead_71 : decode prog_13_method_107_code 71 = .ok (.iload_n 1, 1) := by decide +kernel
theorem d_Md_allLead_72 : decode prog_13_method_107_code 72 = .ok (.iaload, 1) := by decide +kernel
theorem d_Md_allLead_73 : decode prog_13_method_107_code 73 = .ok (.iconst (-1), 1) := by decide +kernel
theorem d_Md_allLead_74 : decode prog_13_method_107_code 74 = .ok (.if_icmp .eq 14, 3) := by decide +kernel
theorem d_Md_allLead_88 : decode prog_13_method_107_code 88 = .ok (.iconst 0, 1) := by decide +kernel
theorem d_Md_allLead_77 : decode prog_13_method_107_code 77 = .ok (.aload_n 2, 1) := by decide +kernel
theorem d_Md_allLead_78 : decode prog_13_method_107_code 78 = .ok (.iload_n 1, 1) := by decide +kernel
theorem d_Md_allLead_79 : decode prog_13_method_107_code 79 = .ok (.iaload, 1) := by decide +kernel
theorem d_Md_allLead_80 : decode prog_13_method_107_code 80 = .ok (.iload_n 3, 1) := by decide +kernel
theorem d_Md_allLead_81 : decode prog_13_method_107_code 81 = .ok (.if_icmp .gt 7, 3) := by decide +kernel
theorem t_Md_allLead_J59 {G : mG} {r : mR} {v0 v1 v2 v3 v4 v5 : Int} {h : mH} {R6 : mH → Int → Int → Option mR} (hR6 : ∀ (h : mH) (w4 w5 : Int) , R6 h w4 w5 = some r → mJ G M_Md_allLead 6 [(2, v0), (0, v1), (2, v2), (0, v3), (0, w4), (0, w5), (9, 0)] [] h r) (hr : f_Md_allLead_J59 R6 v4 v5 h = some r) : mJ G M_Md_allLead 59 [(2, v0), (0, v1), (2, v2), (0, v3), (0, v4), (0, v5), (9, 0)] [] h r := by
  unfold f_Md_allLead_J59 at hr
  refine j_iincW (pc := 59) (L := fun x1 => [(2, v0), (0, v1), (2, v2), (0, v3), (0, v4), (0, x1), (9, 0)]) d_Md_allLead_59 rfl (fun _ => rfl) hr (fun x1 hr => ?_)
  refine j_goto (pc := 62) (tgt := 6) d_Md_allLead_62 ?_
  exact mJ_weak (ls' := [(2, v0), (0, v1), (2, v2), (0, v3), (0, v4), (0, x1), (9, 0)]) (mwk_s (mwk_s (mwk_s (mwk_s (mwk_s (mwk_s (mwk_s mwk_n))))))) (hR6 h _ _ hr)
theorem t_Md_allLead_L6 {G : mG} {r : mR} {v0 v1 v2 v3 : Int} {K65 : mH → Int → Option mR} (hK65 : ∀ (h : mH) (w4 : Int) , K65 h w4 = some r → mJ G M_Md_allLead 65 [(9, 0), (0, v1), (2, v2), (0, v3), (0, w4), (9, 0), (9, 0)] [] h r) : ∀ (n : Nat) (h : mH) (v4 v5 : Int), f_Md_allLead_L6 K65 v0 v1 v2 v3 n h v4 v5 = some r → mJ G M_Md_allLead 6 [(2, v0), (0, v1), (2, v2), (0, v3), (0, v4), (0, v5), (9, 0)] [] h r := by
  intro n
  induction n with
  | zero =>
    intro h v4 v5 hr
    rw [f_Md_allLead_L6] at hr
    cases hr
  | succ n hR6 =>
    intro h v4 v5 hr
    rw [f_Md_allLead_L6] at hr
    refine j_iload (pc := 6) d_Md_allLead_6 rfl ?_
    refine j_aload_n (pc := 8) d_Md_allLead_8 rfl ?_
    obtain ⟨ha, hr⟩ := chk_some hr
    refine j_callG (pc := 9) (stk := [(2, v0), (0, v5)]) (as := [(2, v0)]) (P := (fun v9 => ((0 : Nat), v9) :: [(0, v5)])) (tg := 0) (My := M_Md_steps) (mRunV (as := []) (st := [(0, v5)]) d_Md_allLead_9 (mc_Md_steps (by decide)) rfl (mv_Md_steps tb_ml_Md_319) rfl (Nat.le_of_ble_eq_true rfl) ha) (fun v => rfl) rfl hr (fun r1 h1 => t_Md_steps _ _ _ h1) (fun x2 h1 hr => ?_)
    refine j_icmp_ge (pc := 12) (tgt := 65) d_Md_allLead_12 hr (fun hr => ?_) (fun hr => ?_)
    · exact mJ_weak (ls' := [(9, 0), (0, v1), (2, v2), (0, v3), (0, v4), (9, 0), (9, 0)]) (mwk_d (mwk_s (mwk_s (mwk_s (mwk_s (mwk_d (mwk_s mwk_n))))))) (hK65 h1 _ hr)
    · refine j_aload_n (pc := 15) d_Md_allLead_15 rfl ?_
      refine j_getf (pc := 16) d_Md_allLead_16 (fd_Md_59 rfl) hr (fun hr => ?_)
      refine j_bipush (pc := 19) d_Md_allLead_19 ?_
      refine j_iload_n (pc := 21) d_Md_allLead_21 rfl ?_
      refine j_imul (pc := 22) d_Md_allLead_22 ?_
      refine j_iload (pc := 23) d_Md_allLead_23 rfl ?_
      refine j_iadd (pc := 25) d_Md_allLead_25 ?_
      refine j_iaload (pc := 26) d_Md_allLead_26 hr (fun hr => ?_)
      refine j_istoreW (pc := 27) (L := fun x3 => [(2, v0), (0, v1), (2, v2), (0, v3), (0, v4), (0, v5), (0, x3)]) d_Md_allLead_27 (fun _ => rfl) hr (fun x3 hr => ?_)
      refine j_iload (pc := 29) d_Md_allLead_29 rfl ?_
      refine j_iconst (pc := 31) d_Md_allLead_31 ?_
      refine j_icmp_ne (pc := 32) (tgt := 38) d_Md_allLead_32 hr (fun hr => ?_) (fun hr => ?_)
      · refine j_iconst (pc := 38) d_Md_allLead_38 ?_
        refine j_istore (pc := 39) (ls' := [(2, v0), (0, v1), (2, v2), (0, v3), (0, 1), (0, v5), (0, x3)]) d_Md_allLead_39 rfl ?_
        refine j_aload_n (pc := 41) d_Md_allLead_41 rfl ?_
        refine j_iload (pc := 42) d_Md_allLead_42 rfl ?_
        refine j_iaload (pc := 44) d_Md_allLead_44 hr (fun hr => ?_)
        refine j_iconst (pc := 45) d_Md_allLead_45 ?_
        refine j_icmp_eq (pc := 46) (tgt := 57) d_Md_allLead_46 hr (fun hr => ?_) (fun hr => ?_)
        · refine j_iconst (pc := 57) d_Md_allLead_57 ?_
          exact j_zret (pc := 58) d_Md_allLead_58 rfl hr
        · refine j_aload_n (pc := 49) d_Md_allLead_49 rfl ?_
          refine j_iload (pc := 50) d_Md_allLead_50 rfl ?_
          refine j_iaload (pc := 52) d_Md_allLead_52 hr (fun hr => ?_)
          refine j_iload_n (pc := 53) d_Md_allLead_53 rfl ?_
          refine j_icmp_le (pc := 54) (tgt := 59) d_Md_allLead_54 hr (fun hr => ?_) (fun hr => ?_)
          · exact mJ_weak (ls' := [(2, v0), (0, v1), (2, v2), (0, v3), (0, 1), (0, v5), (9, 0)]) (mwk_s (mwk_s (mwk_s (mwk_s (mwk_s (mwk_s (mwk_d mwk_n))))))) (t_Md_allLead_J59 hR6 hr)
          · refine j_iconst (pc := 57) d_Md_allLead_57 ?_
            exact j_zret (pc := 58) d_Md_allLead_58 rfl hr
      · refine j_goto (pc := 35) (tgt := 59) d_Md_allLead_35 ?_
        exact mJ_weak (ls' := [(2, v0), (0, v1), (2, v2), (0, v3), (0, v4), (0, v5), (9, 0)]) (mwk_s (mwk_s (mwk_s (mwk_s (mwk_s (mwk_s (mwk_d mwk_n))))))) (t_Md_allLead_J59 hR6 hr)
theorem t_Md_allLead_J84 {G : mG} {r : mR} {h : mH}  (hr : f_Md_allLead_J84 h = some r) : mJ G M_Md_allLead 84 [(9, 0), (9, 0), (9, 0), (9, 0), (9, 0), (9, 0), (9, 0)] [] h r := by
  unfold f_Md_allLead_J84 at hr
  refine j_iconst (pc := 84) d_Md_allLead_84 ?_
  refine j_goto (pc := 85) (tgt := 89) d_Md_allLead_85 ?_
  exact j_zret (pc := 89) d_Md_allLead_89 rfl hr
theorem t_Md_allLead_J88 {G : mG} {r : mR} {h : mH}  (hr : f_Md_allLead_J88 h = some r) : mJ G M_Md_allLead 88 [(9, 0), (9, 0), (9, 0), (9, 0), (9, 0), (9, 0), (9, 0)] [] h r := by
  unfold f_Md_allLead_J88 at hr
  refine j_iconst (pc := 88) d_Md_allLead_88 ?_
  exact j_zret (pc := 89) d_Md_allLead_89 rfl hr
theorem t_Md_allLead {G : mG} (h : mH) (v0 v1 v2 v3 : Int) (r : mR) (hr : f_Md_allLead h v0 v1 v2 v3 = some r) : mJM G M_Md_allLead [(2, v0), (0, v1), (2, v2), (0, v3)] h r := by
  refine mJM_of (L := [(2, v0), (0, v1), (2, v2), (0, v3), (9, 0), (9, 0), (9, 0)]) rfl rfl rfl (Nat.le_of_ble_eq_true rfl) ?_
  unfold f_Md_allLead at hr
  refine j_iconst (pc := 0) d_Md_allLead_0 ?_
  refine j_istore (pc := 1) (ls' := [(2, v0), (0, v1), (2, v2), (0, v3), (0, 0), (9, 0), (9, 0)]) d_Md_allLead_1 rfl ?_
  refine j_iconst (pc := 3) d_Md_allLead_3 ?_
  refine j_istore (pc := 4) (ls' := [(2, v0), (0, v1), (2, v2), (0, v3), (0, 0), (0, 0), (9, 0)]) d_Md_allLead_4 rfl ?_
  refine mJ_weak (ls' := [(2, v0), (0, v1), (2, v2), (0, v3), (0, 0), (0, 0), (9, 0)]) (mwk_s (mwk_s (mwk_s (mwk_s (mwk_s (mwk_s (mwk_s mwk_n))))))) (t_Md_allLead_L6 (fun h1 x2 hr => ?_) _ _ _ _ hr)
  · refine j_iload (pc := 65) d_Md_allLead_65 rfl ?_
    refine j_if_ne (pc := 67) (tgt := 84) d_Md_allLead_67 hr (fun hr => ?_) (fun hr => ?_)
    · exact mJ_weak (ls' := [(9, 0), (9, 0), (9, 0), (9, 0), (9, 0), (9, 0), (9, 0)]) (mwk_s (mwk_d (mwk_d (mwk_d (mwk_d (mwk_s (mwk_s mwk_n))))))) (t_Md_allLead_J84  hr)
    · refine j_aload_n (pc := 70) d_Md_allLead_70 rfl ?_
      refine j_iload_n (pc := 71) d_Md_allLead_71 rfl ?_
      refine j_iaload (pc := 72) d_Md_allLead_72 hr (fun hr => ?_)
      refine j_iconst (pc := 73) d_Md_allLead_73 ?_
      refine j_icmp_eq (pc := 74) (tgt := 88) d_Md_allLead_74 hr (fun hr => ?_) (fun hr => ?_)
      · exact mJ_weak (ls' := [(9, 0), (9, 0), (9, 0), (9, 0), (9, 0), (9, 0), (9, 0)]) (mwk_s (mwk_d (mwk_d (mwk_d (mwk_d (mwk_s (mwk_s mwk_n))))))) (t_Md_allLead_J88  hr)
      · refine j_aload_n (pc := 77) d_Md_allLead_77 rfl ?_
        refine j_iload_n (pc := 78) d_Md_allLead_78 rfl ?_
        refine j_iaload (pc := 79) d_Md_allLead_79 hr (fun hr => ?_)
        refine j_iload_n (pc := 80) d_Md_allLead_80 rfl ?_
        refine j_icmp_gt (pc := 81) (tgt := 88) d_Md_allLead_81 hr (fun hr => ?_) (fun hr => ?_)
        · exact mJ_weak (ls' := [(9, 0), (9, 0), (9, 0), (9, 0), (9, 0), (9, 0), (9, 0)]) (mwk_s (mwk_d (mwk_d (mwk_d (mwk_d (mwk_s (mwk_s mwk_n))))))) (t_Md_allLead_J88  hr)
        · exact mJ_weak (ls' := [(9, 0), (9, 0), (9, 0), (9, 0), (9, 0), (9, 0), (9, 0)]) (mwk_s (mwk_d (mwk_d (mwk_d (mwk_d (mwk_s (mwk_s mwk_n))))))) (t_Md_allLead_J84  hr)
def M_Md_keys : mM := ("NineBarsModel", ⟨"NineBarsModel", "keys", "()I"⟩, prog_13_method_108_code, 3, some .int, [], 11)
theorem tb_co_Md_keys : mTB (Cond.code ⟨"NineBarsModel", "keys", "()I"⟩ prog_13_method_108_code 3 (some .int)) := tbq9 48 (by decide +kernel) rfl
theorem mc_Md_keys {M : mM} (hd : 11 < mDp M) : mCal M M_Md_keys 0 := ⟨tb_co_Md_keys, tb_in_NineBarsModel, ⟨by decide +kernel, by decide +kernel⟩, by decide +kernel, hd, by decide⟩
theorem d_Md_keys_0 : decode prog_13_method_108_code 0 = .ok (.aload_n 0, 1) := by decide +kernel
theorem d_Md_keys_1 : decode prog_13_method_108_code 1 = .ok (.aload_n 0, 1) := by decide +kernel
theorem d_Md_keys_2 : decode prog_13_method_108_code 2 = .ok (.invokevirtual 261, 3) := by decide +kernel
theorem d_Md_keys_5 : decode prog_13_method_108_code 5 = .ok (.ifCond .eq 7, 3) := by decide +kernel
theorem d_Md_keys_12 : decode prog_13_method_108_code 12 = .ok (.iconst 0, 1) := by decide +kernel
theorem d_Md_keys_13 : decode prog_13_method_108_code 13 = .ok (.putfield 86, 3) := by decide +kernel
theorem d_Md_keys_16 : decode prog_13_method_108_code 16 = .ok (.aload_n 0, 1) := by decide +kernel
theorem d_Md_keys_17 : decode prog_13_method_108_code 17 = .ok (.getfield 86, 3) := by decide +kernel
theorem d_Md_keys_20 : decode prog_13_method_108_code 20 = .ok (.ifCond .le 5, 3) := by decide +kernel
theorem d_Md_keys_25 : decode prog_13_method_108_code 25 = .ok (.aload_n 0, 1) := by decide +kernel
theorem d_Md_keys_26 : decode prog_13_method_108_code 26 = .ok (.invokevirtual 376, 3) := by decide +kernel
theorem d_Md_keys_29 : decode prog_13_method_108_code 29 = .ok (.iconst 0, 1) := by decide +kernel
theorem d_Md_keys_30 : decode prog_13_method_108_code 30 = .ok (.istore_n 1, 1) := by decide +kernel
theorem d_Md_keys_31 : decode prog_13_method_108_code 31 = .ok (.iload_n 1, 1) := by decide +kernel
theorem d_Md_keys_32 : decode prog_13_method_108_code 32 = .ok (.aload_n 0, 1) := by decide +kernel
theorem d_Md_keys_33 : decode prog_13_method_108_code 33 = .ok (.invokevirtual 219, 3) := by decide +kernel
theorem d_Md_keys_36 : decode prog_13_method_108_code 36 = .ok (.if_icmp .ge 40, 3) := by decide +kernel
theorem d_Md_keys_39 : decode prog_13_method_108_code 39 = .ok (.aload_n 0, 1) := by decide +kernel
theorem d_Md_keys_40 : decode prog_13_method_108_code 40 = .ok (.getfield 71, 3) := by decide +kernel
theorem d_Md_keys_43 : decode prog_13_method_108_code 43 = .ok (.iload_n 1, 1) := by decide +kernel
theorem d_Md_keys_44 : decode prog_13_method_108_code 44 = .ok (.iload_n 1, 1) := by decide +kernel
theorem d_Md_keys_45 : decode prog_13_method_108_code 45 = .ok (.aload_n 0, 1) := by decide +kernel
theorem d_Md_keys_46 : decode prog_13_method_108_code 46 = .ok (.invokevirtual 341, 3) := by decide +kernel
theorem d_Md_keys_49 : decode prog_13_method_108_code 49 = .ok (.if_icmp .ne 7, 3) := by decide +kernel
theorem d_Md_keys_56 : decode prog_13_method_108_code 56 = .ok (.iconst (-1), 1) := by decide +kernel
theorem d_Md_keys_57 : decode prog_13_method_108_code 57 = .ok (.iastore, 1) := by decide +kernel
theorem d_Md_keys_58 : decode prog_13_method_108_code 58 = .ok (.aload_n 0, 1) := by decide +kernel
theorem d_Md_keys_59 : decode prog_13_method_108_code 59 = .ok (.getfield 74, 3) := by decide +kernel
theorem d_Md_keys_62 : decode prog_13_method_108_code 62 = .ok (.iload_n 1, 1) := by decide +kernel
theorem d_Md_keys_63 : decode prog_13_method_108_code 63 = .ok (.aload_n 0, 1) := by decide +kernel
theorem d_Md_keys_64 : decode prog_13_method_108_code 64 = .ok (.getfield 71, 3) := by decide +kernel
theorem d_Md_keys_67 : decode prog_13_method_108_code 67 = .ok (.iload_n 1, 1) := by decide +kernel
theorem d_Md_keys_68 : decode prog_13_method_108_code 68 = .ok (.iaload, 1) := by decide +kernel
theorem d_Md_keys_69 : decode prog_13_method_108_code 69 = .ok (.iastore, 1) := by decide +kernel
theorem d_Md_keys_70 : decode prog_13_method_108_code 70 = .ok (.iinc 1 1, 3) := by decide +kernel
theorem d_Md_keys_73 : decode prog_13_method_108_code 73 = .ok (.goto (-42), 3) := by decide +kernel
theorem d_Md_keys_52 : decode prog_13_method_108_code 52 = .ok (.iconst 0, 1) := by decide +kernel
theorem d_Md_keys_53 : decode prog_13_method_108_code 53 = .ok (.goto 4, 3) := by decide +kernel
theorem d_Md_keys_76 : decode prog_13_method_108_code 76 = .ok (.iconst 1, 1) := by decide +kernel
theorem d_Md_keys_77 : decode prog_13_method_108_code 77 = .ok (.istore_n 1, 1) := by decide +kernel
theorem d_Md_keys_78 : decode prog_13_method_108_code 78 = .ok (.iload_n 1, 1) := by decide +kernel
theorem d_Md_keys_79 : decode prog_13_method_108_code 79 = .ok (.bipush 60, 2) := by decide +kernel
theorem d_Md_keys_81 : decode prog_13_method_108_code 81 = .ok (.if_icmp .gt 102, 3) := by decide +kernel
theorem d_Md_keys_84 : decode prog_13_method_108_code 84 = .ok (.aload_n 0, 1) := by decide +kernel
theorem d_Md_keys_85 : decode prog_13_method_108_code 85 = .ok (.getfield 71, 3) := by decide +kernel
theorem d_Md_keys_88 : decode prog_13_method_108_code 88 = .ok (.aload_n 0, 1) := by decide +kernel
theorem d_Md_keys_89 : decode prog_13_method_108_code 89 = .ok (.invokevirtual 265, 3) := by decide +kernel
theorem d_Md_keys_92 : decode prog_13_method_108_code 92 = .ok (.iaload, 1) := by decide +kernel
theorem d_Md_keys_93 : decode prog_13_method_108_code 93 = .ok (.iconst (-1), 1) := by decide +kernel
theorem d_Md_keys_94 : decode prog_13_method_108_code 94 = .ok (.if_icmp .ne 89, 3) := by decide +kernel
theorem d_Md_keys_97 : decode prog_13_method_108_code 97 = .ok (.iconst 0, 1) := by decide +kernel
theorem d_Md_keys_98 : decode prog_13_method_108_code 98 = .ok (.istore_n 2, 1) := by decide +kernel
theorem d_Md_keys_99 : decode prog_13_method_108_code 99 = .ok (.iload_n 2, 1) := by decide +kernel
theorem d_Md_keys_100 : decode prog_13_method_108_code 100 = .ok (.aload_n 0, 1) := by decide +kernel
theorem d_Md_keys_101 : decode prog_13_method_108_code 101 = .ok (.invokevirtual 219, 3) := by decide +kernel
theorem d_Md_keys_104 : decode prog_13_method_108_code 104 = .ok (.if_icmp .ge 73, 3) := by decide +kernel
theorem d_Md_keys_107 : decode prog_13_method_108_code 107 = .ok (.aload_n 0, 1) := by decide +kernel
theorem d_Md_keys_108 : decode prog_13_method_108_code 108 = .ok (.getfield 71, 3) := by decide +kernel
theorem d_Md_keys_111 : decode prog_13_method_108_code 111 = .ok (.iload_n 2, 1) := by decide +kernel
theorem d_Md_keys_112 : decode prog_13_method_108_code 112 = .ok (.iaload, 1) := by decide +kernel
theorem d_Md_keys_113 : decode prog_13_method_108_code 113 = .ok (.iconst (-1), 1) := by decide +kernel
theorem d_Md_keys_114 : decode prog_13_method_108_code 114 = .ok (.if_icmp .ne 25, 3) := by decide +kernel
theorem d_Md_keys_139 : decode prog_13_method_108_code 139 = .ok (.aload_n 0, 1) := by decide +kernel
theorem d_Md_keys_140 : decode prog_13_method_108_code 140 = .ok (.getfield 74, 3) := by decide +kernel
theorem d_Md_keys_143 : decode prog_13_method_108_code 143 = .ok (.iload_n 2, 1) := by decide +kernel
theorem d_Md_keys_144 : decode prog_13_method_108_code 144 = .ok (.iaload, 1) := by decide +kernel
theorem d_Md_keys_145 : decode prog_13_method_108_code 145 = .ok (.iconst (-1), 1) := by decide +kernel
theorem d_Md_keys_146 : decode prog_13_method_108_code 146 = .ok (.if_icmp .ne 25, 3) := by decide +kernel
theorem d_Md_keys_171 : decode prog_13_method_108_code 171 = .ok (.iinc 2 1, 3) := by decide +kernel
theorem d_Md_keys_174 : decode prog_13_method_108_code 174 = .ok (.goto (-75), 3) := by decide +kernel
theorem d_Md_keys_149 : decode prog_13_method_108_code 149 = .ok (.aload_n 0, 1) := by decide +kernel
theorem d_Md_keys_150 : decode prog_13_method_108_code 150 = .ok (.iload_n 2, 1) := by decide +kernel
theorem d_Md_keys_151 : decode prog_13_method_108_code 151 = .ok (.aload_n 0, 1) := by decide +kernel
theorem d_Md_keys_152 : decode prog_13_method_108_code 152 = .ok (.getfield 71, 3) := by decide +kernel
theorem d_Md_keys_155 : decode prog_13_method_108_code 155 = .ok (.iload_n 1, 1) := by decide +kernel
theorem d_Md_keys_156 : decode prog_13_method_108_code 156 = .ok (.iconst 1, 1) := by decide +kernel
theorem d_Md_keys_157 : decode prog_13_method_108_code 157 = .ok (.isub, 1) := by decide +kernel
theorem d_Md_keys_158 : decode prog_13_method_108_code 158 = .ok (.invokevirtual 419, 3) := by decide +kernel
theorem tb_ml_Md_419 : mTB (Cond.methodLink "NineBarsModel" 419 ⟨"NineBarsModel", "allLead", "(I[II)Z"⟩) := tbq9 53 (by decide +kernel) rfl
theorem tb_im_Md_allLead : mTB (Cond.instanceMethod ⟨"NineBarsModel", "allLead", "(I[II)Z"⟩) := tbq9 55 (by decide +kernel) rfl
theorem tb_se_Md_allLead : mTB (Cond.selects "NineBarsModel" ⟨"NineBarsModel", "allLead", "(I[II)Z"⟩ ⟨"NineBarsModel", "allLead", "(I[II)Z"⟩) := tbqp 106 (by decide +kernel) rfl
theorem mv_Md_allLead {M : mM} {idx : Nat} (h : mTB (Cond.methodLink (mO M) idx ⟨"NineBarsModel", "allLead", "(I[II)Z"⟩)) : mCaV M M_Md_allLead idx 11 := ⟨h, tb_im_Md_allLead, tb_se_Md_allLead, by decide, TX11, 40, rfl⟩
theorem d_Md_keys_161 : decode prog_13_method_108_code 161 = .ok (.ifCond .eq 10, 3) := by decide +kernel
theorem d_Md_keys_164 : decode prog_13_method_108_code 164 = .ok (.aload_n 0, 1) := by decide +kernel
theorem d_Md_keys_165 : decode prog_13_method_108_code 165 = .ok (.getfield 74, 3) := by decide +kernel
theorem d_Md_keys_168 : decode prog_13_method_108_code 168 = .ok (.iload_n 2, 1) := by decide +kernel
theorem d_Md_keys_169 : decode prog_13_method_108_code 169 = .ok (.iload_n 1, 1) := by decide +kernel
theorem d_Md_keys_170 : decode prog_13_method_108_code 170 = .ok (.iastore, 1) := by decide +kernel
theorem d_Md_keys_117 : decode prog_13_method_108_code 117 = .ok (.aload_n 0, 1) := by decide +kernel
theorem d_Md_keys_118 : decode prog_13_method_108_code 118 = .ok (.iload_n 2, 1) := by decide +kernel
theorem d_Md_keys_119 : decode prog_13_method_108_code 119 = .ok (.aload_n 0, 1) := by decide +kernel
theorem d_Md_keys_120 : decode prog_13_method_108_code 120 = .ok (.getfield 74, 3) := by decide +kernel
theorem d_Md_keys_123 : decode prog_13_method_108_code 123 = .ok (.iload_n 1, 1) := by decide +kernel
theorem d_Md_keys_124 : decode prog_13_method_108_code 124 = .ok (.iconst 1, 1) := by decide +kernel
theorem d_Md_keys_125 : decode prog_13_method_108_code 125 = .ok (.isub, 1) := by decide +kernel
theorem d_Md_keys_126 : decode prog_13_method_108_code 126 = .ok (.invokevirtual 415, 3) := by decide +kernel
theorem tb_ml_Md_415 : mTB (Cond.methodLink "NineBarsModel" 415 ⟨"NineBarsModel", "someLeads", "(I[II)Z"⟩) := tbq9 49 (by decide +kernel) rfl
theorem tb_im_Md_someLeads : mTB (Cond.instanceMethod ⟨"NineBarsModel", "someLeads", "(I[II)Z"⟩) := tbq9 51 (by decide +kernel) rfl
theorem tb_se_Md_someLeads : mTB (Cond.selects "NineBarsModel" ⟨"NineBarsModel", "someLeads", "(I[II)Z"⟩ ⟨"NineBarsModel", "someLeads", "(I[II)Z"⟩) := tbqp 105 (by decide +kernel) rfl
theorem mv_Md_someLeads {M : mM} {idx : Nat} (h : mTB (Cond.methodLink (mO M) idx ⟨"NineBarsModel", "someLeads", "(I[II)Z"⟩)) : mCaV M M_Md_someLeads idx 11 := ⟨h, tb_im_Md_someLeads, tb_se_Md_someLeads, by decide, TX11, 40, rfl⟩
theorem d_Md_keys_129 : decode prog_13_method_108_code 129 = .ok (.ifCond .eq 10, 3) := by decide +kernel
theorem d_Md_keys_132 : decode prog_13_method_108_code 132 = .ok (.aload_n 0, 1) := by decide +kernel
theorem d_Md_keys_133 : decode prog_13_method_108_code 133 = .ok (.getfield 71, 3) := by decide +kernel
theorem d_Md_keys_136 : decode prog_13_method_108_code 136 = .ok (.iload_n 2, 1) := by decide +kernel
theorem d_Md_keys_137 : decode prog_13_method_108_code 137 = .ok (.iload_n 1, 1) := by decide +kernel
theorem d_Md_keys_138 : decode prog_13_method_108_code 138 = .ok (.iastore, 1) := by decide +kernel
theorem d_Md_keys_177 : decode prog_13_method_108_code 177 = .ok (.iinc 1 1, 3) := by decide +kernel
theorem d_Md_keys_180 : decode prog_13_method_108_code 180 = .ok (.goto (-102), 3) := by decide +kernel
theorem d_Md_keys_183 : decode prog_13_method_108_code 183 = .ok (.aload_n 0, 1) := by decide +kernel
theorem d_Md_keys_184 : decode prog_13_method_108_code 184 = .ok (.getfield 71, 3) := by decide +kernel
theorem d_Md_keys_187 : decode prog_13_method_108_code 187 = .ok (.aload_n 0, 1) := by decide +kernel
theorem d_Md_keys_188 : decode prog_13_method_108_code 188 = .ok (.invokevirtual 265, 3) := by decide +kernel
theorem d_Md_keys_191 : decode prog_13_method_108_code 191 = .ok (.iaload, 1) := by decide +kernel
theorem d_Md_keys_192 : decode prog_13_method_108_code 192 = .ok (.ireturn, 1) := by decide +kernel
theorem d_Md_keys_23 : decode prog_13_method_108_code 23 = .ok (.iconst 0, 1) := by decide +kernel
theorem d_Md_keys_24 : decode prog_13_method_108_code 24 = .ok (.ireturn, 1) := by decide +kernel
theorem d_Md_keys_8 : decode prog_13_method_108_code 8 = .ok (.iconst 1, 1) := by decide +kernel
theorem d_Md_keys_9 : decode prog_13_method_108_code 9 = .ok (.goto 4, 3) := by decide +kernel
theorem t_Md_keys_J57 {G : mG} {r : mR} {v0 v1 s0 s1 s2 : Int} {h : mH} {R31 : mH → Int → Option mR} (hR31 : ∀ (h : mH) (w1 : Int) , R31 h w1 = some r → mJ G M_Md_keys 31 [(2, v0), (0, w1), (9, 0)] [] h r) (hr : f_Md_keys_J57 R31 v0 v1 s0 s1 s2 h = some r) : mJ G M_Md_keys 57 [(2, v0), (0, v1), (9, 0)] [(0, s2), (0, s1), (2, s0)] h r := by
  unfold f_Md_keys_J57 at hr
  refine j_iastore (pc := 57) d_Md_keys_57 hr (fun h1 hr => ?_)
  refine j_aload_n (pc := 58) d_Md_keys_58 rfl ?_
  refine j_getf (pc := 59) d_Md_keys_59 (fd_Md_74 rfl) hr (fun hr => ?_)
  refine j_iload_n (pc := 62) d_Md_keys_62 rfl ?_
  refine j_aload_n (pc := 63) d_Md_keys_63 rfl ?_
  refine j_getf (pc := 64) d_Md_keys_64 (fd_Md_71 rfl) hr (fun hr => ?_)
  refine j_iload_n (pc := 67) d_Md_keys_67 rfl ?_
  refine j_iaload (pc := 68) d_Md_keys_68 hr (fun hr => ?_)
  refine j_iastore (pc := 69) d_Md_keys_69 hr (fun h2 hr => ?_)
  refine j_iincW (pc := 70) (L := fun x3 => [(2, v0), (0, x3), (9, 0)]) d_Md_keys_70 rfl (fun _ => rfl) hr (fun x3 hr => ?_)
  refine j_goto (pc := 73) (tgt := 31) d_Md_keys_73 ?_
  exact mJ_weak (ls' := [(2, v0), (0, x3), (9, 0)]) (mwk_s (mwk_s (mwk_s mwk_n))) (hR31 h2 _ hr)
theorem t_Md_keys_L31 {G : mG} {r : mR} {v0 : Int} {K76 : mH → Option mR} (hK76 : ∀ (h : mH) , K76 h  = some r → mJ G M_Md_keys 76 [(2, v0), (9, 0), (9, 0)] [] h r) : ∀ (n : Nat) (h : mH) (v1 : Int), f_Md_keys_L31 K76 v0 n h v1 = some r → mJ G M_Md_keys 31 [(2, v0), (0, v1), (9, 0)] [] h r := by
  intro n
  induction n with
  | zero =>
    intro h v1 hr
    rw [f_Md_keys_L31] at hr
    cases hr
  | succ n hR31 =>
    intro h v1 hr
    rw [f_Md_keys_L31] at hr
    refine j_iload_n (pc := 31) d_Md_keys_31 rfl ?_
    refine j_aload_n (pc := 32) d_Md_keys_32 rfl ?_
    obtain ⟨ha, hr⟩ := chk_some hr
    refine j_callG (pc := 33) (stk := [(2, v0), (0, v1)]) (as := [(2, v0)]) (P := (fun v9 => ((0 : Nat), v9) :: [(0, v1)])) (tg := 0) (My := M_Md_stands) (mRunV (as := []) (st := [(0, v1)]) d_Md_keys_33 (mc_Md_stands (by decide)) rfl (mv_Md_stands tb_ml_Md_219) rfl (Nat.le_of_ble_eq_true rfl) ha) (fun v => rfl) rfl hr (fun r1 h1 => t_Md_stands _ _ _ h1) (fun x2 h1 hr => ?_)
    refine j_icmp_ge (pc := 36) (tgt := 76) d_Md_keys_36 hr (fun hr => ?_) (fun hr => ?_)
    · exact mJ_weak (ls' := [(2, v0), (9, 0), (9, 0)]) (mwk_s (mwk_d (mwk_s mwk_n))) (hK76 h1  hr)
    · refine j_aload_n (pc := 39) d_Md_keys_39 rfl ?_
      refine j_getf (pc := 40) d_Md_keys_40 (fd_Md_71 rfl) hr (fun hr => ?_)
      refine j_iload_n (pc := 43) d_Md_keys_43 rfl ?_
      refine j_iload_n (pc := 44) d_Md_keys_44 rfl ?_
      refine j_aload_n (pc := 45) d_Md_keys_45 rfl ?_
      obtain ⟨ha, hr⟩ := chk_some hr
      refine j_callG (pc := 46) (stk := [(2, v0), (0, v1), (0, v1), (2, hpV h1 v0 35)]) (as := [(2, v0)]) (P := (fun v9 => ((0 : Nat), v9) :: [(0, v1), (0, v1), (2, hpV h1 v0 35)])) (tg := 0) (My := M_Md_openStand) (mRunV (as := []) (st := [(0, v1), (0, v1), (2, hpV h1 v0 35)]) d_Md_keys_46 (mc_Md_openStand (by decide)) rfl (mv_Md_openStand tb_ml_Md_341) rfl (Nat.le_of_ble_eq_true rfl) ha) (fun v => rfl) rfl hr (fun r1 h1 => t_Md_openStand _ _ _ h1) (fun x4 h3 hr => ?_)
      refine j_icmp_ne (pc := 49) (tgt := 56) d_Md_keys_49 hr (fun hr => ?_) (fun hr => ?_)
      · refine j_iconst (pc := 56) d_Md_keys_56 ?_
        exact mJ_weak (ls' := [(2, v0), (0, v1), (9, 0)]) (mwk_s (mwk_s (mwk_s mwk_n))) (t_Md_keys_J57 hR31 hr)
      · refine j_iconst (pc := 52) d_Md_keys_52 ?_
        refine j_goto (pc := 53) (tgt := 57) d_Md_keys_53 ?_
        exact mJ_weak (ls' := [(2, v0), (0, v1), (9, 0)]) (mwk_s (mwk_s (mwk_s mwk_n))) (t_Md_keys_J57 hR31 hr)
theorem t_Md_keys_J171 {G : mG} {r : mR} {v0 v1 v2 : Int} {h : mH} {R99 : mH → Int → Option mR} (hR99 : ∀ (h : mH) (w2 : Int) , R99 h w2 = some r → mJ G M_Md_keys 99 [(2, v0), (0, v1), (0, w2)] [] h r) (hr : f_Md_keys_J171 R99 v2 h = some r) : mJ G M_Md_keys 171 [(2, v0), (0, v1), (0, v2)] [] h r := by
  unfold f_Md_keys_J171 at hr
  refine j_iincW (pc := 171) (L := fun x1 => [(2, v0), (0, v1), (0, x1)]) d_Md_keys_171 rfl (fun _ => rfl) hr (fun x1 hr => ?_)
  refine j_goto (pc := 174) (tgt := 99) d_Md_keys_174 ?_
  exact mJ_weak (ls' := [(2, v0), (0, v1), (0, x1)]) (mwk_s (mwk_s (mwk_s mwk_n))) (hR99 h _ hr)
theorem t_Md_keys_J139 {G : mG} {r : mR} {v0 v1 v2 : Int} {h : mH} {R99 : mH → Int → Option mR} (hR99 : ∀ (h : mH) (w2 : Int) , R99 h w2 = some r → mJ G M_Md_keys 99 [(2, v0), (0, v1), (0, w2)] [] h r) (hr : f_Md_keys_J139 R99 v0 v1 v2 h = some r) : mJ G M_Md_keys 139 [(2, v0), (0, v1), (0, v2)] [] h r := by
  unfold f_Md_keys_J139 at hr
  refine j_aload_n (pc := 139) d_Md_keys_139 rfl ?_
  refine j_getf (pc := 140) d_Md_keys_140 (fd_Md_74 rfl) hr (fun hr => ?_)
  refine j_iload_n (pc := 143) d_Md_keys_143 rfl ?_
  refine j_iaload (pc := 144) d_Md_keys_144 hr (fun hr => ?_)
  refine j_iconst (pc := 145) d_Md_keys_145 ?_
  refine j_icmp_ne (pc := 146) (tgt := 171) d_Md_keys_146 hr (fun hr => ?_) (fun hr => ?_)
  · exact mJ_weak (ls' := [(2, v0), (0, v1), (0, v2)]) (mwk_s (mwk_s (mwk_s mwk_n))) (t_Md_keys_J171 hR99 hr)
  · refine j_aload_n (pc := 149) d_Md_keys_149 rfl ?_
    refine j_iload_n (pc := 150) d_Md_keys_150 rfl ?_
    refine j_aload_n (pc := 151) d_Md_keys_151 rfl ?_
    refine j_getf (pc := 152) d_Md_keys_152 (fd_Md_71 rfl) hr (fun hr => ?_)
    refine j_iload_n (pc := 155) d_Md_keys_155 rfl ?_
    refine j_iconst (pc := 156) d_Md_keys_156 ?_
    refine j_isub (pc := 157) d_Md_keys_157 ?_
    obtain ⟨ha, hr⟩ := chk_some hr
    refine j_callG (pc := 158) (stk := [(0, w32 (v1 - 1)), (2, hpV h v0 35), (0, v2), (2, v0)]) (as := [(2, v0), (0, v2), (2, hpV h v0 35), (0, w32 (v1 - 1))]) (P := (fun v9 => ((0 : Nat), v9) :: [])) (tg := 0) (My := M_Md_allLead) (mRunV (as := [(0, v2), (2, hpV h v0 35), (0, w32 (v1 - 1))]) (st := []) d_Md_keys_158 (mc_Md_allLead (by decide)) rfl (mv_Md_allLead tb_ml_Md_419) rfl (Nat.le_of_ble_eq_true rfl) ha) (fun v => rfl) rfl hr (fun r1 h1 => t_Md_allLead _ _ _ _ _ _ h1) (fun x2 h1 hr => ?_)
    refine j_if_eq (pc := 161) (tgt := 171) d_Md_keys_161 hr (fun hr => ?_) (fun hr => ?_)
    · exact mJ_weak (ls' := [(2, v0), (0, v1), (0, v2)]) (mwk_s (mwk_s (mwk_s mwk_n))) (t_Md_keys_J171 hR99 hr)
    · refine j_aload_n (pc := 164) d_Md_keys_164 rfl ?_
      refine j_getf (pc := 165) d_Md_keys_165 (fd_Md_74 rfl) hr (fun hr => ?_)
      refine j_iload_n (pc := 168) d_Md_keys_168 rfl ?_
      refine j_iload_n (pc := 169) d_Md_keys_169 rfl ?_
      refine j_iastore (pc := 170) d_Md_keys_170 hr (fun h3 hr => ?_)
      exact mJ_weak (ls' := [(2, v0), (0, v1), (0, v2)]) (mwk_s (mwk_s (mwk_s mwk_n))) (t_Md_keys_J171 hR99 hr)
theorem t_Md_keys_L99 {G : mG} {r : mR} {v0 v1 : Int} {K177 : mH → Option mR} (hK177 : ∀ (h : mH) , K177 h  = some r → mJ G M_Md_keys 177 [(2, v0), (0, v1), (9, 0)] [] h r) : ∀ (n : Nat) (h : mH) (v2 : Int), f_Md_keys_L99 K177 v0 v1 n h v2 = some r → mJ G M_Md_keys 99 [(2, v0), (0, v1), (0, v2)] [] h r := by
  intro n
  induction n with
  | zero =>
    intro h v2 hr
    rw [f_Md_keys_L99] at hr
    cases hr
  | succ n hR99 =>
    intro h v2 hr
    rw [f_Md_keys_L99] at hr
    refine j_iload_n (pc := 99) d_Md_keys_99 rfl ?_
    refine j_aload_n (pc := 100) d_Md_keys_100 rfl ?_
    obtain ⟨ha, hr⟩ := chk_some hr
    refine j_callG (pc := 101) (stk := [(2, v0), (0, v2)]) (as := [(2, v0)]) (P := (fun v9 => ((0 : Nat), v9) :: [(0, v2)])) (tg := 0) (My := M_Md_stands) (mRunV (as := []) (st := [(0, v2)]) d_Md_keys_101 (mc_Md_stands (by decide)) rfl (mv_Md_stands tb_ml_Md_219) rfl (Nat.le_of_ble_eq_true rfl) ha) (fun v => rfl) rfl hr (fun r1 h1 => t_Md_stands _ _ _ h1) (fun x2 h1 hr => ?_)
    refine j_icmp_ge (pc := 104) (tgt := 177) d_Md_keys_104 hr (fun hr => ?_) (fun hr => ?_)
    · exact mJ_weak (ls' := [(2, v0), (0, v1), (9, 0)]) (mwk_s (mwk_s (mwk_d mwk_n))) (hK177 h1  hr)
    · refine j_aload_n (pc := 107) d_Md_keys_107 rfl ?_
      refine j_getf (pc := 108) d_Md_keys_108 (fd_Md_71 rfl) hr (fun hr => ?_)
      refine j_iload_n (pc := 111) d_Md_keys_111 rfl ?_
      refine j_iaload (pc := 112) d_Md_keys_112 hr (fun hr => ?_)
      refine j_iconst (pc := 113) d_Md_keys_113 ?_
      refine j_icmp_ne (pc := 114) (tgt := 139) d_Md_keys_114 hr (fun hr => ?_) (fun hr => ?_)
      · exact mJ_weak (ls' := [(2, v0), (0, v1), (0, v2)]) (mwk_s (mwk_s (mwk_s mwk_n))) (t_Md_keys_J139 hR99 hr)
      · refine j_aload_n (pc := 117) d_Md_keys_117 rfl ?_
        refine j_iload_n (pc := 118) d_Md_keys_118 rfl ?_
        refine j_aload_n (pc := 119) d_Md_keys_119 rfl ?_
        refine j_getf (pc := 120) d_Md_keys_120 (fd_Md_74 rfl) hr (fun hr => ?_)
        refine j_iload_n (pc := 123) d_Md_keys_123 rfl ?_
        refine j_iconst (pc := 124) d_Md_keys_124 ?_
        refine j_isub (pc := 125) d_Md_keys_125 ?_
        obtain ⟨ha, hr⟩ := chk_some hr
        refine j_callG (pc := 126) (stk := [(0, w32 (v1 - 1)), (2, hpV h1 v0 36), (0, v2), (2, v0)]) (as := [(2, v0), (0, v2), (2, hpV h1 v0 36), (0, w32 (v1 - 1))]) (P := (fun v9 => ((0 : Nat), v9) :: [])) (tg := 0) (My := M_Md_someLeads) (mRunV (as := [(0, v2), (2, hpV h1 v0 36), (0, w32 (v1 - 1))]) (st := []) d_Md_keys_126 (mc_Md_someLeads (by decide)) rfl (mv_Md_someLeads tb_ml_Md_415) rfl (Nat.le_of_ble_eq_true rfl) ha) (fun v => rfl) rfl hr (fun r1 h1 => t_Md_someLeads _ _ _ _ _ _ h1) (fun x4 h3 hr => ?_)
        refine j_if_eq (pc := 129) (tgt := 139) d_Md_keys_129 hr (fun hr => ?_) (fun hr => ?_)
        · exact mJ_weak (ls' := [(2, v0), (0, v1), (0, v2)]) (mwk_s (mwk_s (mwk_s mwk_n))) (t_Md_keys_J139 hR99 hr)
        · refine j_aload_n (pc := 132) d_Md_keys_132 rfl ?_
          refine j_getf (pc := 133) d_Md_keys_133 (fd_Md_71 rfl) hr (fun hr => ?_)
          refine j_iload_n (pc := 136) d_Md_keys_136 rfl ?_
          refine j_iload_n (pc := 137) d_Md_keys_137 rfl ?_
          refine j_iastore (pc := 138) d_Md_keys_138 hr (fun h5 hr => ?_)
          exact mJ_weak (ls' := [(2, v0), (0, v1), (0, v2)]) (mwk_s (mwk_s (mwk_s mwk_n))) (t_Md_keys_J139 hR99 hr)
theorem t_Md_keys_L78 {G : mG} {r : mR} {v0 : Int} {K183 : mH → Option mR} (hK183 : ∀ (h : mH) , K183 h  = some r → mJ G M_Md_keys 183 [(2, v0), (9, 0), (9, 0)] [] h r) : ∀ (n : Nat) (h : mH) (v1 : Int), f_Md_keys_L78 K183 v0 n h v1 = some r → mJ G M_Md_keys 78 [(2, v0), (0, v1), (9, 0)] [] h r := by
  intro n
  induction n with
  | zero =>
    intro h v1 hr
    rw [f_Md_keys_L78] at hr
    cases hr
  | succ n hR78 =>
    intro h v1 hr
    rw [f_Md_keys_L78] at hr
    refine j_iload_n (pc := 78) d_Md_keys_78 rfl ?_
    refine j_bipush (pc := 79) d_Md_keys_79 ?_
    refine j_icmp_gt (pc := 81) (tgt := 183) d_Md_keys_81 hr (fun hr => ?_) (fun hr => ?_)
    · exact mJ_weak (ls' := [(2, v0), (9, 0), (9, 0)]) (mwk_s (mwk_d (mwk_s mwk_n))) (hK183 h  hr)
    · refine j_aload_n (pc := 84) d_Md_keys_84 rfl ?_
      refine j_getf (pc := 85) d_Md_keys_85 (fd_Md_71 rfl) hr (fun hr => ?_)
      refine j_aload_n (pc := 88) d_Md_keys_88 rfl ?_
      obtain ⟨ha, hr⟩ := chk_some hr
      refine j_callG (pc := 89) (stk := [(2, v0), (2, hpV h v0 35)]) (as := [(2, v0)]) (P := (fun v9 => ((0 : Nat), v9) :: [(2, hpV h v0 35)])) (tg := 0) (My := M_Md_standNow) (mRunV (as := []) (st := [(2, hpV h v0 35)]) d_Md_keys_89 (mc_Md_standNow (by decide)) rfl (mv_Md_standNow tb_ml_Md_265) rfl (Nat.le_of_ble_eq_true rfl) ha) (fun v => rfl) rfl hr (fun r1 h1 => t_Md_standNow _ _ _ h1) (fun x2 h1 hr => ?_)
      refine j_iaload (pc := 92) d_Md_keys_92 hr (fun hr => ?_)
      refine j_iconst (pc := 93) d_Md_keys_93 ?_
      refine j_icmp_ne (pc := 94) (tgt := 183) d_Md_keys_94 hr (fun hr => ?_) (fun hr => ?_)
      · exact mJ_weak (ls' := [(2, v0), (9, 0), (9, 0)]) (mwk_s (mwk_d (mwk_s mwk_n))) (hK183 h1  hr)
      · refine j_iconst (pc := 97) d_Md_keys_97 ?_
        refine j_istore_n (pc := 98) (ls' := [(2, v0), (0, v1), (0, 0)]) d_Md_keys_98 rfl ?_
        refine mJ_weak (ls' := [(2, v0), (0, v1), (0, 0)]) (mwk_s (mwk_s (mwk_s mwk_n))) (t_Md_keys_L99 (fun h3  hr => ?_) _ _ _ hr)
        · refine j_iincW (pc := 177) (L := fun x4 => [(2, v0), (0, x4), (9, 0)]) d_Md_keys_177 rfl (fun _ => rfl) hr (fun x4 hr => ?_)
          refine j_goto (pc := 180) (tgt := 78) d_Md_keys_180 ?_
          exact mJ_weak (ls' := [(2, v0), (0, x4), (9, 0)]) (mwk_s (mwk_s (mwk_s mwk_n))) (hR78 h3 _ hr)
theorem t_Md_keys_J183 {G : mG} {r : mR} {v0 : Int} {h : mH}  (hr : f_Md_keys_J183 v0 h = some r) : mJ G M_Md_keys 183 [(2, v0), (9, 0), (9, 0)] [] h r := by
  unfold f_Md_keys_J183 at hr
  refine j_aload_n (pc := 183) d_Md_keys_183 rfl ?_
  refine j_getf (pc := 184) d_Md_keys_184 (fd_Md_71 rfl) hr (fun hr => ?_)
  refine j_aload_n (pc := 187) d_Md_keys_187 rfl ?_
  obtain ⟨ha, hr⟩ := chk_some hr
  refine j_callG (pc := 188) (stk := [(2, v0), (2, hpV h v0 35)]) (as := [(2, v0)]) (P := (fun v9 => ((0 : Nat), v9) :: [(2, hpV h v0 35)])) (tg := 0) (My := M_Md_standNow) (mRunV (as := []) (st := [(2, hpV h v0 35)]) d_Md_keys_188 (mc_Md_standNow (by decide)) rfl (mv_Md_standNow tb_ml_Md_265) rfl (Nat.le_of_ble_eq_true rfl) ha) (fun v => rfl) rfl hr (fun r1 h1 => t_Md_standNow _ _ _ h1) (fun x2 h1 hr => ?_)
  refine j_iaload (pc := 191) d_Md_keys_191 hr (fun hr => ?_)
  exact j_iret (pc := 192) d_Md_keys_192 rfl hr
theorem t_Md_keys_J13 {G : mG} {r : mR} {v0 s0 s1 : Int} {h : mH}  (hr : f_Md_keys_J13 v0 s0 s1 h = some r) : mJ G M_Md_keys 13 [(2, v0), (9, 0), (9, 0)] [(0, s1), (2, s0)] h r := by
  unfold f_Md_keys_J13 at hr
  refine j_puti (pc := 13) d_Md_keys_13 (fd_Md_86 rfl) (⟨_, _, _, rfl, Or.inl rfl, rfl⟩ : mFldW M_Md_keys 86 11 5 .int) hr (fun h1 hr => ?_)
  refine j_aload_n (pc := 16) d_Md_keys_16 rfl ?_
  refine j_getf (pc := 17) d_Md_keys_17 (fd_Md_86 rfl) hr (fun hr => ?_)
  refine j_if_le (pc := 20) (tgt := 25) d_Md_keys_20 hr (fun hr => ?_) (fun hr => ?_)
  · refine j_aload_n (pc := 25) d_Md_keys_25 rfl ?_
    obtain ⟨ha, hr⟩ := chk_some hr
    refine j_callG (pc := 26) (stk := [(2, v0)]) (as := [(2, v0)]) (P := (fun v9 => [])) (tg := 3) (My := M_Md_laysLeads) (mRunV (as := []) (st := []) d_Md_keys_26 (mc_Md_laysLeads (by decide)) rfl (mv_Md_laysLeads tb_ml_Md_376) rfl (Nat.le_of_ble_eq_true rfl) ha) (fun v => rfl) rfl hr (fun r1 h1 => t_Md_laysLeads _ _ _ h1) (fun x3 h2 hr => ?_)
    refine j_iconst (pc := 29) d_Md_keys_29 ?_
    refine j_istore_n (pc := 30) (ls' := [(2, v0), (0, 0), (9, 0)]) d_Md_keys_30 rfl ?_
    refine mJ_weak (ls' := [(2, v0), (0, 0), (9, 0)]) (mwk_s (mwk_s (mwk_s mwk_n))) (t_Md_keys_L31 (fun h4  hr => ?_) _ _ _ hr)
    · refine j_iconst (pc := 76) d_Md_keys_76 ?_
      refine j_istore_n (pc := 77) (ls' := [(2, v0), (0, 1), (9, 0)]) d_Md_keys_77 rfl ?_
      refine mJ_weak (ls' := [(2, v0), (0, 1), (9, 0)]) (mwk_s (mwk_s (mwk_s mwk_n))) (t_Md_keys_L78 (fun h5  hr => ?_) _ _ _ hr)
      · exact mJ_weak (ls' := [(2, v0), (9, 0), (9, 0)]) (mwk_s (mwk_s (mwk_s mwk_n))) (t_Md_keys_J183  hr)
  · refine j_iconst (pc := 23) d_Md_keys_23 ?_
    exact j_iret (pc := 24) d_Md_keys_24 rfl hr
theorem t_Md_keys {G : mG} (h : mH) (v0 : Int) (r : mR) (hr : f_Md_keys h v0 = some r) : mJM G M_Md_keys [(2, v0)] h r := by
  refine mJM_of (L := [(2, v0), (9, 0), (9, 0)]) rfl rfl rfl (Nat.le_of_ble_eq_true rfl) ?_
  unfold f_Md_keys at hr
  refine j_aload_n (pc := 0) d_Md_keys_0 rfl ?_
  refine j_aload_n (pc := 1) d_Md_keys_1 rfl ?_
  obtain ⟨ha, hr⟩ := chk_some hr
  refine j_callG (pc := 2) (stk := [(2, v0), (2, v0)]) (as := [(2, v0)]) (P := (fun v9 => ((0 : Nat), v9) :: [(2, v0)])) (tg := 0) (My := M_Md_isSpent) (mRunV (as := []) (st := [(2, v0)]) d_Md_keys_2 (mc_Md_isSpent (by decide)) rfl (mv_Md_isSpent tb_ml_Md_261) rfl (Nat.le_of_ble_eq_true rfl) ha) (fun v => rfl) rfl hr (fun r1 h1 => t_Md_isSpent _ _ _ h1) (fun x2 h1 hr => ?_)
  refine j_if_eq (pc := 5) (tgt := 12) d_Md_keys_5 hr (fun hr => ?_) (fun hr => ?_)
  · refine j_iconst (pc := 12) d_Md_keys_12 ?_
    exact mJ_weak (ls' := [(2, v0), (9, 0), (9, 0)]) (mwk_s (mwk_s (mwk_s mwk_n))) (t_Md_keys_J13  hr)
  · refine j_iconst (pc := 8) d_Md_keys_8 ?_
    refine j_goto (pc := 9) (tgt := 13) d_Md_keys_9 ?_
    exact mJ_weak (ls' := [(2, v0), (9, 0), (9, 0)]) (mwk_s (mwk_s (mwk_s mwk_n))) (t_Md_keys_J13  hr)
def M_Md_tray : mM := ("NineBarsModel", ⟨"NineBarsModel", "tray", "(III)V"⟩, prog_13_method_110_code, 5, none, [], 5)
theorem tb_co_Md_tray : mTB (Cond.code ⟨"NineBarsModel", "tray", "(III)V"⟩ prog_13_method_110_code 5 (none)) := tbq9 60 (by decide +kernel) rfl
theorem mc_Md_tray {M : mM} (hd : 5 < mDp M) : mCal M M_Md_tray 3 := ⟨tb_co_Md_tray, tb_in_NineBarsModel, ⟨by decide +kernel, by decide +kernel⟩, by decide +kernel, hd, by decide⟩
theorem d_Md_tray_0 : decode prog_13_method_110_code 0 = .ok (.aload_n 0, 1) := by decide +kernel
theorem d_Md_tray_1 : decode prog_13_method_110_code 1 = .ok (.iload_n 1, 1) := by decide +kernel
theorem d_Md_tray_2 : decode prog_13_method_110_code 2 = .ok (.invokestatic 284, 3) := by decide +kernel
theorem d_Md_tray_5 : decode prog_13_method_110_code 5 = .ok (.ifCond .ne 7, 3) := by decide +kernel
theorem d_Md_tray_12 : decode prog_13_method_110_code 12 = .ok (.iload_n 2, 1) := by decide +kernel
theorem d_Md_tray_13 : decode prog_13_method_110_code 13 = .ok (.i2l, 1) := by decide +kernel
theorem d_Md_tray_14 : decode prog_13_method_110_code 14 = .ok (.lconst 0, 1) := by decide +kernel
theorem d_Md_tray_15 : decode prog_13_method_110_code 15 = .ok (.ldc2_w 299, 3) := by decide +kernel
theorem d_Md_tray_18 : decode prog_13_method_110_code 18 = .ok (.invokestatic 147, 3) := by decide +kernel
theorem d_Md_tray_21 : decode prog_13_method_110_code 21 = .ok (.ifCond .eq 15, 3) := by decide +kernel
theorem d_Md_tray_36 : decode prog_13_method_110_code 36 = .ok (.iconst 2, 1) := by decide +kernel
theorem d_Md_tray_37 : decode prog_13_method_110_code 37 = .ok (.goto 4, 3) := by decide +kernel
theorem d_Md_tray_41 : decode prog_13_method_110_code 41 = .ok (.putfield 86, 3) := by decide +kernel
theorem d_Md_tray_44 : decode prog_13_method_110_code 44 = .ok (.aload_n 0, 1) := by decide +kernel
theorem d_Md_tray_45 : decode prog_13_method_110_code 45 = .ok (.getfield 86, 3) := by decide +kernel
theorem d_Md_tray_48 : decode prog_13_method_110_code 48 = .ok (.ifCond .le 4, 3) := by decide +kernel
theorem d_Md_tray_52 : decode prog_13_method_110_code 52 = .ok (.aload_n 0, 1) := by decide +kernel
theorem d_Md_tray_53 : decode prog_13_method_110_code 53 = .ok (.getfield 77, 3) := by decide +kernel
theorem d_Md_tray_56 : decode prog_13_method_110_code 56 = .ok (.iload_n 1, 1) := by decide +kernel
theorem d_Md_tray_57 : decode prog_13_method_110_code 57 = .ok (.iload_n 2, 1) := by decide +kernel
theorem d_Md_tray_58 : decode prog_13_method_110_code 58 = .ok (.iastore, 1) := by decide +kernel
theorem d_Md_tray_59 : decode prog_13_method_110_code 59 = .ok (.aload_n 0, 1) := by decide +kernel
theorem d_Md_tray_60 : decode prog_13_method_110_code 60 = .ok (.getfield 80, 3) := by decide +kernel
theorem d_Md_tray_63 : decode prog_13_method_110_code 63 = .ok (.iload_n 1, 1) := by decide +kernel
theorem d_Md_tray_64 : decode prog_13_method_110_code 64 = .ok (.iload_n 3, 1) := by decide +kernel
theorem d_Md_tray_65 : decode prog_13_method_110_code 65 = .ok (.iastore, 1) := by decide +kernel
theorem d_Md_tray_66 : decode prog_13_method_110_code 66 = .ok (.iconst 0, 1) := by decide +kernel
theorem d_Md_tray_67 : decode prog_13_method_110_code 67 = .ok (.istore 4, 2) := by decide +kernel
theorem d_Md_tray_69 : decode prog_13_method_110_code 69 = .ok (.iload 4, 2) := by decide +kernel
theorem d_Md_tray_71 : decode prog_13_method_110_code 71 = .ok (.bipush 40, 2) := by decide +kernel
theorem d_Md_tray_73 : decode prog_13_method_110_code 73 = .ok (.if_icmp .ge 22, 3) := by decide +kernel
theorem d_Md_tray_95 : decode prog_13_method_110_code 95 = .ok (.return_, 1) := by decide +kernel
theorem d_Md_tray_76 : decode prog_13_method_110_code 76 = .ok (.aload_n 0, 1) := by decide +kernel
theorem d_Md_tray_77 : decode prog_13_method_110_code 77 = .ok (.getfield 83, 3) := by decide +kernel
theorem d_Md_tray_80 : decode prog_13_method_110_code 80 = .ok (.bipush 40, 2) := by decide +kernel
theorem d_Md_tray_82 : decode prog_13_method_110_code 82 = .ok (.iload_n 1, 1) := by decide +kernel
theorem d_Md_tray_83 : decode prog_13_method_110_code 83 = .ok (.imul, 1) := by decide +kernel
theorem d_Md_tray_84 : decode prog_13_method_110_code 84 = .ok (.iload 4, 2) := by decide +kernel
theorem d_Md_tray_86 : decode prog_13_method_110_code 86 = .ok (.iadd, 1) := by decide +kernel
theorem d_Md_tray_87 : decode prog_13_method_110_code 87 = .ok (.lconst 0, 1) := by decide +kernel
theorem d_Md_tray_88 : decode prog_13_method_110_code 88 = .ok (.lastore, 1) := by decide +kernel
theorem d_Md_tray_89 : decode prog_13_method_110_code 89 = .ok (.iinc 4 1, 3) := by decide +kernel
theorem d_Md_tray_92 : decode prog_13_method_110_code 92 = .ok (.goto (-23), 3) := by decide +kernel
theorem d_Md_tray_51 : decode prog_13_method_110_code 51 = .ok (.return_, 1) := by decide +kernel
theorem d_Md_tray_24 : decode prog_13_method_110_code 24 = .ok (.iload_n 3, 1) := by decide +kernel
theorem d_Md_tray_25 : decode prog_13_method_110_code 25 = .ok (.i2l, 1) := by decide +kernel
theorem d_Md_tray_26 : decode prog_13_method_110_code 26 = .ok (.lconst 0, 1) := by decide +kernel
theorem tb_cj_Md_422 : mTB (Cond.constantLong "NineBarsModel" 422 40) := tbq9 61 (by decide +kernel) rfl
theorem d_Md_tray_27 : decode prog_13_method_110_code 27 = .ok (.ldc2_w 422, 3) := by decide +kernel
theorem d_Md_tray_30 : decode prog_13_method_110_code 30 = .ok (.invokestatic 147, 3) := by decide +kernel
theorem d_Md_tray_33 : decode prog_13_method_110_code 33 = .ok (.ifCond .ne 7, 3) := by decide +kernel
theorem d_Md_tray_40 : decode prog_13_method_110_code 40 = .ok (.iconst 0, 1) := by decide +kernel
theorem d_Md_tray_8 : decode prog_13_method_110_code 8 = .ok (.iconst 1, 1) := by decide +kernel
theorem d_Md_tray_9 : decode prog_13_method_110_code 9 = .ok (.goto 32, 3) := by decide +kernel
theorem t_Md_tray_L69 {G : mG} {r : mR} {v0 v1 : Int}  : ∀ (n : Nat) (h : mH) (v4 : Int), f_Md_tray_L69 v0 v1 n h v4 = some r → mJ G M_Md_tray 69 [(2, v0), (0, v1), (9, 0), (9, 0), (0, v4)] [] h r := by
  intro n
  induction n with
  | zero =>
    intro h v4 hr
    rw [f_Md_tray_L69] at hr
    cases hr
  | succ n hR69 =>
    intro h v4 hr
    rw [f_Md_tray_L69] at hr
    refine j_iload (pc := 69) d_Md_tray_69 rfl ?_
    refine j_bipush (pc := 71) d_Md_tray_71 ?_
    refine j_icmp_ge (pc := 73) (tgt := 95) d_Md_tray_73 hr (fun hr => ?_) (fun hr => ?_)
    · exact j_vret (pc := 95) d_Md_tray_95 rfl hr
    · refine j_aload_n (pc := 76) d_Md_tray_76 rfl ?_
      refine j_getf (pc := 77) d_Md_tray_77 (fd_Md_83 rfl) hr (fun hr => ?_)
      refine j_bipush (pc := 80) d_Md_tray_80 ?_
      refine j_iload_n (pc := 82) d_Md_tray_82 rfl ?_
      refine j_imul (pc := 83) d_Md_tray_83 ?_
      refine j_iload (pc := 84) d_Md_tray_84 rfl ?_
      refine j_iadd (pc := 86) d_Md_tray_86 ?_
      refine j_lconst (pc := 87) (z := 0) d_Md_tray_87 ?_
      refine j_lastore (pc := 88) d_Md_tray_88 hr (fun h1 hr => ?_)
      refine j_iincW (pc := 89) (L := fun x2 => [(2, v0), (0, v1), (9, 0), (9, 0), (0, x2)]) d_Md_tray_89 rfl (fun _ => rfl) hr (fun x2 hr => ?_)
      refine j_goto (pc := 92) (tgt := 69) d_Md_tray_92 ?_
      exact mJ_weak (ls' := [(2, v0), (0, v1), (9, 0), (9, 0), (0, x2)]) (mwk_s (mwk_s (mwk_s (mwk_s (mwk_s mwk_n))))) (hR69 h1 _ hr)
theorem t_Md_tray_J41 {G : mG} {r : mR} {v0 v1 v2 v3 s0 s1 : Int} {h : mH}  (hr : f_Md_tray_J41 v0 v1 v2 v3 s0 s1 h = some r) : mJ G M_Md_tray 41 [(2, v0), (0, v1), (0, v2), (0, v3), (9, 0)] [(0, s1), (2, s0)] h r := by
  unfold f_Md_tray_J41 at hr
  refine j_puti (pc := 41) d_Md_tray_41 (fd_Md_86 rfl) (⟨_, _, _, rfl, Or.inl rfl, rfl⟩ : mFldW M_Md_tray 86 11 5 .int) hr (fun h1 hr => ?_)
  refine j_aload_n (pc := 44) d_Md_tray_44 rfl ?_
  refine j_getf (pc := 45) d_Md_tray_45 (fd_Md_86 rfl) hr (fun hr => ?_)
  refine j_if_le (pc := 48) (tgt := 52) d_Md_tray_48 hr (fun hr => ?_) (fun hr => ?_)
  · refine j_aload_n (pc := 52) d_Md_tray_52 rfl ?_
    refine j_getf (pc := 53) d_Md_tray_53 (fd_Md_77 rfl) hr (fun hr => ?_)
    refine j_iload_n (pc := 56) d_Md_tray_56 rfl ?_
    refine j_iload_n (pc := 57) d_Md_tray_57 rfl ?_
    refine j_iastore (pc := 58) d_Md_tray_58 hr (fun h2 hr => ?_)
    refine j_aload_n (pc := 59) d_Md_tray_59 rfl ?_
    refine j_getf (pc := 60) d_Md_tray_60 (fd_Md_80 rfl) hr (fun hr => ?_)
    refine j_iload_n (pc := 63) d_Md_tray_63 rfl ?_
    refine j_iload_n (pc := 64) d_Md_tray_64 rfl ?_
    refine j_iastore (pc := 65) d_Md_tray_65 hr (fun h3 hr => ?_)
    refine j_iconst (pc := 66) d_Md_tray_66 ?_
    refine j_istore (pc := 67) (ls' := [(2, v0), (0, v1), (0, v2), (0, v3), (0, 0)]) d_Md_tray_67 rfl ?_
    refine mJ_weak (ls' := [(2, v0), (0, v1), (9, 0), (9, 0), (0, 0)]) (mwk_s (mwk_s (mwk_d (mwk_d (mwk_s mwk_n))))) (t_Md_tray_L69  _ _ _ hr)
  · exact j_vret (pc := 51) d_Md_tray_51 rfl hr
theorem t_Md_tray_J36 {G : mG} {r : mR} {v0 v1 v2 v3 s0 : Int} {h : mH}  (hr : f_Md_tray_J36 v0 v1 v2 v3 s0 h = some r) : mJ G M_Md_tray 36 [(2, v0), (0, v1), (0, v2), (0, v3), (9, 0)] [(2, s0)] h r := by
  unfold f_Md_tray_J36 at hr
  refine j_iconst (pc := 36) d_Md_tray_36 ?_
  refine j_goto (pc := 37) (tgt := 41) d_Md_tray_37 ?_
  exact mJ_weak (ls' := [(2, v0), (0, v1), (0, v2), (0, v3), (9, 0)]) (mwk_s (mwk_s (mwk_s (mwk_s (mwk_s mwk_n))))) (t_Md_tray_J41  hr)
theorem t_Md_tray {G : mG} (h : mH) (v0 v1 v2 v3 : Int) (r : mR) (hr : f_Md_tray h v0 v1 v2 v3 = some r) : mJM G M_Md_tray [(2, v0), (0, v1), (0, v2), (0, v3)] h r := by
  refine mJM_of (L := [(2, v0), (0, v1), (0, v2), (0, v3), (9, 0)]) rfl rfl rfl (Nat.le_of_ble_eq_true rfl) ?_
  unfold f_Md_tray at hr
  refine j_aload_n (pc := 0) d_Md_tray_0 rfl ?_
  refine j_iload_n (pc := 1) d_Md_tray_1 rfl ?_
  refine j_callG (pc := 2) (stk := [(0, v1), (2, v0)]) (as := [(0, v1)]) (P := (fun v9 => ((0 : Nat), v9) :: [(2, v0)])) (tg := 0) (My := M_Md_isTray) (mRunS (as := [(0, v1)]) (st := [(2, v0)]) d_Md_tray_2 (mc_Md_isTray (by decide)) rfl ⟨tb_ml_Md_284, tb_sm_Md_isTray⟩ rfl (Nat.le_of_ble_eq_true rfl)) (fun v => rfl) rfl hr (fun r1 h1 => t_Md_isTray _ _ _ h1) (fun x2 h1 hr => ?_)
  refine j_if_ne (pc := 5) (tgt := 12) d_Md_tray_5 hr (fun hr => ?_) (fun hr => ?_)
  · refine j_iload_n (pc := 12) d_Md_tray_12 rfl ?_
    refine j_i2l (pc := 13) d_Md_tray_13 ?_
    refine j_lconst (pc := 14) (z := 0) d_Md_tray_14 ?_
    refine j_ldc2 (pc := 15) (z := 3) d_Md_tray_15 tb_cj_Md_299 rfl ?_
    refine j_callG (pc := 18) (stk := [(1, 3), (1, 0), (1, v2), (2, v0)]) (as := [(1, v2), (1, 0), (1, 3)]) (P := (fun v9 => ((0 : Nat), v9) :: [(2, v0)])) (tg := 0) (My := M_Md_amid) (mRunS (as := [(1, v2), (1, 0), (1, 3)]) (st := [(2, v0)]) d_Md_tray_18 (mc_Md_amid (by decide)) rfl ⟨tb_ml_Md_147, tb_sm_Md_amid⟩ rfl (Nat.le_of_ble_eq_true rfl)) (fun v => rfl) rfl hr (fun r1 h1 => t_Md_amid _ _ _ _ _ h1) (fun x4 h3 hr => ?_)
    refine j_if_eq (pc := 21) (tgt := 36) d_Md_tray_21 hr (fun hr => ?_) (fun hr => ?_)
    · exact mJ_weak (ls' := [(2, v0), (0, v1), (0, v2), (0, v3), (9, 0)]) (mwk_s (mwk_s (mwk_s (mwk_s (mwk_s mwk_n))))) (t_Md_tray_J36  hr)
    · refine j_iload_n (pc := 24) d_Md_tray_24 rfl ?_
      refine j_i2l (pc := 25) d_Md_tray_25 ?_
      refine j_lconst (pc := 26) (z := 0) d_Md_tray_26 ?_
      refine j_ldc2 (pc := 27) (z := 40) d_Md_tray_27 tb_cj_Md_422 rfl ?_
      refine j_callG (pc := 30) (stk := [(1, 40), (1, 0), (1, v3), (2, v0)]) (as := [(1, v3), (1, 0), (1, 40)]) (P := (fun v9 => ((0 : Nat), v9) :: [(2, v0)])) (tg := 0) (My := M_Md_amid) (mRunS (as := [(1, v3), (1, 0), (1, 40)]) (st := [(2, v0)]) d_Md_tray_30 (mc_Md_amid (by decide)) rfl ⟨tb_ml_Md_147, tb_sm_Md_amid⟩ rfl (Nat.le_of_ble_eq_true rfl)) (fun v => rfl) rfl hr (fun r1 h1 => t_Md_amid _ _ _ _ _ h1) (fun x6 h5 hr => ?_)
      refine j_if_ne (pc := 33) (tgt := 40) d_Md_tray_33 hr (fun hr => ?_) (fun hr => ?_)
      · refine j_iconst (pc := 40) d_Md_tray_40 ?_
        exact mJ_weak (ls' := [(2, v0), (0, v1), (0, v2), (0, v3), (9, 0)]) (mwk_s (mwk_s (mwk_s (mwk_s (mwk_s mwk_n))))) (t_Md_tray_J41  hr)
      · exact mJ_weak (ls' := [(2, v0), (0, v1), (0, v2), (0, v3), (9, 0)]) (mwk_s (mwk_s (mwk_s (mwk_s (mwk_s mwk_n))))) (t_Md_tray_J36  hr)
  · refine j_iconst (pc := 8) d_Md_tray_8 ?_
    refine j_goto (pc := 9) (tgt := 41) d_Md_tray_9 ?_
    exact mJ_weak (ls' := [(2, v0), (0, v1), (0, v2), (0, v3), (9, 0)]) (mwk_s (mwk_s (mwk_s (mwk_s (mwk_s mwk_n))))) (t_Md_tray_J41  hr)
def M_Md_cut : mM := ("NineBarsModel", ⟨"NineBarsModel", "cut", "(IIJ)J"⟩, prog_13_method_111_code, 6, some .long, [], 1)
theorem tb_co_Md_cut : mTB (Cond.code ⟨"NineBarsModel", "cut", "(IIJ)J"⟩ prog_13_method_111_code 6 (some .long)) := tbq9 69 (by decide +kernel) rfl
theorem mc_Md_cut {M : mM} (hd : 1 < mDp M) : mCal M M_Md_cut 3 := ⟨tb_co_Md_cut, tb_in_NineBarsModel, ⟨by decide +kernel, by decide +kernel⟩, by decide +kernel, hd, by decide⟩
theorem d_Md_cut_0 : decode prog_13_method_111_code 0 = .ok (.bipush 64, 2) := by decide +kernel
theorem d_Md_cut_2 : decode prog_13_method_111_code 2 = .ok (.bipush 8, 2) := by decide +kernel
theorem d_Md_cut_4 : decode prog_13_method_111_code 4 = .ok (.aload_n 0, 1) := by decide +kernel
theorem d_Md_cut_5 : decode prog_13_method_111_code 5 = .ok (.getfield 77, 3) := by decide +kernel
theorem d_Md_cut_8 : decode prog_13_method_111_code 8 = .ok (.iload_n 1, 1) := by decide +kernel
theorem d_Md_cut_9 : decode prog_13_method_111_code 9 = .ok (.iaload, 1) := by decide +kernel
theorem d_Md_cut_10 : decode prog_13_method_111_code 10 = .ok (.ishl, 1) := by decide +kernel
theorem d_Md_cut_11 : decode prog_13_method_111_code 11 = .ok (.isub, 1) := by decide +kernel
theorem d_Md_cut_12 : decode prog_13_method_111_code 12 = .ok (.istore 5, 2) := by decide +kernel
theorem d_Md_cut_14 : decode prog_13_method_111_code 14 = .ok (.aload_n 0, 1) := by decide +kernel
theorem d_Md_cut_15 : decode prog_13_method_111_code 15 = .ok (.getfield 83, 3) := by decide +kernel
theorem d_Md_cut_18 : decode prog_13_method_111_code 18 = .ok (.bipush 40, 2) := by decide +kernel
theorem d_Md_cut_20 : decode prog_13_method_111_code 20 = .ok (.iload_n 1, 1) := by decide +kernel
theorem d_Md_cut_21 : decode prog_13_method_111_code 21 = .ok (.imul, 1) := by decide +kernel
theorem d_Md_cut_22 : decode prog_13_method_111_code 22 = .ok (.iload_n 2, 1) := by decide +kernel
theorem d_Md_cut_23 : decode prog_13_method_111_code 23 = .ok (.iadd, 1) := by decide +kernel
theorem d_Md_cut_24 : decode prog_13_method_111_code 24 = .ok (.lload_n 3, 1) := by decide +kernel
theorem d_Md_cut_25 : decode prog_13_method_111_code 25 = .ok (.iload 5, 2) := by decide +kernel
theorem d_Md_cut_27 : decode prog_13_method_111_code 27 = .ok (.lshl, 1) := by decide +kernel
theorem d_Md_cut_28 : decode prog_13_method_111_code 28 = .ok (.iload 5, 2) := by decide +kernel
theorem d_Md_cut_30 : decode prog_13_method_111_code 30 = .ok (.lshr, 1) := by decide +kernel
theorem d_Md_cut_31 : decode prog_13_method_111_code 31 = .ok (.lastore, 1) := by decide +kernel
theorem d_Md_cut_32 : decode prog_13_method_111_code 32 = .ok (.aload_n 0, 1) := by decide +kernel
theorem d_Md_cut_33 : decode prog_13_method_111_code 33 = .ok (.getfield 83, 3) := by decide +kernel
theorem d_Md_cut_36 : decode prog_13_method_111_code 36 = .ok (.bipush 40, 2) := by decide +kernel
theorem d_Md_cut_38 : decode prog_13_method_111_code 38 = .ok (.iload_n 1, 1) := by decide +kernel
theorem d_Md_cut_39 : decode prog_13_method_111_code 39 = .ok (.imul, 1) := by decide +kernel
theorem d_Md_cut_40 : decode prog_13_method_111_code 40 = .ok (.iload_n 2, 1) := by decide +kernel
theorem d_Md_cut_41 : decode prog_13_method_111_code 41 = .ok (.iadd, 1) := by decide +kernel
theorem d_Md_cut_42 : decode prog_13_method_111_code 42 = .ok (.laload, 1) := by decide +kernel
theorem d_Md_cut_43 : decode prog_13_method_111_code 43 = .ok (.lreturn, 1) := by decide +kernel
theorem t_Md_cut {G : mG} (h : mH) (v0 v1 v2 v3 : Int) (r : mR) (hr : f_Md_cut h v0 v1 v2 v3 = some r) : mJM G M_Md_cut [(2, v0), (0, v1), (0, v2), (1, v3)] h r := by
  refine mJM_of (L := [(2, v0), (0, v1), (0, v2), (1, v3), (9, 0), (9, 0)]) rfl rfl rfl (Nat.le_of_ble_eq_true rfl) ?_
  unfold f_Md_cut at hr
  refine j_bipush (pc := 0) d_Md_cut_0 ?_
  refine j_bipush (pc := 2) d_Md_cut_2 ?_
  refine j_aload_n (pc := 4) d_Md_cut_4 rfl ?_
  refine j_getf (pc := 5) d_Md_cut_5 (fd_Md_77 rfl) hr (fun hr => ?_)
  refine j_iload_n (pc := 8) d_Md_cut_8 rfl ?_
  refine j_iaload (pc := 9) d_Md_cut_9 hr (fun hr => ?_)
  refine j_ishl (pc := 10) d_Md_cut_10 ?_
  refine j_isub (pc := 11) d_Md_cut_11 ?_
  refine j_istoreW (pc := 12) (L := fun x1 => [(2, v0), (0, v1), (0, v2), (1, v3), (9, 0), (0, x1)]) d_Md_cut_12 (fun _ => rfl) hr (fun x1 hr => ?_)
  refine j_aload_n (pc := 14) d_Md_cut_14 rfl ?_
  refine j_getf (pc := 15) d_Md_cut_15 (fd_Md_83 rfl) hr (fun hr => ?_)
  refine j_bipush (pc := 18) d_Md_cut_18 ?_
  refine j_iload_n (pc := 20) d_Md_cut_20 rfl ?_
  refine j_imul (pc := 21) d_Md_cut_21 ?_
  refine j_iload_n (pc := 22) d_Md_cut_22 rfl ?_
  refine j_iadd (pc := 23) d_Md_cut_23 ?_
  refine j_lload_n (pc := 24) d_Md_cut_24 rfl ?_
  refine j_iload (pc := 25) d_Md_cut_25 rfl ?_
  refine j_lshl (pc := 27) d_Md_cut_27 ?_
  refine j_iload (pc := 28) d_Md_cut_28 rfl ?_
  refine j_lshr (pc := 30) d_Md_cut_30 ?_
  refine j_lastore (pc := 31) d_Md_cut_31 hr (fun h2 hr => ?_)
  refine j_aload_n (pc := 32) d_Md_cut_32 rfl ?_
  refine j_getf (pc := 33) d_Md_cut_33 (fd_Md_83 rfl) hr (fun hr => ?_)
  refine j_bipush (pc := 36) d_Md_cut_36 ?_
  refine j_iload_n (pc := 38) d_Md_cut_38 rfl ?_
  refine j_imul (pc := 39) d_Md_cut_39 ?_
  refine j_iload_n (pc := 40) d_Md_cut_40 rfl ?_
  refine j_iadd (pc := 41) d_Md_cut_41 ?_
  refine j_laload (pc := 42) d_Md_cut_42 hr (fun hr => ?_)
  exact j_lret (pc := 43) d_Md_cut_43 rfl hr
def M_Md_write : mM := ("NineBarsModel", ⟨"NineBarsModel", "write", "(IIJ)J"⟩, prog_13_method_112_code, 5, some .long, [], 7)
theorem tb_co_Md_write : mTB (Cond.code ⟨"NineBarsModel", "write", "(IIJ)J"⟩ prog_13_method_112_code 5 (some .long)) := tbq9 65 (by decide +kernel) rfl
theorem mc_Md_write {M : mM} (hd : 7 < mDp M) : mCal M M_Md_write 3 := ⟨tb_co_Md_write, tb_in_NineBarsModel, ⟨by decide +kernel, by decide +kernel⟩, by decide +kernel, hd, by decide⟩
theorem d_Md_write_0 : decode prog_13_method_112_code 0 = .ok (.aload_n 0, 1) := by decide +kernel
theorem d_Md_write_1 : decode prog_13_method_112_code 1 = .ok (.aload_n 0, 1) := by decide +kernel
theorem d_Md_write_2 : decode prog_13_method_112_code 2 = .ok (.iload_n 1, 1) := by decide +kernel
theorem d_Md_write_3 : decode prog_13_method_112_code 3 = .ok (.invokevirtual 296, 3) := by decide +kernel
theorem d_Md_write_6 : decode prog_13_method_112_code 6 = .ok (.putfield 86, 3) := by decide +kernel
theorem d_Md_write_9 : decode prog_13_method_112_code 9 = .ok (.aload_n 0, 1) := by decide +kernel
theorem d_Md_write_10 : decode prog_13_method_112_code 10 = .ok (.getfield 86, 3) := by decide +kernel
theorem d_Md_write_13 : decode prog_13_method_112_code 13 = .ok (.ifCond .le 5, 3) := by decide +kernel
theorem d_Md_write_18 : decode prog_13_method_112_code 18 = .ok (.iload_n 2, 1) := by decide +kernel
theorem d_Md_write_19 : decode prog_13_method_112_code 19 = .ok (.i2l, 1) := by decide +kernel
theorem d_Md_write_20 : decode prog_13_method_112_code 20 = .ok (.lconst 0, 1) := by decide +kernel
theorem d_Md_write_21 : decode prog_13_method_112_code 21 = .ok (.aload_n 0, 1) := by decide +kernel
theorem d_Md_write_22 : decode prog_13_method_112_code 22 = .ok (.getfield 80, 3) := by decide +kernel
theorem d_Md_write_25 : decode prog_13_method_112_code 25 = .ok (.iload_n 1, 1) := by decide +kernel
theorem d_Md_write_26 : decode prog_13_method_112_code 26 = .ok (.iaload, 1) := by decide +kernel
theorem d_Md_write_27 : decode prog_13_method_112_code 27 = .ok (.iconst 1, 1) := by decide +kernel
theorem d_Md_write_28 : decode prog_13_method_112_code 28 = .ok (.isub, 1) := by decide +kernel
theorem d_Md_write_29 : decode prog_13_method_112_code 29 = .ok (.i2l, 1) := by decide +kernel
theorem d_Md_write_30 : decode prog_13_method_112_code 30 = .ok (.invokestatic 147, 3) := by decide +kernel
theorem d_Md_write_33 : decode prog_13_method_112_code 33 = .ok (.ifCond .eq 13, 3) := by decide +kernel
theorem d_Md_write_46 : decode prog_13_method_112_code 46 = .ok (.aload_n 0, 1) := by decide +kernel
theorem d_Md_write_47 : decode prog_13_method_112_code 47 = .ok (.iconst 3, 1) := by decide +kernel
theorem d_Md_write_48 : decode prog_13_method_112_code 48 = .ok (.invokevirtual 197, 3) := by decide +kernel
theorem d_Md_write_51 : decode prog_13_method_112_code 51 = .ok (.i2l, 1) := by decide +kernel
theorem d_Md_write_52 : decode prog_13_method_112_code 52 = .ok (.lreturn, 1) := by decide +kernel
theorem d_Md_write_36 : decode prog_13_method_112_code 36 = .ok (.aload_n 0, 1) := by decide +kernel
theorem d_Md_write_37 : decode prog_13_method_112_code 37 = .ok (.iload_n 1, 1) := by decide +kernel
theorem d_Md_write_38 : decode prog_13_method_112_code 38 = .ok (.iload_n 2, 1) := by decide +kernel
theorem d_Md_write_39 : decode prog_13_method_112_code 39 = .ok (.lload_n 3, 1) := by decide +kernel
theorem d_Md_write_40 : decode prog_13_method_112_code 40 = .ok (.invokevirtual 424, 3) := by decide +kernel
theorem tb_ml_Md_424 : mTB (Cond.methodLink "NineBarsModel" 424 ⟨"NineBarsModel", "cut", "(IIJ)J"⟩) := tbq9 66 (by decide +kernel) rfl
theorem tb_im_Md_cut : mTB (Cond.instanceMethod ⟨"NineBarsModel", "cut", "(IIJ)J"⟩) := tbq9 68 (by decide +kernel) rfl
theorem tb_se_Md_cut : mTB (Cond.selects "NineBarsModel" ⟨"NineBarsModel", "cut", "(IIJ)J"⟩ ⟨"NineBarsModel", "cut", "(IIJ)J"⟩) := tbqp 107 (by decide +kernel) rfl
theorem mv_Md_cut {M : mM} {idx : Nat} (h : mTB (Cond.methodLink (mO M) idx ⟨"NineBarsModel", "cut", "(IIJ)J"⟩)) : mCaV M M_Md_cut idx 11 := ⟨h, tb_im_Md_cut, tb_se_Md_cut, by decide, TX11, 40, rfl⟩
theorem d_Md_write_43 : decode prog_13_method_112_code 43 = .ok (.goto 9, 3) := by decide +kernel
theorem d_Md_write_16 : decode prog_13_method_112_code 16 = .ok (.lconst 0, 1) := by decide +kernel
theorem d_Md_write_17 : decode prog_13_method_112_code 17 = .ok (.lreturn, 1) := by decide +kernel
theorem t_Md_write {G : mG} (h : mH) (v0 v1 v2 v3 : Int) (r : mR) (hr : f_Md_write h v0 v1 v2 v3 = some r) : mJM G M_Md_write [(2, v0), (0, v1), (0, v2), (1, v3)] h r := by
  refine mJM_of (L := [(2, v0), (0, v1), (0, v2), (1, v3), (9, 0)]) rfl rfl rfl (Nat.le_of_ble_eq_true rfl) ?_
  unfold f_Md_write at hr
  refine j_aload_n (pc := 0) d_Md_write_0 rfl ?_
  refine j_aload_n (pc := 1) d_Md_write_1 rfl ?_
  refine j_iload_n (pc := 2) d_Md_write_2 rfl ?_
  obtain ⟨ha, hr⟩ := chk_some hr
  refine j_callG (pc := 3) (stk := [(0, v1), (2, v0), (2, v0)]) (as := [(2, v0), (0, v1)]) (P := (fun v9 => ((0 : Nat), v9) :: [(2, v0)])) (tg := 0) (My := M_Md_trayFault) (mRunV (as := [(0, v1)]) (st := [(2, v0)]) d_Md_write_3 (mc_Md_trayFault (by decide)) rfl (mv_Md_trayFault tb_ml_Md_296) rfl (Nat.le_of_ble_eq_true rfl) ha) (fun v => rfl) rfl hr (fun r1 h1 => t_Md_trayFault _ _ _ _ h1) (fun x2 h1 hr => ?_)
  refine j_puti (pc := 6) d_Md_write_6 (fd_Md_86 rfl) (⟨_, _, _, rfl, Or.inl rfl, rfl⟩ : mFldW M_Md_write 86 11 5 .int) hr (fun h3 hr => ?_)
  refine j_aload_n (pc := 9) d_Md_write_9 rfl ?_
  refine j_getf (pc := 10) d_Md_write_10 (fd_Md_86 rfl) hr (fun hr => ?_)
  refine j_if_le (pc := 13) (tgt := 18) d_Md_write_13 hr (fun hr => ?_) (fun hr => ?_)
  · refine j_iload_n (pc := 18) d_Md_write_18 rfl ?_
    refine j_i2l (pc := 19) d_Md_write_19 ?_
    refine j_lconst (pc := 20) (z := 0) d_Md_write_20 ?_
    refine j_aload_n (pc := 21) d_Md_write_21 rfl ?_
    refine j_getf (pc := 22) d_Md_write_22 (fd_Md_80 rfl) hr (fun hr => ?_)
    refine j_iload_n (pc := 25) d_Md_write_25 rfl ?_
    refine j_iaload (pc := 26) d_Md_write_26 hr (fun hr => ?_)
    refine j_iconst (pc := 27) d_Md_write_27 ?_
    refine j_isub (pc := 28) d_Md_write_28 ?_
    refine j_i2l (pc := 29) d_Md_write_29 ?_
    refine j_callG (pc := 30) (stk := [(1, w32 ((hpV h3 (hpV h3 v0 38) v1) - 1)), (1, 0), (1, v2)]) (as := [(1, v2), (1, 0), (1, w32 ((hpV h3 (hpV h3 v0 38) v1) - 1))]) (P := (fun v9 => ((0 : Nat), v9) :: [])) (tg := 0) (My := M_Md_amid) (mRunS (as := [(1, v2), (1, 0), (1, w32 ((hpV h3 (hpV h3 v0 38) v1) - 1))]) (st := []) d_Md_write_30 (mc_Md_amid (by decide)) rfl ⟨tb_ml_Md_147, tb_sm_Md_amid⟩ rfl (Nat.le_of_ble_eq_true rfl)) (fun v => rfl) rfl hr (fun r1 h1 => t_Md_amid _ _ _ _ _ h1) (fun x5 h4 hr => ?_)
    refine j_if_eq (pc := 33) (tgt := 46) d_Md_write_33 hr (fun hr => ?_) (fun hr => ?_)
    · refine j_aload_n (pc := 46) d_Md_write_46 rfl ?_
      refine j_iconst (pc := 47) d_Md_write_47 ?_
      obtain ⟨ha, hr⟩ := chk_some hr
      refine j_callG (pc := 48) (stk := [(0, 3), (2, v0)]) (as := [(2, v0), (0, 3)]) (P := (fun v9 => ((0 : Nat), v9) :: [])) (tg := 0) (My := M_Md_fails) (mRunV (as := [(0, 3)]) (st := []) d_Md_write_48 (mc_Md_fails (by decide)) rfl (mv_Md_fails tb_ml_Md_197) rfl (Nat.le_of_ble_eq_true rfl) ha) (fun v => rfl) rfl hr (fun r1 h1 => t_Md_fails _ _ _ _ h1) (fun x7 h6 hr => ?_)
      refine j_i2l (pc := 51) d_Md_write_51 ?_
      exact j_lret (pc := 52) d_Md_write_52 rfl hr
    · refine j_aload_n (pc := 36) d_Md_write_36 rfl ?_
      refine j_iload_n (pc := 37) d_Md_write_37 rfl ?_
      refine j_iload_n (pc := 38) d_Md_write_38 rfl ?_
      refine j_lload_n (pc := 39) d_Md_write_39 rfl ?_
      obtain ⟨ha, hr⟩ := chk_some hr
      refine j_callG (pc := 40) (stk := [(1, v3), (0, v2), (0, v1), (2, v0)]) (as := [(2, v0), (0, v1), (0, v2), (1, v3)]) (P := (fun v9 => ((1 : Nat), v9) :: [])) (tg := 1) (My := M_Md_cut) (mRunV (as := [(0, v1), (0, v2), (1, v3)]) (st := []) d_Md_write_40 (mc_Md_cut (by decide)) rfl (mv_Md_cut tb_ml_Md_424) rfl (Nat.le_of_ble_eq_true rfl) ha) (fun v => rfl) rfl hr (fun r1 h1 => t_Md_cut _ _ _ _ _ _ h1) (fun x9 h8 hr => ?_)
      refine j_goto (pc := 43) (tgt := 52) d_Md_write_43 ?_
      exact j_lret (pc := 52) d_Md_write_52 rfl hr
  · refine j_lconst (pc := 16) (z := 0) d_Md_write_16 ?_
    exact j_lret (pc := 17) d_Md_write_17 rfl hr
def M_Md_pour : mM := ("NineBarsModel", ⟨"NineBarsModel", "pour", "(I)I"⟩, prog_13_method_113_code, 6, some .int, [], 13)
theorem tb_co_Md_pour : mTB (Cond.code ⟨"NineBarsModel", "pour", "(I)I"⟩ prog_13_method_113_code 6 (some .int)) := tbq9 73 (by decide +kernel) rfl
theorem mc_Md_pour {M : mM} (hd : 13 < mDp M) : mCal M M_Md_pour 1 := ⟨tb_co_Md_pour, tb_in_NineBarsModel, ⟨by decide +kernel, by decide +kernel⟩, by decide +kernel, hd, by decide⟩
theorem d_Md_pour_0 : decode prog_13_method_113_code 0 = .ok (.aload_n 0, 1) := by decide +kernel
theorem d_Md_pour_1 : decode prog_13_method_113_code 1 = .ok (.aload_n 0, 1) := by decide +kernel
theorem d_Md_pour_2 : decode prog_13_method_113_code 2 = .ok (.iload_n 1, 1) := by decide +kernel
theorem d_Md_pour_3 : decode prog_13_method_113_code 3 = .ok (.invokevirtual 296, 3) := by decide +kernel
theorem d_Md_pour_6 : decode prog_13_method_113_code 6 = .ok (.putfield 86, 3) := by decide +kernel
theorem d_Md_pour_9 : decode prog_13_method_113_code 9 = .ok (.aload_n 0, 1) := by decide +kernel
theorem d_Md_pour_10 : decode prog_13_method_113_code 10 = .ok (.getfield 86, 3) := by decide +kernel
theorem d_Md_pour_13 : decode prog_13_method_113_code 13 = .ok (.ifCond .ne 15, 3) := by decide +kernel
theorem d_Md_pour_28 : decode prog_13_method_113_code 28 = .ok (.aload_n 0, 1) := by decide +kernel
theorem d_Md_pour_29 : decode prog_13_method_113_code 29 = .ok (.getfield 86, 3) := by decide +kernel
theorem d_Md_pour_32 : decode prog_13_method_113_code 32 = .ok (.ifCond .le 5, 3) := by decide +kernel
theorem d_Md_pour_37 : decode prog_13_method_113_code 37 = .ok (.iconst 0, 1) := by decide +kernel
theorem d_Md_pour_38 : decode prog_13_method_113_code 38 = .ok (.aload_n 0, 1) := by decide +kernel
theorem d_Md_pour_39 : decode prog_13_method_113_code 39 = .ok (.aload_n 0, 1) := by decide +kernel
theorem d_Md_pour_40 : decode prog_13_method_113_code 40 = .ok (.invokevirtual 265, 3) := by decide +kernel
theorem d_Md_pour_43 : decode prog_13_method_113_code 43 = .ok (.aload_n 0, 1) := by decide +kernel
theorem d_Md_pour_44 : decode prog_13_method_113_code 44 = .ok (.invokevirtual 341, 3) := by decide +kernel
theorem d_Md_pour_47 : decode prog_13_method_113_code 47 = .ok (.iconst (-1), 1) := by decide +kernel
theorem d_Md_pour_48 : decode prog_13_method_113_code 48 = .ok (.invokevirtual 338, 3) := by decide +kernel
theorem d_Md_pour_51 : decode prog_13_method_113_code 51 = .ok (.invokestatic 408, 3) := by decide +kernel
theorem d_Md_pour_54 : decode prog_13_method_113_code 54 = .ok (.istore_n 2, 1) := by decide +kernel
theorem d_Md_pour_55 : decode prog_13_method_113_code 55 = .ok (.aload_n 0, 1) := by decide +kernel
theorem d_Md_pour_56 : decode prog_13_method_113_code 56 = .ok (.invokevirtual 265, 3) := by decide +kernel
theorem d_Md_pour_59 : decode prog_13_method_113_code 59 = .ok (.istore_n 3, 1) := by decide +kernel
theorem d_Md_pour_60 : decode prog_13_method_113_code 60 = .ok (.iconst 0, 1) := by decide +kernel
theorem d_Md_pour_61 : decode prog_13_method_113_code 61 = .ok (.istore 4, 2) := by decide +kernel
theorem d_Md_pour_63 : decode prog_13_method_113_code 63 = .ok (.iload 4, 2) := by decide +kernel
theorem d_Md_pour_65 : decode prog_13_method_113_code 65 = .ok (.iload_n 2, 1) := by decide +kernel
theorem d_Md_pour_66 : decode prog_13_method_113_code 66 = .ok (.if_icmp .ge 50, 3) := by decide +kernel
theorem d_Md_pour_116 : decode prog_13_method_113_code 116 = .ok (.iload 4, 2) := by decide +kernel
theorem d_Md_pour_118 : decode prog_13_method_113_code 118 = .ok (.ireturn, 1) := by decide +kernel
theorem d_Md_pour_69 : decode prog_13_method_113_code 69 = .ok (.iload 4, 2) := by decide +kernel
theorem d_Md_pour_71 : decode prog_13_method_113_code 71 = .ok (.aload_n 0, 1) := by decide +kernel
theorem d_Md_pour_72 : decode prog_13_method_113_code 72 = .ok (.getfield 80, 3) := by decide +kernel
theorem d_Md_pour_75 : decode prog_13_method_113_code 75 = .ok (.iload_n 1, 1) := by decide +kernel
theorem d_Md_pour_76 : decode prog_13_method_113_code 76 = .ok (.iaload, 1) := by decide +kernel
theorem d_Md_pour_77 : decode prog_13_method_113_code 77 = .ok (.if_icmp .ge 39, 3) := by decide +kernel
theorem d_Md_pour_80 : decode prog_13_method_113_code 80 = .ok (.aload_n 0, 1) := by decide +kernel
theorem d_Md_pour_81 : decode prog_13_method_113_code 81 = .ok (.iload_n 3, 1) := by decide +kernel
theorem d_Md_pour_82 : decode prog_13_method_113_code 82 = .ok (.invokevirtual 335, 3) := by decide +kernel
theorem d_Md_pour_85 : decode prog_13_method_113_code 85 = .ok (.istore 5, 2) := by decide +kernel
theorem d_Md_pour_87 : decode prog_13_method_113_code 87 = .ok (.aload_n 0, 1) := by decide +kernel
theorem d_Md_pour_88 : decode prog_13_method_113_code 88 = .ok (.iload_n 1, 1) := by decide +kernel
theorem d_Md_pour_89 : decode prog_13_method_113_code 89 = .ok (.iload 4, 2) := by decide +kernel
theorem d_Md_pour_91 : decode prog_13_method_113_code 91 = .ok (.iload 5, 2) := by decide +kernel
theorem d_Md_pour_93 : decode prog_13_method_113_code 93 = .ok (.i2l, 1) := by decide +kernel
theorem d_Md_pour_94 : decode prog_13_method_113_code 94 = .ok (.invokevirtual 424, 3) := by decide +kernel
theorem d_Md_pour_97 : decode prog_13_method_113_code 97 = .ok (.pop2, 1) := by decide +kernel
theorem d_Md_pour_98 : decode prog_13_method_113_code 98 = .ok (.aload_n 0, 1) := by decide +kernel
theorem d_Md_pour_99 : decode prog_13_method_113_code 99 = .ok (.iload_n 3, 1) := by decide +kernel
theorem d_Md_pour_100 : decode prog_13_method_113_code 100 = .ok (.iload 5, 2) := by decide +kernel
theorem d_Md_pour_102 : decode prog_13_method_113_code 102 = .ok (.aload_n 0, 1) := by decide +kernel
theorem d_Md_pour_103 : decode prog_13_method_113_code 103 = .ok (.invokevirtual 244, 3) := by decide +kernel
theorem d_Md_pour_106 : decode prog_13_method_113_code 106 = .ok (.invokevirtual 322, 3) := by decide +kernel
theorem d_Md_pour_109 : decode prog_13_method_113_code 109 = .ok (.istore_n 3, 1) := by decide +kernel
theorem d_Md_pour_110 : decode prog_13_method_113_code 110 = .ok (.iinc 4 1, 3) := by decide +kernel
theorem d_Md_pour_113 : decode prog_13_method_113_code 113 = .ok (.goto (-50), 3) := by decide +kernel
theorem d_Md_pour_35 : decode prog_13_method_113_code 35 = .ok (.iconst 0, 1) := by decide +kernel
theorem d_Md_pour_36 : decode prog_13_method_113_code 36 = .ok (.ireturn, 1) := by decide +kernel
theorem d_Md_pour_16 : decode prog_13_method_113_code 16 = .ok (.aload_n 0, 1) := by decide +kernel
theorem d_Md_pour_17 : decode prog_13_method_113_code 17 = .ok (.invokevirtual 261, 3) := by decide +kernel
theorem d_Md_pour_20 : decode prog_13_method_113_code 20 = .ok (.ifCond .eq 8, 3) := by decide +kernel
theorem d_Md_pour_23 : decode prog_13_method_113_code 23 = .ok (.aload_n 0, 1) := by decide +kernel
theorem d_Md_pour_24 : decode prog_13_method_113_code 24 = .ok (.iconst 2, 1) := by decide +kernel
theorem d_Md_pour_25 : decode prog_13_method_113_code 25 = .ok (.putfield 86, 3) := by decide +kernel
theorem t_Md_pour_L63 {G : mG} {r : mR} {v0 v1 v2 : Int}  : ∀ (n : Nat) (h : mH) (v3 v4 : Int), f_Md_pour_L63 v0 v1 v2 n h v3 v4 = some r → mJ G M_Md_pour 63 [(2, v0), (0, v1), (0, v2), (0, v3), (0, v4), (9, 0)] [] h r := by
  intro n
  induction n with
  | zero =>
    intro h v3 v4 hr
    rw [f_Md_pour_L63] at hr
    cases hr
  | succ n hR63 =>
    intro h v3 v4 hr
    rw [f_Md_pour_L63] at hr
    refine j_iload (pc := 63) d_Md_pour_63 rfl ?_
    refine j_iload_n (pc := 65) d_Md_pour_65 rfl ?_
    refine j_icmp_ge (pc := 66) (tgt := 116) d_Md_pour_66 hr (fun hr => ?_) (fun hr => ?_)
    · refine j_iload (pc := 116) d_Md_pour_116 rfl ?_
      exact j_iret (pc := 118) d_Md_pour_118 rfl hr
    · refine j_iload (pc := 69) d_Md_pour_69 rfl ?_
      refine j_aload_n (pc := 71) d_Md_pour_71 rfl ?_
      refine j_getf (pc := 72) d_Md_pour_72 (fd_Md_80 rfl) hr (fun hr => ?_)
      refine j_iload_n (pc := 75) d_Md_pour_75 rfl ?_
      refine j_iaload (pc := 76) d_Md_pour_76 hr (fun hr => ?_)
      refine j_icmp_ge (pc := 77) (tgt := 116) d_Md_pour_77 hr (fun hr => ?_) (fun hr => ?_)
      · refine j_iload (pc := 116) d_Md_pour_116 rfl ?_
        exact j_iret (pc := 118) d_Md_pour_118 rfl hr
      · refine j_aload_n (pc := 80) d_Md_pour_80 rfl ?_
        refine j_iload_n (pc := 81) d_Md_pour_81 rfl ?_
        obtain ⟨ha, hr⟩ := chk_some hr
        refine j_callG (pc := 82) (stk := [(0, v3), (2, v0)]) (as := [(2, v0), (0, v3)]) (P := (fun v9 => ((0 : Nat), v9) :: [])) (tg := 0) (My := M_Md_firstStep) (mRunV (as := [(0, v3)]) (st := []) d_Md_pour_82 (mc_Md_firstStep (by decide)) rfl (mv_Md_firstStep tb_ml_Md_335) rfl (Nat.le_of_ble_eq_true rfl) ha) (fun v => rfl) rfl hr (fun r1 h1 => t_Md_firstStep _ _ _ _ h1) (fun x2 h1 hr => ?_)
        refine j_istore (pc := 85) (ls' := [(2, v0), (0, v1), (0, v2), (0, v3), (0, v4), (0, x2)]) d_Md_pour_85 rfl ?_
        refine j_aload_n (pc := 87) d_Md_pour_87 rfl ?_
        refine j_iload_n (pc := 88) d_Md_pour_88 rfl ?_
        refine j_iload (pc := 89) d_Md_pour_89 rfl ?_
        refine j_iload (pc := 91) d_Md_pour_91 rfl ?_
        refine j_i2l (pc := 93) d_Md_pour_93 ?_
        obtain ⟨ha, hr⟩ := chk_some hr
        refine j_callG (pc := 94) (stk := [(1, x2), (0, v4), (0, v1), (2, v0)]) (as := [(2, v0), (0, v1), (0, v4), (1, x2)]) (P := (fun v9 => ((1 : Nat), v9) :: [])) (tg := 1) (My := M_Md_cut) (mRunV (as := [(0, v1), (0, v4), (1, x2)]) (st := []) d_Md_pour_94 (mc_Md_cut (by decide)) rfl (mv_Md_cut tb_ml_Md_424) rfl (Nat.le_of_ble_eq_true rfl) ha) (fun v => rfl) rfl hr (fun r1 h1 => t_Md_cut _ _ _ _ _ _ h1) (fun x4 h3 hr => ?_)
        refine j_pop2 (pc := 97) d_Md_pour_97 ?_
        refine j_aload_n (pc := 98) d_Md_pour_98 rfl ?_
        refine j_iload_n (pc := 99) d_Md_pour_99 rfl ?_
        refine j_iload (pc := 100) d_Md_pour_100 rfl ?_
        refine j_aload_n (pc := 102) d_Md_pour_102 rfl ?_
        obtain ⟨ha, hr⟩ := chk_some hr
        refine j_callG (pc := 103) (stk := [(2, v0), (0, x2), (0, v3), (2, v0)]) (as := [(2, v0)]) (P := (fun v9 => ((0 : Nat), v9) :: [(0, x2), (0, v3), (2, v0)])) (tg := 0) (My := M_Md_worn) (mRunV (as := []) (st := [(0, x2), (0, v3), (2, v0)]) d_Md_pour_103 (mc_Md_worn (by decide)) rfl (mv_Md_worn tb_ml_Md_244) rfl (Nat.le_of_ble_eq_true rfl) ha) (fun v => rfl) rfl hr (fun r1 h1 => t_Md_worn _ _ _ h1) (fun x6 h5 hr => ?_)
        obtain ⟨ha, hr⟩ := chk_some hr
        refine j_callG (pc := 106) (stk := [(0, x6), (0, x2), (0, v3), (2, v0)]) (as := [(2, v0), (0, v3), (0, x2), (0, x6)]) (P := (fun v9 => ((0 : Nat), v9) :: [])) (tg := 0) (My := M_Md_then) (mRunV (as := [(0, v3), (0, x2), (0, x6)]) (st := []) d_Md_pour_106 (mc_Md_then (by decide)) rfl (mv_Md_then tb_ml_Md_322) rfl (Nat.le_of_ble_eq_true rfl) ha) (fun v => rfl) rfl hr (fun r1 h1 => t_Md_then _ _ _ _ _ _ h1) (fun x8 h7 hr => ?_)
        refine j_istore_n (pc := 109) (ls' := [(2, v0), (0, v1), (0, v2), (0, x8), (0, v4), (0, x2)]) d_Md_pour_109 rfl ?_
        refine j_iincW (pc := 110) (L := fun x9 => [(2, v0), (0, v1), (0, v2), (0, x8), (0, x9), (0, x2)]) d_Md_pour_110 rfl (fun _ => rfl) hr (fun x9 hr => ?_)
        refine j_goto (pc := 113) (tgt := 63) d_Md_pour_113 ?_
        exact mJ_weak (ls' := [(2, v0), (0, v1), (0, v2), (0, x8), (0, x9), (9, 0)]) (mwk_s (mwk_s (mwk_s (mwk_s (mwk_s (mwk_d mwk_n)))))) (hR63 h7 _ _ hr)
theorem t_Md_pour_J28 {G : mG} {r : mR} {v0 v1 : Int} {h : mH}  (hr : f_Md_pour_J28 v0 v1 h = some r) : mJ G M_Md_pour 28 [(2, v0), (0, v1), (9, 0), (9, 0), (9, 0), (9, 0)] [] h r := by
  unfold f_Md_pour_J28 at hr
  refine j_aload_n (pc := 28) d_Md_pour_28 rfl ?_
  refine j_getf (pc := 29) d_Md_pour_29 (fd_Md_86 rfl) hr (fun hr => ?_)
  refine j_if_le (pc := 32) (tgt := 37) d_Md_pour_32 hr (fun hr => ?_) (fun hr => ?_)
  · refine j_iconst (pc := 37) d_Md_pour_37 ?_
    refine j_aload_n (pc := 38) d_Md_pour_38 rfl ?_
    refine j_aload_n (pc := 39) d_Md_pour_39 rfl ?_
    obtain ⟨ha, hr⟩ := chk_some hr
    refine j_callG (pc := 40) (stk := [(2, v0), (2, v0), (0, 0)]) (as := [(2, v0)]) (P := (fun v9 => ((0 : Nat), v9) :: [(2, v0), (0, 0)])) (tg := 0) (My := M_Md_standNow) (mRunV (as := []) (st := [(2, v0), (0, 0)]) d_Md_pour_40 (mc_Md_standNow (by decide)) rfl (mv_Md_standNow tb_ml_Md_265) rfl (Nat.le_of_ble_eq_true rfl) ha) (fun v => rfl) rfl hr (fun r1 h1 => t_Md_standNow _ _ _ h1) (fun x2 h1 hr => ?_)
    refine j_aload_n (pc := 43) d_Md_pour_43 rfl ?_
    obtain ⟨ha, hr⟩ := chk_some hr
    refine j_callG (pc := 44) (stk := [(2, v0), (0, x2), (2, v0), (0, 0)]) (as := [(2, v0)]) (P := (fun v9 => ((0 : Nat), v9) :: [(0, x2), (2, v0), (0, 0)])) (tg := 0) (My := M_Md_openStand) (mRunV (as := []) (st := [(0, x2), (2, v0), (0, 0)]) d_Md_pour_44 (mc_Md_openStand (by decide)) rfl (mv_Md_openStand tb_ml_Md_341) rfl (Nat.le_of_ble_eq_true rfl) ha) (fun v => rfl) rfl hr (fun r1 h1 => t_Md_openStand _ _ _ h1) (fun x4 h3 hr => ?_)
    refine j_iconst (pc := 47) d_Md_pour_47 ?_
    obtain ⟨ha, hr⟩ := chk_some hr
    refine j_callG (pc := 48) (stk := [(0, (-1)), (0, x4), (0, x2), (2, v0), (0, 0)]) (as := [(2, v0), (0, x2), (0, x4), (0, (-1))]) (P := (fun v9 => ((0 : Nat), v9) :: [(0, 0)])) (tg := 0) (My := M_Md_shortestOf) (mRunV (as := [(0, x2), (0, x4), (0, (-1))]) (st := [(0, 0)]) d_Md_pour_48 (mc_Md_shortestOf (by decide)) rfl (mv_Md_shortestOf tb_ml_Md_338) rfl (Nat.le_of_ble_eq_true rfl) ha) (fun v => rfl) rfl hr (fun r1 h1 => t_Md_shortestOf _ _ _ _ _ _ h1) (fun x6 h5 hr => ?_)
    refine j_max (pc := 51) d_Md_pour_51 tb_ml_Md_408 tb_sm_Math_max tb_in_java_lang_Math tb_co_Math_max (Nat.le_of_ble_eq_true rfl) ?_
    refine j_istoreW_n (pc := 54) (L := fun x7 => [(2, v0), (0, v1), (0, x7), (9, 0), (9, 0), (9, 0)]) d_Md_pour_54 (fun _ => rfl) hr (fun x7 hr => ?_)
    refine j_aload_n (pc := 55) d_Md_pour_55 rfl ?_
    obtain ⟨ha, hr⟩ := chk_some hr
    refine j_callG (pc := 56) (stk := [(2, v0)]) (as := [(2, v0)]) (P := (fun v9 => ((0 : Nat), v9) :: [])) (tg := 0) (My := M_Md_standNow) (mRunV (as := []) (st := []) d_Md_pour_56 (mc_Md_standNow (by decide)) rfl (mv_Md_standNow tb_ml_Md_265) rfl (Nat.le_of_ble_eq_true rfl) ha) (fun v => rfl) rfl hr (fun r1 h1 => t_Md_standNow _ _ _ h1) (fun x9 h8 hr => ?_)
    refine j_istore_n (pc := 59) (ls' := [(2, v0), (0, v1), (0, x7), (0, x9), (9, 0), (9, 0)]) d_Md_pour_59 rfl ?_
    refine j_iconst (pc := 60) d_Md_pour_60 ?_
    refine j_istore (pc := 61) (ls' := [(2, v0), (0, v1), (0, x7), (0, x9), (0, 0), (9, 0)]) d_Md_pour_61 rfl ?_
    refine mJ_weak (ls' := [(2, v0), (0, v1), (0, x7), (0, x9), (0, 0), (9, 0)]) (mwk_s (mwk_s (mwk_s (mwk_s (mwk_s (mwk_s mwk_n)))))) (t_Md_pour_L63  _ _ _ _ hr)
  · refine j_iconst (pc := 35) d_Md_pour_35 ?_
    exact j_iret (pc := 36) d_Md_pour_36 rfl hr
theorem t_Md_pour {G : mG} (h : mH) (v0 v1 : Int) (r : mR) (hr : f_Md_pour h v0 v1 = some r) : mJM G M_Md_pour [(2, v0), (0, v1)] h r := by
  refine mJM_of (L := [(2, v0), (0, v1), (9, 0), (9, 0), (9, 0), (9, 0)]) rfl rfl rfl (Nat.le_of_ble_eq_true rfl) ?_
  unfold f_Md_pour at hr
  refine j_aload_n (pc := 0) d_Md_pour_0 rfl ?_
  refine j_aload_n (pc := 1) d_Md_pour_1 rfl ?_
  refine j_iload_n (pc := 2) d_Md_pour_2 rfl ?_
  obtain ⟨ha, hr⟩ := chk_some hr
  refine j_callG (pc := 3) (stk := [(0, v1), (2, v0), (2, v0)]) (as := [(2, v0), (0, v1)]) (P := (fun v9 => ((0 : Nat), v9) :: [(2, v0)])) (tg := 0) (My := M_Md_trayFault) (mRunV (as := [(0, v1)]) (st := [(2, v0)]) d_Md_pour_3 (mc_Md_trayFault (by decide)) rfl (mv_Md_trayFault tb_ml_Md_296) rfl (Nat.le_of_ble_eq_true rfl) ha) (fun v => rfl) rfl hr (fun r1 h1 => t_Md_trayFault _ _ _ _ h1) (fun x2 h1 hr => ?_)
  refine j_puti (pc := 6) d_Md_pour_6 (fd_Md_86 rfl) (⟨_, _, _, rfl, Or.inl rfl, rfl⟩ : mFldW M_Md_pour 86 11 5 .int) hr (fun h3 hr => ?_)
  refine j_aload_n (pc := 9) d_Md_pour_9 rfl ?_
  refine j_getf (pc := 10) d_Md_pour_10 (fd_Md_86 rfl) hr (fun hr => ?_)
  refine j_if_ne (pc := 13) (tgt := 28) d_Md_pour_13 hr (fun hr => ?_) (fun hr => ?_)
  · exact mJ_weak (ls' := [(2, v0), (0, v1), (9, 0), (9, 0), (9, 0), (9, 0)]) (mwk_s (mwk_s (mwk_s (mwk_s (mwk_s (mwk_s mwk_n)))))) (t_Md_pour_J28  hr)
  · refine j_aload_n (pc := 16) d_Md_pour_16 rfl ?_
    obtain ⟨ha, hr⟩ := chk_some hr
    refine j_callG (pc := 17) (stk := [(2, v0)]) (as := [(2, v0)]) (P := (fun v9 => ((0 : Nat), v9) :: [])) (tg := 0) (My := M_Md_isSpent) (mRunV (as := []) (st := []) d_Md_pour_17 (mc_Md_isSpent (by decide)) rfl (mv_Md_isSpent tb_ml_Md_261) rfl (Nat.le_of_ble_eq_true rfl) ha) (fun v => rfl) rfl hr (fun r1 h1 => t_Md_isSpent _ _ _ h1) (fun x5 h4 hr => ?_)
    refine j_if_eq (pc := 20) (tgt := 28) d_Md_pour_20 hr (fun hr => ?_) (fun hr => ?_)
    · exact mJ_weak (ls' := [(2, v0), (0, v1), (9, 0), (9, 0), (9, 0), (9, 0)]) (mwk_s (mwk_s (mwk_s (mwk_s (mwk_s (mwk_s mwk_n)))))) (t_Md_pour_J28  hr)
    · refine j_aload_n (pc := 23) d_Md_pour_23 rfl ?_
      refine j_iconst (pc := 24) d_Md_pour_24 ?_
      refine j_puti (pc := 25) d_Md_pour_25 (fd_Md_86 rfl) (⟨_, _, _, rfl, Or.inl rfl, rfl⟩ : mFldW M_Md_pour 86 11 5 .int) hr (fun h6 hr => ?_)
      exact mJ_weak (ls' := [(2, v0), (0, v1), (9, 0), (9, 0), (9, 0), (9, 0)]) (mwk_s (mwk_s (mwk_s (mwk_s (mwk_s (mwk_s mwk_n)))))) (t_Md_pour_J28  hr)
def M_Md_image : mM := ("NineBarsModel", ⟨"NineBarsModel", "image", "(I)V"⟩, prog_13_method_114_code, 3, none, [], 3)
theorem tb_co_Md_image : mTB (Cond.code ⟨"NineBarsModel", "image", "(I)V"⟩ prog_13_method_114_code 3 (none)) := tbq9 77 (by decide +kernel) rfl
theorem mc_Md_image {M : mM} (hd : 3 < mDp M) : mCal M M_Md_image 1 := ⟨tb_co_Md_image, tb_in_NineBarsModel, ⟨by decide +kernel, by decide +kernel⟩, by decide +kernel, hd, by decide⟩
theorem d_Md_image_0 : decode prog_13_method_114_code 0 = .ok (.aload_n 0, 1) := by decide +kernel
theorem d_Md_image_1 : decode prog_13_method_114_code 1 = .ok (.iload_n 1, 1) := by decide +kernel
theorem d_Md_image_2 : decode prog_13_method_114_code 2 = .ok (.i2l, 1) := by decide +kernel
theorem d_Md_image_3 : decode prog_13_method_114_code 3 = .ok (.lconst 0, 1) := by decide +kernel
theorem d_Md_image_4 : decode prog_13_method_114_code 4 = .ok (.ldc2_w 287, 3) := by decide +kernel
theorem d_Md_image_7 : decode prog_13_method_114_code 7 = .ok (.invokestatic 147, 3) := by decide +kernel
theorem d_Md_image_10 : decode prog_13_method_114_code 10 = .ok (.ifCond .eq 7, 3) := by decide +kernel
theorem d_Md_image_17 : decode prog_13_method_114_code 17 = .ok (.iconst 1, 1) := by decide +kernel
theorem d_Md_image_18 : decode prog_13_method_114_code 18 = .ok (.putfield 86, 3) := by decide +kernel
theorem d_Md_image_21 : decode prog_13_method_114_code 21 = .ok (.aload_n 0, 1) := by decide +kernel
theorem d_Md_image_22 : decode prog_13_method_114_code 22 = .ok (.getfield 86, 3) := by decide +kernel
theorem d_Md_image_25 : decode prog_13_method_114_code 25 = .ok (.ifCond .le 4, 3) := by decide +kernel
theorem d_Md_image_29 : decode prog_13_method_114_code 29 = .ok (.aload_n 0, 1) := by decide +kernel
theorem d_Md_image_30 : decode prog_13_method_114_code 30 = .ok (.getfield 22, 3) := by decide +kernel
theorem d_Md_image_33 : decode prog_13_method_114_code 33 = .ok (.iload_n 1, 1) := by decide +kernel
theorem d_Md_image_34 : decode prog_13_method_114_code 34 = .ok (.iconst 1, 1) := by decide +kernel
theorem d_Md_image_35 : decode prog_13_method_114_code 35 = .ok (.bastore, 1) := by decide +kernel
theorem d_Md_image_36 : decode prog_13_method_114_code 36 = .ok (.iconst 0, 1) := by decide +kernel
theorem d_Md_image_37 : decode prog_13_method_114_code 37 = .ok (.istore_n 2, 1) := by decide +kernel
theorem d_Md_image_38 : decode prog_13_method_114_code 38 = .ok (.iload_n 2, 1) := by decide +kernel
theorem d_Md_image_39 : decode prog_13_method_114_code 39 = .ok (.sipush 434, 3) := by decide +kernel
theorem d_Md_image_42 : decode prog_13_method_114_code 42 = .ok (.if_icmp .ge 27, 3) := by decide +kernel
theorem d_Md_image_69 : decode prog_13_method_114_code 69 = .ok (.return_, 1) := by decide +kernel
theorem d_Md_image_45 : decode prog_13_method_114_code 45 = .ok (.aload_n 0, 1) := by decide +kernel
theorem d_Md_image_46 : decode prog_13_method_114_code 46 = .ok (.getfield 19, 3) := by decide +kernel
theorem d_Md_image_49 : decode prog_13_method_114_code 49 = .ok (.sipush 434, 3) := by decide +kernel
theorem d_Md_image_52 : decode prog_13_method_114_code 52 = .ok (.iload_n 1, 1) := by decide +kernel
theorem d_Md_image_53 : decode prog_13_method_114_code 53 = .ok (.imul, 1) := by decide +kernel
theorem d_Md_image_54 : decode prog_13_method_114_code 54 = .ok (.iload_n 2, 1) := by decide +kernel
theorem d_Md_image_55 : decode prog_13_method_114_code 55 = .ok (.iadd, 1) := by decide +kernel
theorem d_Md_image_56 : decode prog_13_method_114_code 56 = .ok (.aload_n 0, 1) := by decide +kernel
theorem d_Md_image_57 : decode prog_13_method_114_code 57 = .ok (.getfield 9, 3) := by decide +kernel
theorem d_Md_image_60 : decode prog_13_method_114_code 60 = .ok (.iload_n 2, 1) := by decide +kernel
theorem d_Md_image_61 : decode prog_13_method_114_code 61 = .ok (.iaload, 1) := by decide +kernel
theorem d_Md_image_62 : decode prog_13_method_114_code 62 = .ok (.iastore, 1) := by decide +kernel
theorem d_Md_image_63 : decode prog_13_method_114_code 63 = .ok (.iinc 2 1, 3) := by decide +kernel
theorem d_Md_image_66 : decode prog_13_method_114_code 66 = .ok (.goto (-28), 3) := by decide +kernel
theorem d_Md_image_28 : decode prog_13_method_114_code 28 = .ok (.return_, 1) := by decide +kernel
theorem d_Md_image_13 : decode prog_13_method_114_code 13 = .ok (.iconst 0, 1) := by decide +kernel
theorem d_Md_image_14 : decode prog_13_method_114_code 14 = .ok (.goto 4, 3) := by decide +kernel
theorem t_Md_image_L38 {G : mG} {r : mR} {v0 v1 : Int}  : ∀ (n : Nat) (h : mH) (v2 : Int), f_Md_image_L38 v0 v1 n h v2 = some r → mJ G M_Md_image 38 [(2, v0), (0, v1), (0, v2)] [] h r := by
  intro n
  induction n with
  | zero =>
    intro h v2 hr
    rw [f_Md_image_L38] at hr
    cases hr
  | succ n hR38 =>
    intro h v2 hr
    rw [f_Md_image_L38] at hr
    refine j_iload_n (pc := 38) d_Md_image_38 rfl ?_
    refine j_sipush (pc := 39) d_Md_image_39 ?_
    refine j_icmp_ge (pc := 42) (tgt := 69) d_Md_image_42 hr (fun hr => ?_) (fun hr => ?_)
    · exact j_vret (pc := 69) d_Md_image_69 rfl hr
    · refine j_aload_n (pc := 45) d_Md_image_45 rfl ?_
      refine j_getf (pc := 46) d_Md_image_46 (fd_Md_19 rfl) hr (fun hr => ?_)
      refine j_sipush (pc := 49) d_Md_image_49 ?_
      refine j_iload_n (pc := 52) d_Md_image_52 rfl ?_
      refine j_imul (pc := 53) d_Md_image_53 ?_
      refine j_iload_n (pc := 54) d_Md_image_54 rfl ?_
      refine j_iadd (pc := 55) d_Md_image_55 ?_
      refine j_aload_n (pc := 56) d_Md_image_56 rfl ?_
      refine j_getf (pc := 57) d_Md_image_57 (fd_Md_9 rfl) hr (fun hr => ?_)
      refine j_iload_n (pc := 60) d_Md_image_60 rfl ?_
      refine j_iaload (pc := 61) d_Md_image_61 hr (fun hr => ?_)
      refine j_iastore (pc := 62) d_Md_image_62 hr (fun h1 hr => ?_)
      refine j_iincW (pc := 63) (L := fun x2 => [(2, v0), (0, v1), (0, x2)]) d_Md_image_63 rfl (fun _ => rfl) hr (fun x2 hr => ?_)
      refine j_goto (pc := 66) (tgt := 38) d_Md_image_66 ?_
      exact mJ_weak (ls' := [(2, v0), (0, v1), (0, x2)]) (mwk_s (mwk_s (mwk_s mwk_n))) (hR38 h1 _ hr)
theorem t_Md_image_J18 {G : mG} {r : mR} {v0 v1 s0 s1 : Int} {h : mH}  (hr : f_Md_image_J18 v0 v1 s0 s1 h = some r) : mJ G M_Md_image 18 [(2, v0), (0, v1), (9, 0)] [(0, s1), (2, s0)] h r := by
  unfold f_Md_image_J18 at hr
  refine j_puti (pc := 18) d_Md_image_18 (fd_Md_86 rfl) (⟨_, _, _, rfl, Or.inl rfl, rfl⟩ : mFldW M_Md_image 86 11 5 .int) hr (fun h1 hr => ?_)
  refine j_aload_n (pc := 21) d_Md_image_21 rfl ?_
  refine j_getf (pc := 22) d_Md_image_22 (fd_Md_86 rfl) hr (fun hr => ?_)
  refine j_if_le (pc := 25) (tgt := 29) d_Md_image_25 hr (fun hr => ?_) (fun hr => ?_)
  · refine j_aload_n (pc := 29) d_Md_image_29 rfl ?_
    refine j_getf (pc := 30) d_Md_image_30 (fd_Md_22 rfl) hr (fun hr => ?_)
    refine j_iload_n (pc := 33) d_Md_image_33 rfl ?_
    refine j_iconst (pc := 34) d_Md_image_34 ?_
    refine j_zastore (pc := 35) d_Md_image_35 hr (fun h2 hr => ?_)
    refine j_iconst (pc := 36) d_Md_image_36 ?_
    refine j_istore_n (pc := 37) (ls' := [(2, v0), (0, v1), (0, 0)]) d_Md_image_37 rfl ?_
    refine mJ_weak (ls' := [(2, v0), (0, v1), (0, 0)]) (mwk_s (mwk_s (mwk_s mwk_n))) (t_Md_image_L38  _ _ _ hr)
  · exact j_vret (pc := 28) d_Md_image_28 rfl hr
theorem t_Md_image {G : mG} (h : mH) (v0 v1 : Int) (r : mR) (hr : f_Md_image h v0 v1 = some r) : mJM G M_Md_image [(2, v0), (0, v1)] h r := by
  refine mJM_of (L := [(2, v0), (0, v1), (9, 0)]) rfl rfl rfl (Nat.le_of_ble_eq_true rfl) ?_
  unfold f_Md_image at hr
  refine j_aload_n (pc := 0) d_Md_image_0 rfl ?_
  refine j_iload_n (pc := 1) d_Md_image_1 rfl ?_
  refine j_i2l (pc := 2) d_Md_image_2 ?_
  refine j_lconst (pc := 3) (z := 0) d_Md_image_3 ?_
  refine j_ldc2 (pc := 4) (z := 2) d_Md_image_4 tb_cj_Md_287 rfl ?_
  refine j_callG (pc := 7) (stk := [(1, 2), (1, 0), (1, v1), (2, v0)]) (as := [(1, v1), (1, 0), (1, 2)]) (P := (fun v9 => ((0 : Nat), v9) :: [(2, v0)])) (tg := 0) (My := M_Md_amid) (mRunS (as := [(1, v1), (1, 0), (1, 2)]) (st := [(2, v0)]) d_Md_image_7 (mc_Md_amid (by decide)) rfl ⟨tb_ml_Md_147, tb_sm_Md_amid⟩ rfl (Nat.le_of_ble_eq_true rfl)) (fun v => rfl) rfl hr (fun r1 h1 => t_Md_amid _ _ _ _ _ h1) (fun x2 h1 hr => ?_)
  refine j_if_eq (pc := 10) (tgt := 17) d_Md_image_10 hr (fun hr => ?_) (fun hr => ?_)
  · refine j_iconst (pc := 17) d_Md_image_17 ?_
    exact mJ_weak (ls' := [(2, v0), (0, v1), (9, 0)]) (mwk_s (mwk_s (mwk_s mwk_n))) (t_Md_image_J18  hr)
  · refine j_iconst (pc := 13) d_Md_image_13 ?_
    refine j_goto (pc := 14) (tgt := 18) d_Md_image_14 ?_
    exact mJ_weak (ls' := [(2, v0), (0, v1), (9, 0)]) (mwk_s (mwk_s (mwk_s mwk_n))) (t_Md_image_J18  hr)
def M_Md_restore : mM := ("NineBarsModel", ⟨"NineBarsModel", "restore", "(I)V"⟩, prog_13_method_115_code, 3, none, [], 3)
theorem tb_co_Md_restore : mTB (Cond.code ⟨"NineBarsModel", "restore", "(I)V"⟩ prog_13_method_115_code 3 (none)) := tbq9 81 (by decide +kernel) rfl
theorem mc_Md_restore {M : mM} (hd : 3 < mDp M) : mCal M M_Md_restore 1 := ⟨tb_co_Md_restore, tb_in_NineBarsModel, ⟨by decide +kernel, by decide +kernel⟩, by decide +kernel, hd, by decide⟩
theorem d_Md_restore_0 : decode prog_13_method_115_code 0 = .ok (.aload_n 0, 1) := by decide +kernel
theorem d_Md_restore_1 : decode prog_13_method_115_code 1 = .ok (.iload_n 1, 1) := by decide +kernel
theorem d_Md_restore_2 : decode prog_13_method_115_code 2 = .ok (.i2l, 1) := by decide +kernel
theorem d_Md_restore_3 : decode prog_13_method_115_code 3 = .ok (.lconst 0, 1) := by decide +kernel
theorem d_Md_restore_4 : decode prog_13_method_115_code 4 = .ok (.ldc2_w 287, 3) := by decide +kernel
theorem d_Md_restore_7 : decode prog_13_method_115_code 7 = .ok (.invokestatic 147, 3) := by decide +kernel
theorem d_Md_restore_10 : decode prog_13_method_115_code 10 = .ok (.ifCond .ne 7, 3) := by decide +kernel
theorem d_Md_restore_17 : decode prog_13_method_115_code 17 = .ok (.aload_n 0, 1) := by decide +kernel
theorem d_Md_restore_18 : decode prog_13_method_115_code 18 = .ok (.getfield 22, 3) := by decide +kernel
theorem d_Md_restore_21 : decode prog_13_method_115_code 21 = .ok (.iload_n 1, 1) := by decide +kernel
theorem d_Md_restore_22 : decode prog_13_method_115_code 22 = .ok (.baload, 1) := by decide +kernel
theorem d_Md_restore_23 : decode prog_13_method_115_code 23 = .ok (.ifCond .ne 7, 3) := by decide +kernel
theorem d_Md_restore_30 : decode prog_13_method_115_code 30 = .ok (.iconst 0, 1) := by decide +kernel
theorem d_Md_restore_31 : decode prog_13_method_115_code 31 = .ok (.putfield 86, 3) := by decide +kernel
theorem d_Md_restore_34 : decode prog_13_method_115_code 34 = .ok (.aload_n 0, 1) := by decide +kernel
theorem d_Md_restore_35 : decode prog_13_method_115_code 35 = .ok (.getfield 86, 3) := by decide +kernel
theorem d_Md_restore_38 : decode prog_13_method_115_code 38 = .ok (.ifCond .le 4, 3) := by decide +kernel
theorem d_Md_restore_42 : decode prog_13_method_115_code 42 = .ok (.iconst 0, 1) := by decide +kernel
theorem d_Md_restore_43 : decode prog_13_method_115_code 43 = .ok (.istore_n 2, 1) := by decide +kernel
theorem d_Md_restore_44 : decode prog_13_method_115_code 44 = .ok (.iload_n 2, 1) := by decide +kernel
theorem d_Md_restore_45 : decode prog_13_method_115_code 45 = .ok (.sipush 434, 3) := by decide +kernel
theorem d_Md_restore_48 : decode prog_13_method_115_code 48 = .ok (.if_icmp .ge 27, 3) := by decide +kernel
theorem d_Md_restore_75 : decode prog_13_method_115_code 75 = .ok (.return_, 1) := by decide +kernel
theorem d_Md_restore_51 : decode prog_13_method_115_code 51 = .ok (.aload_n 0, 1) := by decide +kernel
theorem d_Md_restore_52 : decode prog_13_method_115_code 52 = .ok (.getfield 9, 3) := by decide +kernel
theorem d_Md_restore_55 : decode prog_13_method_115_code 55 = .ok (.iload_n 2, 1) := by decide +kernel
theorem d_Md_restore_56 : decode prog_13_method_115_code 56 = .ok (.aload_n 0, 1) := by decide +kernel
theorem d_Md_restore_57 : decode prog_13_method_115_code 57 = .ok (.getfield 19, 3) := by decide +kernel
theorem d_Md_restore_60 : decode prog_13_method_115_code 60 = .ok (.sipush 434, 3) := by decide +kernel
theorem d_Md_restore_63 : decode prog_13_method_115_code 63 = .ok (.iload_n 1, 1) := by decide +kernel
theorem d_Md_restore_64 : decode prog_13_method_115_code 64 = .ok (.imul, 1) := by decide +kernel
theorem d_Md_restore_65 : decode prog_13_method_115_code 65 = .ok (.iload_n 2, 1) := by decide +kernel
theorem d_Md_restore_66 : decode prog_13_method_115_code 66 = .ok (.iadd, 1) := by decide +kernel
theorem d_Md_restore_67 : decode prog_13_method_115_code 67 = .ok (.iaload, 1) := by decide +kernel
theorem d_Md_restore_68 : decode prog_13_method_115_code 68 = .ok (.iastore, 1) := by decide +kernel
theorem d_Md_restore_69 : decode prog_13_method_115_code 69 = .ok (.iinc 2 1, 3) := by decide +kernel
theorem d_Md_restore_72 : decode prog_13_method_115_code 72 = .ok (.goto (-28), 3) := by decide +kernel
theorem d_Md_restore_41 : decode prog_13_method_115_code 41 = .ok (.return_, 1) := by decide +kernel
theorem d_Md_restore_26 : decode prog_13_method_115_code 26 = .ok (.iconst 2, 1) := by decide +kernel
theorem d_Md_restore_27 : decode prog_13_method_115_code 27 = .ok (.goto 4, 3) := by decide +kernel
theorem d_Md_restore_13 : decode prog_13_method_115_code 13 = .ok (.iconst 1, 1) := by decide +kernel
theorem d_Md_restore_14 : decode prog_13_method_115_code 14 = .ok (.goto 17, 3) := by decide +kernel
theorem t_Md_restore_L44 {G : mG} {r : mR} {v0 v1 : Int}  : ∀ (n : Nat) (h : mH) (v2 : Int), f_Md_restore_L44 v0 v1 n h v2 = some r → mJ G M_Md_restore 44 [(2, v0), (0, v1), (0, v2)] [] h r := by
  intro n
  induction n with
  | zero =>
    intro h v2 hr
    rw [f_Md_restore_L44] at hr
    cases hr
  | succ n hR44 =>
    intro h v2 hr
    rw [f_Md_restore_L44] at hr
    refine j_iload_n (pc := 44) d_Md_restore_44 rfl ?_
    refine j_sipush (pc := 45) d_Md_restore_45 ?_
    refine j_icmp_ge (pc := 48) (tgt := 75) d_Md_restore_48 hr (fun hr => ?_) (fun hr => ?_)
    · exact j_vret (pc := 75) d_Md_restore_75 rfl hr
    · refine j_aload_n (pc := 51) d_Md_restore_51 rfl ?_
      refine j_getf (pc := 52) d_Md_restore_52 (fd_Md_9 rfl) hr (fun hr => ?_)
      refine j_iload_n (pc := 55) d_Md_restore_55 rfl ?_
      refine j_aload_n (pc := 56) d_Md_restore_56 rfl ?_
      refine j_getf (pc := 57) d_Md_restore_57 (fd_Md_19 rfl) hr (fun hr => ?_)
      refine j_sipush (pc := 60) d_Md_restore_60 ?_
      refine j_iload_n (pc := 63) d_Md_restore_63 rfl ?_
      refine j_imul (pc := 64) d_Md_restore_64 ?_
      refine j_iload_n (pc := 65) d_Md_restore_65 rfl ?_
      refine j_iadd (pc := 66) d_Md_restore_66 ?_
      refine j_iaload (pc := 67) d_Md_restore_67 hr (fun hr => ?_)
      refine j_iastore (pc := 68) d_Md_restore_68 hr (fun h1 hr => ?_)
      refine j_iincW (pc := 69) (L := fun x2 => [(2, v0), (0, v1), (0, x2)]) d_Md_restore_69 rfl (fun _ => rfl) hr (fun x2 hr => ?_)
      refine j_goto (pc := 72) (tgt := 44) d_Md_restore_72 ?_
      exact mJ_weak (ls' := [(2, v0), (0, v1), (0, x2)]) (mwk_s (mwk_s (mwk_s mwk_n))) (hR44 h1 _ hr)
theorem t_Md_restore_J31 {G : mG} {r : mR} {v0 v1 s0 s1 : Int} {h : mH}  (hr : f_Md_restore_J31 v0 v1 s0 s1 h = some r) : mJ G M_Md_restore 31 [(2, v0), (0, v1), (9, 0)] [(0, s1), (2, s0)] h r := by
  unfold f_Md_restore_J31 at hr
  refine j_puti (pc := 31) d_Md_restore_31 (fd_Md_86 rfl) (⟨_, _, _, rfl, Or.inl rfl, rfl⟩ : mFldW M_Md_restore 86 11 5 .int) hr (fun h1 hr => ?_)
  refine j_aload_n (pc := 34) d_Md_restore_34 rfl ?_
  refine j_getf (pc := 35) d_Md_restore_35 (fd_Md_86 rfl) hr (fun hr => ?_)
  refine j_if_le (pc := 38) (tgt := 42) d_Md_restore_38 hr (fun hr => ?_) (fun hr => ?_)
  · refine j_iconst (pc := 42) d_Md_restore_42 ?_
    refine j_istore_n (pc := 43) (ls' := [(2, v0), (0, v1), (0, 0)]) d_Md_restore_43 rfl ?_
    refine mJ_weak (ls' := [(2, v0), (0, v1), (0, 0)]) (mwk_s (mwk_s (mwk_s mwk_n))) (t_Md_restore_L44  _ _ _ hr)
  · exact j_vret (pc := 41) d_Md_restore_41 rfl hr
theorem t_Md_restore {G : mG} (h : mH) (v0 v1 : Int) (r : mR) (hr : f_Md_restore h v0 v1 = some r) : mJM G M_Md_restore [(2, v0), (0, v1)] h r := by
  refine mJM_of (L := [(2, v0), (0, v1), (9, 0)]) rfl rfl rfl (Nat.le_of_ble_eq_true rfl) ?_
  unfold f_Md_restore at hr
  refine j_aload_n (pc := 0) d_Md_restore_0 rfl ?_
  refine j_iload_n (pc := 1) d_Md_restore_1 rfl ?_
  refine j_i2l (pc := 2) d_Md_restore_2 ?_
  refine j_lconst (pc := 3) (z := 0) d_Md_restore_3 ?_
  refine j_ldc2 (pc := 4) (z := 2) d_Md_restore_4 tb_cj_Md_287 rfl ?_
  refine j_callG (pc := 7) (stk := [(1, 2), (1, 0), (1, v1), (2, v0)]) (as := [(1, v1), (1, 0), (1, 2)]) (P := (fun v9 => ((0 : Nat), v9) :: [(2, v0)])) (tg := 0) (My := M_Md_amid) (mRunS (as := [(1, v1), (1, 0), (1, 2)]) (st := [(2, v0)]) d_Md_restore_7 (mc_Md_amid (by decide)) rfl ⟨tb_ml_Md_147, tb_sm_Md_amid⟩ rfl (Nat.le_of_ble_eq_true rfl)) (fun v => rfl) rfl hr (fun r1 h1 => t_Md_amid _ _ _ _ _ h1) (fun x2 h1 hr => ?_)
  refine j_if_ne (pc := 10) (tgt := 17) d_Md_restore_10 hr (fun hr => ?_) (fun hr => ?_)
  · refine j_aload_n (pc := 17) d_Md_restore_17 rfl ?_
    refine j_getf (pc := 18) d_Md_restore_18 (fd_Md_22 rfl) hr (fun hr => ?_)
    refine j_iload_n (pc := 21) d_Md_restore_21 rfl ?_
    refine j_zaload (pc := 22) d_Md_restore_22 hr (fun hr => ?_)
    refine j_if_ne (pc := 23) (tgt := 30) d_Md_restore_23 hr (fun hr => ?_) (fun hr => ?_)
    · refine j_iconst (pc := 30) d_Md_restore_30 ?_
      exact mJ_weak (ls' := [(2, v0), (0, v1), (9, 0)]) (mwk_s (mwk_s (mwk_s mwk_n))) (t_Md_restore_J31  hr)
    · refine j_iconst (pc := 26) d_Md_restore_26 ?_
      refine j_goto (pc := 27) (tgt := 31) d_Md_restore_27 ?_
      exact mJ_weak (ls' := [(2, v0), (0, v1), (9, 0)]) (mwk_s (mwk_s (mwk_s mwk_n))) (t_Md_restore_J31  hr)
  · refine j_iconst (pc := 13) d_Md_restore_13 ?_
    refine j_goto (pc := 14) (tgt := 31) d_Md_restore_14 ?_
    exact mJ_weak (ls' := [(2, v0), (0, v1), (9, 0)]) (mwk_s (mwk_s (mwk_s mwk_n))) (t_Md_restore_J31  hr)
def M_Md_count : mM := ("NineBarsModel", ⟨"NineBarsModel", "count", "(I)I"⟩, prog_13_method_116_code, 4, some .int, [], 5)
theorem tb_co_Md_count : mTB (Cond.code ⟨"NineBarsModel", "count", "(I)I"⟩ prog_13_method_116_code 4 (some .int)) := tbq9 85 (by decide +kernel) rfl
theorem mc_Md_count {M : mM} (hd : 5 < mDp M) : mCal M M_Md_count 1 := ⟨tb_co_Md_count, tb_in_NineBarsModel, ⟨by decide +kernel, by decide +kernel⟩, by decide +kernel, hd, by decide⟩
theorem d_Md_count_0 : decode prog_13_method_116_code 0 = .ok (.aload_n 0, 1) := by decide +kernel
theorem d_Md_count_1 : decode prog_13_method_116_code 1 = .ok (.iconst 0, 1) := by decide +kernel
theorem d_Md_count_2 : decode prog_13_method_116_code 2 = .ok (.putfield 86, 3) := by decide +kernel
theorem d_Md_count_5 : decode prog_13_method_116_code 5 = .ok (.iconst 0, 1) := by decide +kernel
theorem d_Md_count_6 : decode prog_13_method_116_code 6 = .ok (.istore_n 2, 1) := by decide +kernel
theorem d_Md_count_7 : decode prog_13_method_116_code 7 = .ok (.iconst 0, 1) := by decide +kernel
theorem d_Md_count_8 : decode prog_13_method_116_code 8 = .ok (.istore_n 3, 1) := by decide +kernel
theorem d_Md_count_9 : decode prog_13_method_116_code 9 = .ok (.iload_n 3, 1) := by decide +kernel
theorem d_Md_count_10 : decode prog_13_method_116_code 10 = .ok (.aload_n 0, 1) := by decide +kernel
theorem d_Md_count_11 : decode prog_13_method_116_code 11 = .ok (.invokevirtual 210, 3) := by decide +kernel
theorem d_Md_count_14 : decode prog_13_method_116_code 14 = .ok (.if_icmp .ge 18, 3) := by decide +kernel
theorem d_Md_count_17 : decode prog_13_method_116_code 17 = .ok (.iload_n 2, 1) := by decide +kernel
theorem d_Md_count_18 : decode prog_13_method_116_code 18 = .ok (.aload_n 0, 1) := by decide +kernel
theorem d_Md_count_19 : decode prog_13_method_116_code 19 = .ok (.iload_n 3, 1) := by decide +kernel
theorem d_Md_count_20 : decode prog_13_method_116_code 20 = .ok (.iconst 3, 1) := by decide +kernel
theorem d_Md_count_21 : decode prog_13_method_116_code 21 = .ok (.invokevirtual 213, 3) := by decide +kernel
theorem d_Md_count_24 : decode prog_13_method_116_code 24 = .ok (.iadd, 1) := by decide +kernel
theorem d_Md_count_25 : decode prog_13_method_116_code 25 = .ok (.istore_n 2, 1) := by decide +kernel
theorem d_Md_count_26 : decode prog_13_method_116_code 26 = .ok (.iinc 3 1, 3) := by decide +kernel
theorem d_Md_count_29 : decode prog_13_method_116_code 29 = .ok (.goto (-20), 3) := by decide +kernel
theorem d_Md_count_32 : decode prog_13_method_116_code 32 = .ok (.iload_n 1, 1) := by decide +kernel
theorem d_Md_count_33 : decode prog_13_method_116_code 33 = .ok (.tableswitch 92 0 7 #[47, 54, 59, 66, 73, 80, 85, 87], 47) := by decide +kernel
theorem d_Md_count_80 : decode prog_13_method_116_code 80 = .ok (.aload_n 0, 1) := by decide +kernel
theorem d_Md_count_81 : decode prog_13_method_116_code 81 = .ok (.getfield 9, 3) := by decide +kernel
theorem d_Md_count_84 : decode prog_13_method_116_code 84 = .ok (.iconst 0, 1) := by decide +kernel
theorem d_Md_count_85 : decode prog_13_method_116_code 85 = .ok (.iaload, 1) := by decide +kernel
theorem d_Md_count_86 : decode prog_13_method_116_code 86 = .ok (.ireturn, 1) := by decide +kernel
theorem d_Md_count_87 : decode prog_13_method_116_code 87 = .ok (.aload_n 0, 1) := by decide +kernel
theorem d_Md_count_88 : decode prog_13_method_116_code 88 = .ok (.invokevirtual 210, 3) := by decide +kernel
theorem d_Md_count_91 : decode prog_13_method_116_code 91 = .ok (.ireturn, 1) := by decide +kernel
theorem d_Md_count_92 : decode prog_13_method_116_code 92 = .ok (.aload_n 0, 1) := by decide +kernel
theorem d_Md_count_93 : decode prog_13_method_116_code 93 = .ok (.getfield 9, 3) := by decide +kernel
theorem d_Md_count_96 : decode prog_13_method_116_code 96 = .ok (.iconst 2, 1) := by decide +kernel
theorem d_Md_count_97 : decode prog_13_method_116_code 97 = .ok (.iaload, 1) := by decide +kernel
theorem d_Md_count_98 : decode prog_13_method_116_code 98 = .ok (.ireturn, 1) := by decide +kernel
theorem d_Md_count_99 : decode prog_13_method_116_code 99 = .ok (.aload_n 0, 1) := by decide +kernel
theorem d_Md_count_100 : decode prog_13_method_116_code 100 = .ok (.getfield 9, 3) := by decide +kernel
theorem d_Md_count_103 : decode prog_13_method_116_code 103 = .ok (.iconst 3, 1) := by decide +kernel
theorem d_Md_count_104 : decode prog_13_method_116_code 104 = .ok (.iaload, 1) := by decide +kernel
theorem d_Md_count_105 : decode prog_13_method_116_code 105 = .ok (.ireturn, 1) := by decide +kernel
theorem d_Md_count_106 : decode prog_13_method_116_code 106 = .ok (.aload_n 0, 1) := by decide +kernel
theorem d_Md_count_107 : decode prog_13_method_116_code 107 = .ok (.getfield 9, 3) := by decide +kernel
theorem d_Md_count_110 : decode prog_13_method_116_code 110 = .ok (.iconst 4, 1) := by decide +kernel
theorem d_Md_count_111 : decode prog_13_method_116_code 111 = .ok (.iaload, 1) := by decide +kernel
theorem d_Md_count_112 : decode prog_13_method_116_code 112 = .ok (.ireturn, 1) := by decide +kernel
theorem d_Md_count_113 : decode prog_13_method_116_code 113 = .ok (.aload_n 0, 1) := by decide +kernel
theorem d_Md_count_114 : decode prog_13_method_116_code 114 = .ok (.invokevirtual 219, 3) := by decide +kernel
theorem d_Md_count_117 : decode prog_13_method_116_code 117 = .ok (.ireturn, 1) := by decide +kernel
theorem d_Md_count_118 : decode prog_13_method_116_code 118 = .ok (.iload_n 2, 1) := by decide +kernel
theorem d_Md_count_119 : decode prog_13_method_116_code 119 = .ok (.ireturn, 1) := by decide +kernel
theorem d_Md_count_120 : decode prog_13_method_116_code 120 = .ok (.aload_n 0, 1) := by decide +kernel
theorem d_Md_count_121 : decode prog_13_method_116_code 121 = .ok (.getfield 89, 3) := by decide +kernel
theorem d_Md_count_124 : decode prog_13_method_116_code 124 = .ok (.ireturn, 1) := by decide +kernel
theorem d_Md_count_125 : decode prog_13_method_116_code 125 = .ok (.iconst (-1), 1) := by decide +kernel
theorem d_Md_count_126 : decode prog_13_method_116_code 126 = .ok (.ireturn, 1) := by decide +kernel
theorem t_Md_count_L9 {G : mG} {r : mR} {v0 v1 : Int} {K32 : mH → Int → Option mR} (hK32 : ∀ (h : mH) (w2 : Int) , K32 h w2 = some r → mJ G M_Md_count 32 [(2, v0), (0, v1), (0, w2), (9, 0)] [] h r) : ∀ (n : Nat) (h : mH) (v2 v3 : Int), f_Md_count_L9 K32 v0 n h v2 v3 = some r → mJ G M_Md_count 9 [(2, v0), (0, v1), (0, v2), (0, v3)] [] h r := by
  intro n
  induction n with
  | zero =>
    intro h v2 v3 hr
    rw [f_Md_count_L9] at hr
    cases hr
  | succ n hR9 =>
    intro h v2 v3 hr
    rw [f_Md_count_L9] at hr
    refine j_iload_n (pc := 9) d_Md_count_9 rfl ?_
    refine j_aload_n (pc := 10) d_Md_count_10 rfl ?_
    obtain ⟨ha, hr⟩ := chk_some hr
    refine j_callG (pc := 11) (stk := [(2, v0), (0, v3)]) (as := [(2, v0)]) (P := (fun v9 => ((0 : Nat), v9) :: [(0, v3)])) (tg := 0) (My := M_Md_bars) (mRunV (as := []) (st := [(0, v3)]) d_Md_count_11 (mc_Md_bars (by decide)) rfl (mv_Md_bars tb_ml_Md_210) rfl (Nat.le_of_ble_eq_true rfl) ha) (fun v => rfl) rfl hr (fun r1 h1 => t_Md_bars _ _ _ h1) (fun x2 h1 hr => ?_)
    refine j_icmp_ge (pc := 14) (tgt := 32) d_Md_count_14 hr (fun hr => ?_) (fun hr => ?_)
    · exact mJ_weak (ls' := [(2, v0), (0, v1), (0, v2), (9, 0)]) (mwk_s (mwk_s (mwk_s (mwk_d mwk_n)))) (hK32 h1 _ hr)
    · refine j_iload_n (pc := 17) d_Md_count_17 rfl ?_
      refine j_aload_n (pc := 18) d_Md_count_18 rfl ?_
      refine j_iload_n (pc := 19) d_Md_count_19 rfl ?_
      refine j_iconst (pc := 20) d_Md_count_20 ?_
      obtain ⟨ha, hr⟩ := chk_some hr
      refine j_callG (pc := 21) (stk := [(0, 3), (0, v3), (2, v0), (0, v2)]) (as := [(2, v0), (0, v3), (0, 3)]) (P := (fun v9 => ((0 : Nat), v9) :: [(0, v2)])) (tg := 0) (My := M_Md_of) (mRunV (as := [(0, v3), (0, 3)]) (st := [(0, v2)]) d_Md_count_21 (mc_Md_of (by decide)) rfl (mv_Md_of tb_ml_Md_213) rfl (Nat.le_of_ble_eq_true rfl) ha) (fun v => rfl) rfl hr (fun r1 h1 => t_Md_of _ _ _ _ _ h1) (fun x4 h3 hr => ?_)
      refine j_iadd (pc := 24) d_Md_count_24 ?_
      refine j_istoreW_n (pc := 25) (L := fun x5 => [(2, v0), (0, v1), (0, x5), (0, v3)]) d_Md_count_25 (fun _ => rfl) hr (fun x5 hr => ?_)
      refine j_iincW (pc := 26) (L := fun x6 => [(2, v0), (0, v1), (0, x5), (0, x6)]) d_Md_count_26 rfl (fun _ => rfl) hr (fun x6 hr => ?_)
      refine j_goto (pc := 29) (tgt := 9) d_Md_count_29 ?_
      exact mJ_weak (ls' := [(2, v0), (0, v1), (0, x5), (0, x6)]) (mwk_s (mwk_s (mwk_s (mwk_s mwk_n)))) (hR9 h3 _ _ hr)
theorem t_Md_count_J80 {G : mG} {r : mR} {v0 : Int} {h : mH}  (hr : f_Md_count_J80 v0 h = some r) : mJ G M_Md_count 80 [(2, v0), (9, 0), (9, 0), (9, 0)] [] h r := by
  unfold f_Md_count_J80 at hr
  refine j_aload_n (pc := 80) d_Md_count_80 rfl ?_
  refine j_getf (pc := 81) d_Md_count_81 (fd_Md_9 rfl) hr (fun hr => ?_)
  refine j_iconst (pc := 84) d_Md_count_84 ?_
  refine j_iaload (pc := 85) d_Md_count_85 hr (fun hr => ?_)
  exact j_iret (pc := 86) d_Md_count_86 rfl hr
theorem t_Md_count_J87 {G : mG} {r : mR} {v0 : Int} {h : mH}  (hr : f_Md_count_J87 v0 h = some r) : mJ G M_Md_count 87 [(2, v0), (9, 0), (9, 0), (9, 0)] [] h r := by
  unfold f_Md_count_J87 at hr
  refine j_aload_n (pc := 87) d_Md_count_87 rfl ?_
  obtain ⟨ha, hr⟩ := chk_some hr
  refine j_callG (pc := 88) (stk := [(2, v0)]) (as := [(2, v0)]) (P := (fun v9 => ((0 : Nat), v9) :: [])) (tg := 0) (My := M_Md_bars) (mRunV (as := []) (st := []) d_Md_count_88 (mc_Md_bars (by decide)) rfl (mv_Md_bars tb_ml_Md_210) rfl (Nat.le_of_ble_eq_true rfl) ha) (fun v => rfl) rfl hr (fun r1 h1 => t_Md_bars _ _ _ h1) (fun x2 h1 hr => ?_)
  exact j_iret (pc := 91) d_Md_count_91 rfl hr
theorem t_Md_count_J92 {G : mG} {r : mR} {v0 : Int} {h : mH}  (hr : f_Md_count_J92 v0 h = some r) : mJ G M_Md_count 92 [(2, v0), (9, 0), (9, 0), (9, 0)] [] h r := by
  unfold f_Md_count_J92 at hr
  refine j_aload_n (pc := 92) d_Md_count_92 rfl ?_
  refine j_getf (pc := 93) d_Md_count_93 (fd_Md_9 rfl) hr (fun hr => ?_)
  refine j_iconst (pc := 96) d_Md_count_96 ?_
  refine j_iaload (pc := 97) d_Md_count_97 hr (fun hr => ?_)
  exact j_iret (pc := 98) d_Md_count_98 rfl hr
theorem t_Md_count_J99 {G : mG} {r : mR} {v0 : Int} {h : mH}  (hr : f_Md_count_J99 v0 h = some r) : mJ G M_Md_count 99 [(2, v0), (9, 0), (9, 0), (9, 0)] [] h r := by
  unfold f_Md_count_J99 at hr
  refine j_aload_n (pc := 99) d_Md_count_99 rfl ?_
  refine j_getf (pc := 100) d_Md_count_100 (fd_Md_9 rfl) hr (fun hr => ?_)
  refine j_iconst (pc := 103) d_Md_count_103 ?_
  refine j_iaload (pc := 104) d_Md_count_104 hr (fun hr => ?_)
  exact j_iret (pc := 105) d_Md_count_105 rfl hr
theorem t_Md_count_J106 {G : mG} {r : mR} {v0 : Int} {h : mH}  (hr : f_Md_count_J106 v0 h = some r) : mJ G M_Md_count 106 [(2, v0), (9, 0), (9, 0), (9, 0)] [] h r := by
  unfold f_Md_count_J106 at hr
  refine j_aload_n (pc := 106) d_Md_count_106 rfl ?_
  refine j_getf (pc := 107) d_Md_count_107 (fd_Md_9 rfl) hr (fun hr => ?_)
  refine j_iconst (pc := 110) d_Md_count_110 ?_
  refine j_iaload (pc := 111) d_Md_count_111 hr (fun hr => ?_)
  exact j_iret (pc := 112) d_Md_count_112 rfl hr
theorem t_Md_count_J113 {G : mG} {r : mR} {v0 : Int} {h : mH}  (hr : f_Md_count_J113 v0 h = some r) : mJ G M_Md_count 113 [(2, v0), (9, 0), (9, 0), (9, 0)] [] h r := by
  unfold f_Md_count_J113 at hr
  refine j_aload_n (pc := 113) d_Md_count_113 rfl ?_
  obtain ⟨ha, hr⟩ := chk_some hr
  refine j_callG (pc := 114) (stk := [(2, v0)]) (as := [(2, v0)]) (P := (fun v9 => ((0 : Nat), v9) :: [])) (tg := 0) (My := M_Md_stands) (mRunV (as := []) (st := []) d_Md_count_114 (mc_Md_stands (by decide)) rfl (mv_Md_stands tb_ml_Md_219) rfl (Nat.le_of_ble_eq_true rfl) ha) (fun v => rfl) rfl hr (fun r1 h1 => t_Md_stands _ _ _ h1) (fun x2 h1 hr => ?_)
  exact j_iret (pc := 117) d_Md_count_117 rfl hr
theorem t_Md_count_J120 {G : mG} {r : mR} {v0 : Int} {h : mH}  (hr : f_Md_count_J120 v0 h = some r) : mJ G M_Md_count 120 [(2, v0), (9, 0), (9, 0), (9, 0)] [] h r := by
  unfold f_Md_count_J120 at hr
  refine j_aload_n (pc := 120) d_Md_count_120 rfl ?_
  refine j_getf (pc := 121) d_Md_count_121 (fd_Md_89 rfl) hr (fun hr => ?_)
  exact j_iret (pc := 124) d_Md_count_124 rfl hr
theorem t_Md_count {G : mG} (h : mH) (v0 v1 : Int) (r : mR) (hr : f_Md_count h v0 v1 = some r) : mJM G M_Md_count [(2, v0), (0, v1)] h r := by
  refine mJM_of (L := [(2, v0), (0, v1), (9, 0), (9, 0)]) rfl rfl rfl (Nat.le_of_ble_eq_true rfl) ?_
  unfold f_Md_count at hr
  refine j_aload_n (pc := 0) d_Md_count_0 rfl ?_
  refine j_iconst (pc := 1) d_Md_count_1 ?_
  refine j_puti (pc := 2) d_Md_count_2 (fd_Md_86 rfl) (⟨_, _, _, rfl, Or.inl rfl, rfl⟩ : mFldW M_Md_count 86 11 5 .int) hr (fun h1 hr => ?_)
  refine j_iconst (pc := 5) d_Md_count_5 ?_
  refine j_istore_n (pc := 6) (ls' := [(2, v0), (0, v1), (0, 0), (9, 0)]) d_Md_count_6 rfl ?_
  refine j_iconst (pc := 7) d_Md_count_7 ?_
  refine j_istore_n (pc := 8) (ls' := [(2, v0), (0, v1), (0, 0), (0, 0)]) d_Md_count_8 rfl ?_
  refine mJ_weak (ls' := [(2, v0), (0, v1), (0, 0), (0, 0)]) (mwk_s (mwk_s (mwk_s (mwk_s mwk_n)))) (t_Md_count_L9 (fun h2 x3 hr => ?_) _ _ _ _ hr)
  · refine j_iload_n (pc := 32) d_Md_count_32 rfl ?_
    refine j_tabK (pc := 33) (c := 0) (tgt := 80) d_Md_count_33 (by decide) (by decide) rfl (by decide) hr (fun hr => ?_) (fun q0 hr => ?_)
    · exact mJ_weak (ls' := [(2, v0), (9, 0), (9, 0), (9, 0)]) (mwk_s (mwk_d (mwk_d (mwk_s mwk_n)))) (t_Md_count_J80  hr)
    refine j_tabK (pc := 33) (c := 1) (tgt := 87) d_Md_count_33 (by decide) (by decide) rfl (by decide) hr (fun hr => ?_) (fun q1 hr => ?_)
    · exact mJ_weak (ls' := [(2, v0), (9, 0), (9, 0), (9, 0)]) (mwk_s (mwk_d (mwk_d (mwk_s mwk_n)))) (t_Md_count_J87  hr)
    refine j_tabK (pc := 33) (c := 2) (tgt := 92) d_Md_count_33 (by decide) (by decide) rfl (by decide) hr (fun hr => ?_) (fun q2 hr => ?_)
    · exact mJ_weak (ls' := [(2, v0), (9, 0), (9, 0), (9, 0)]) (mwk_s (mwk_d (mwk_d (mwk_s mwk_n)))) (t_Md_count_J92  hr)
    refine j_tabK (pc := 33) (c := 3) (tgt := 99) d_Md_count_33 (by decide) (by decide) rfl (by decide) hr (fun hr => ?_) (fun q3 hr => ?_)
    · exact mJ_weak (ls' := [(2, v0), (9, 0), (9, 0), (9, 0)]) (mwk_s (mwk_d (mwk_d (mwk_s mwk_n)))) (t_Md_count_J99  hr)
    refine j_tabK (pc := 33) (c := 4) (tgt := 106) d_Md_count_33 (by decide) (by decide) rfl (by decide) hr (fun hr => ?_) (fun q4 hr => ?_)
    · exact mJ_weak (ls' := [(2, v0), (9, 0), (9, 0), (9, 0)]) (mwk_s (mwk_d (mwk_d (mwk_s mwk_n)))) (t_Md_count_J106  hr)
    refine j_tabK (pc := 33) (c := 5) (tgt := 113) d_Md_count_33 (by decide) (by decide) rfl (by decide) hr (fun hr => ?_) (fun q5 hr => ?_)
    · exact mJ_weak (ls' := [(2, v0), (9, 0), (9, 0), (9, 0)]) (mwk_s (mwk_d (mwk_d (mwk_s mwk_n)))) (t_Md_count_J113  hr)
    refine j_tabK (pc := 33) (c := 6) (tgt := 118) d_Md_count_33 (by decide) (by decide) rfl (by decide) hr (fun hr => ?_) (fun q6 hr => ?_)
    · refine j_iload_n (pc := 118) d_Md_count_118 rfl ?_
      exact j_iret (pc := 119) d_Md_count_119 rfl hr
    refine j_tabK (pc := 33) (c := 7) (tgt := 120) d_Md_count_33 (by decide) (by decide) rfl (by decide) hr (fun hr => ?_) (fun q7 hr => ?_)
    · exact mJ_weak (ls' := [(2, v0), (9, 0), (9, 0), (9, 0)]) (mwk_s (mwk_d (mwk_d (mwk_s mwk_n)))) (t_Md_count_J120  hr)
    refine j_tabOut (pc := 33) (tgt := 125) d_Md_count_33 (by omega) (by decide) ?_
    refine j_iconst (pc := 125) d_Md_count_125 ?_
    exact j_iret (pc := 126) d_Md_count_126 rfl hr
def M_Law_box : mM := ("NineBarsLaw", ⟨"NineBarsLaw", "box", "(LNineBars;I[J)I"⟩, method_3_code, 4, some .int, [(0, 9, 12, 13)], 17)
theorem tb_co_Law_box : mTB (Cond.codeWith ⟨"NineBarsLaw", "box", "(LNineBars;I[J)I"⟩ method_3_code 4 (some .int) [(0, 9, 12, 13)]) := tbq3 143 (by decide +kernel) rfl
theorem tb_in_NineBarsLaw : mTB (Cond.initialized "NineBarsLaw") := tbq1 0 (by decide +kernel) rfl
theorem mc_Law_box {M : mM} (hd : 17 < mDp M) : mCal M M_Law_box 3 := ⟨tb_co_Law_box, tb_in_NineBarsLaw, ⟨by decide +kernel, by decide +kernel⟩, by decide +kernel, hd, by decide⟩
theorem d_Law_box_0 : decode method_3_code 0 = .ok (.aload_n 2, 1) := by decide +kernel
theorem d_Law_box_1 : decode method_3_code 1 = .ok (.iconst 0, 1) := by decide +kernel
theorem d_Law_box_2 : decode method_3_code 2 = .ok (.aload_n 0, 1) := by decide +kernel
theorem d_Law_box_3 : decode method_3_code 3 = .ok (.iload_n 1, 1) := by decide +kernel
theorem d_Law_box_4 : decode method_3_code 4 = .ok (.invokevirtual 7, 3) := by decide +kernel
theorem tb_ml_Law_7 : mTB (Cond.methodLink "NineBarsLaw" 7 ⟨"NineBars", "box", "(I)I"⟩) := tbq3 145 (by decide +kernel) rfl
theorem tb_cl_Law_13 : mTB (Cond.classLink "NineBarsLaw" 13 "java/lang/IllegalArgumentException") := tbq3 144 (by decide +kernel) rfl
theorem d_Law_box_12 : decode method_3_code 12 = .ok (.astore_n 3, 1) := by decide +kernel
theorem d_Law_box_13 : decode method_3_code 13 = .ok (.iconst 1, 1) := by decide +kernel
theorem d_Law_box_14 : decode method_3_code 14 = .ok (.ireturn, 1) := by decide +kernel
theorem tb_im_Nb_box : mTB (Cond.instanceMethod ⟨"NineBars", "box", "(I)I"⟩) := tbq3 146 (by decide +kernel) rfl
theorem tb_se_Nb_box : mTB (Cond.selects "NineBars" ⟨"NineBars", "box", "(I)I"⟩ ⟨"NineBars", "box", "(I)I"⟩) := tbq3 147 (by decide +kernel) rfl
theorem mv_Nb_box {M : mM} {idx : Nat} (h : mTB (Cond.methodLink (mO M) idx ⟨"NineBars", "box", "(I)I"⟩)) : mCaV M M_Nb_box idx 10 := ⟨h, tb_im_Nb_box, tb_se_Nb_box, by decide, TX10, 19, rfl⟩
theorem d_Law_box_7 : decode method_3_code 7 = .ok (.i2l, 1) := by decide +kernel
theorem d_Law_box_8 : decode method_3_code 8 = .ok (.lastore, 1) := by decide +kernel
theorem d_Law_box_9 : decode method_3_code 9 = .ok (.goto 6, 3) := by decide +kernel
theorem d_Law_box_15 : decode method_3_code 15 = .ok (.iconst 0, 1) := by decide +kernel
theorem d_Law_box_16 : decode method_3_code 16 = .ok (.ireturn, 1) := by decide +kernel
theorem t_Law_box {G : mG} (h : mH) (v0 v1 v2 : Int) (r : mR) (hr : f_Law_box h v0 v1 v2 = some r) : mJM G M_Law_box [(2, v0), (0, v1), (2, v2)] h r := by
  refine mJM_of (L := [(2, v0), (0, v1), (2, v2), (9, 0)]) rfl rfl rfl (Nat.le_of_ble_eq_true rfl) ?_
  unfold f_Law_box at hr
  refine j_aload_n (pc := 0) d_Law_box_0 rfl ?_
  refine j_iconst (pc := 1) d_Law_box_1 ?_
  refine j_aload_n (pc := 2) d_Law_box_2 rfl ?_
  refine j_iload_n (pc := 3) d_Law_box_3 rfl ?_
  obtain ⟨ha, hr⟩ := chk_some hr
  refine j_callC (pc := 4) (stk := [(0, v1), (2, v0), (0, 0), (2, v2)]) (as := [(2, v0), (0, v1)]) (P := (fun v9 => ((0 : Nat), v9) :: [(0, 0), (2, v2)])) (tg := 0) (ns := [("java/lang/IllegalArgumentException", 12)]) (mRunV (as := [(0, v1)]) (st := [(0, 0), (2, v2)]) d_Law_box_4 (mc_Nb_box (by decide)) rfl (mv_Nb_box tb_ml_Law_7) rfl (Nat.le_of_ble_eq_true rfl) ha) (fun v => rfl) ⟨⟨by decide, by decide, rfl, by decide⟩, by decide +kernel, tb_cl_Law_13, trivial⟩ hr (fun r1 h1 => t_Nb_box _ _ _ _ h1) (fun e h1 hr => ?_) (fun x2 h1 hr => ?_)
  · by_cases he : e = exNo "java/lang/IllegalArgumentException"
    · rw [if_pos he] at hr
      exact ⟨"java/lang/IllegalArgumentException", 12, 3, 1, he.symm, by decide +kernel, by decide +kernel, Or.inl ⟨3, rfl, d_Law_box_12, rfl⟩, (Nat.le_of_ble_eq_true rfl), j_iconst (pc := 13) d_Law_box_13 (j_iret (pc := 14) d_Law_box_14 rfl hr)⟩
    · rw [if_neg he] at hr
      cases hr
  refine j_i2l (pc := 7) d_Law_box_7 ?_
  refine j_lastore (pc := 8) d_Law_box_8 hr (fun h3 hr => ?_)
  refine j_goto (pc := 9) (tgt := 15) d_Law_box_9 ?_
  refine j_iconst (pc := 15) d_Law_box_15 ?_
  exact j_iret (pc := 16) d_Law_box_16 rfl hr
def M_Law_bar : mM := ("NineBarsLaw", ⟨"NineBarsLaw", "bar", "(LNineBars;II[J)I"⟩, method_4_code, 5, some .int, [(0, 10, 13, 19), (0, 10, 17, 13)], 5)
theorem tb_co_Law_bar : mTB (Cond.codeWith ⟨"NineBarsLaw", "bar", "(LNineBars;II[J)I"⟩ method_4_code 5 (some .int) [(0, 10, 13, 19), (0, 10, 17, 13)]) := tbq4 105 (by decide +kernel) rfl
theorem mc_Law_bar {M : mM} (hd : 5 < mDp M) : mCal M M_Law_bar 4 := ⟨tb_co_Law_bar, tb_in_NineBarsLaw, ⟨by decide +kernel, by decide +kernel⟩, by decide +kernel, hd, by decide⟩
theorem d_Law_bar_0 : decode method_4_code 0 = .ok (.aload_n 3, 1) := by decide +kernel
theorem d_Law_bar_1 : decode method_4_code 1 = .ok (.iconst 0, 1) := by decide +kernel
theorem d_Law_bar_2 : decode method_4_code 2 = .ok (.aload_n 0, 1) := by decide +kernel
theorem d_Law_bar_3 : decode method_4_code 3 = .ok (.iload_n 1, 1) := by decide +kernel
theorem d_Law_bar_4 : decode method_4_code 4 = .ok (.iload_n 2, 1) := by decide +kernel
theorem d_Law_bar_5 : decode method_4_code 5 = .ok (.invokevirtual 15, 3) := by decide +kernel
theorem tb_ml_Law_15 : mTB (Cond.methodLink "NineBarsLaw" 15 ⟨"NineBars", "bar", "(II)I"⟩) := tbq4 107 (by decide +kernel) rfl
theorem tb_cl_Law_19 : mTB (Cond.classLink "NineBarsLaw" 19 "java/util/NoSuchElementException") := tbq4 106 (by decide +kernel) rfl
theorem d_Law_bar_13 : decode method_4_code 13 = .ok (.astore 4, 2) := by decide +kernel
theorem d_Law_bar_15 : decode method_4_code 15 = .ok (.iconst 1, 1) := by decide +kernel
theorem d_Law_bar_16 : decode method_4_code 16 = .ok (.ireturn, 1) := by decide +kernel
theorem d_Law_bar_17 : decode method_4_code 17 = .ok (.astore 4, 2) := by decide +kernel
theorem d_Law_bar_19 : decode method_4_code 19 = .ok (.iconst 2, 1) := by decide +kernel
theorem d_Law_bar_20 : decode method_4_code 20 = .ok (.ireturn, 1) := by decide +kernel
theorem tb_im_Nb_bar : mTB (Cond.instanceMethod ⟨"NineBars", "bar", "(II)I"⟩) := tbq4 108 (by decide +kernel) rfl
theorem tb_se_Nb_bar : mTB (Cond.selects "NineBars" ⟨"NineBars", "bar", "(II)I"⟩ ⟨"NineBars", "bar", "(II)I"⟩) := tbq4 109 (by decide +kernel) rfl
theorem mv_Nb_bar {M : mM} {idx : Nat} (h : mTB (Cond.methodLink (mO M) idx ⟨"NineBars", "bar", "(II)I"⟩)) : mCaV M M_Nb_bar idx 10 := ⟨h, tb_im_Nb_bar, tb_se_Nb_bar, by decide, TX10, 19, rfl⟩
theorem d_Law_bar_8 : decode method_4_code 8 = .ok (.i2l, 1) := by decide +kernel
theorem d_Law_bar_9 : decode method_4_code 9 = .ok (.lastore, 1) := by decide +kernel
theorem d_Law_bar_10 : decode method_4_code 10 = .ok (.goto 11, 3) := by decide +kernel
theorem d_Law_bar_21 : decode method_4_code 21 = .ok (.iconst 0, 1) := by decide +kernel
theorem d_Law_bar_22 : decode method_4_code 22 = .ok (.ireturn, 1) := by decide +kernel
theorem t_Law_bar {G : mG} (h : mH) (v0 v1 v2 v3 : Int) (r : mR) (hr : f_Law_bar h v0 v1 v2 v3 = some r) : mJM G M_Law_bar [(2, v0), (0, v1), (0, v2), (2, v3)] h r := by
  refine mJM_of (L := [(2, v0), (0, v1), (0, v2), (2, v3), (9, 0)]) rfl rfl rfl (Nat.le_of_ble_eq_true rfl) ?_
  unfold f_Law_bar at hr
  refine j_aload_n (pc := 0) d_Law_bar_0 rfl ?_
  refine j_iconst (pc := 1) d_Law_bar_1 ?_
  refine j_aload_n (pc := 2) d_Law_bar_2 rfl ?_
  refine j_iload_n (pc := 3) d_Law_bar_3 rfl ?_
  refine j_iload_n (pc := 4) d_Law_bar_4 rfl ?_
  obtain ⟨ha, hr⟩ := chk_some hr
  refine j_callC (pc := 5) (stk := [(0, v2), (0, v1), (2, v0), (0, 0), (2, v3)]) (as := [(2, v0), (0, v1), (0, v2)]) (P := (fun v9 => ((0 : Nat), v9) :: [(0, 0), (2, v3)])) (tg := 0) (ns := [("java/util/NoSuchElementException", 13), ("java/lang/IllegalArgumentException", 17)]) (mRunV (as := [(0, v1), (0, v2)]) (st := [(0, 0), (2, v3)]) d_Law_bar_5 (mc_Nb_bar (by decide)) rfl (mv_Nb_bar tb_ml_Law_15) rfl (Nat.le_of_ble_eq_true rfl) ha) (fun v => rfl) ⟨⟨by decide, by decide, rfl, by decide⟩, by decide +kernel, tb_cl_Law_19, ⟨⟨by decide, by decide, rfl, by decide⟩, by decide +kernel, tb_cl_Law_13, trivial⟩⟩ hr (fun r1 h1 => t_Nb_bar _ _ _ _ _ h1) (fun e h1 hr => ?_) (fun x2 h1 hr => ?_)
  · by_cases he : e = exNo "java/util/NoSuchElementException"
    · rw [if_pos he] at hr
      exact ⟨"java/util/NoSuchElementException", 13, 4, 2, he.symm, by decide +kernel, by decide +kernel, Or.inr ⟨d_Law_bar_13, rfl⟩, (Nat.le_of_ble_eq_true rfl), j_iconst (pc := 15) d_Law_bar_15 (j_iret (pc := 16) d_Law_bar_16 rfl hr)⟩
    · rw [if_neg he] at hr
      by_cases he : e = exNo "java/lang/IllegalArgumentException"
      · rw [if_pos he] at hr
        exact ⟨"java/lang/IllegalArgumentException", 17, 4, 2, he.symm, by decide +kernel, by decide +kernel, Or.inr ⟨d_Law_bar_17, rfl⟩, (Nat.le_of_ble_eq_true rfl), j_iconst (pc := 19) d_Law_bar_19 (j_iret (pc := 20) d_Law_bar_20 rfl hr)⟩
      · rw [if_neg he] at hr
        cases hr
  refine j_i2l (pc := 8) d_Law_bar_8 ?_
  refine j_lastore (pc := 9) d_Law_bar_9 hr (fun h3 hr => ?_)
  refine j_goto (pc := 10) (tgt := 21) d_Law_bar_10 ?_
  refine j_iconst (pc := 21) d_Law_bar_21 ?_
  exact j_iret (pc := 22) d_Law_bar_22 rfl hr
def M_Law_rule : mM := ("NineBarsLaw", ⟨"NineBarsLaw", "rule", "(LNineBars;II[J)I"⟩, method_5_code, 5, some .int, [(0, 10, 13, 19), (0, 10, 17, 13)], 7)
theorem tb_co_Law_rule : mTB (Cond.codeWith ⟨"NineBarsLaw", "rule", "(LNineBars;II[J)I"⟩ method_5_code 5 (some .int) [(0, 10, 13, 19), (0, 10, 17, 13)]) := tbq4 139 (by decide +kernel) rfl
theorem mc_Law_rule {M : mM} (hd : 7 < mDp M) : mCal M M_Law_rule 4 := ⟨tb_co_Law_rule, tb_in_NineBarsLaw, ⟨by decide +kernel, by decide +kernel⟩, by decide +kernel, hd, by decide⟩
theorem d_Law_rule_0 : decode method_5_code 0 = .ok (.aload_n 3, 1) := by decide +kernel
theorem d_Law_rule_1 : decode method_5_code 1 = .ok (.iconst 0, 1) := by decide +kernel
theorem d_Law_rule_2 : decode method_5_code 2 = .ok (.aload_n 0, 1) := by decide +kernel
theorem d_Law_rule_3 : decode method_5_code 3 = .ok (.iload_n 1, 1) := by decide +kernel
theorem d_Law_rule_4 : decode method_5_code 4 = .ok (.iload_n 2, 1) := by decide +kernel
theorem d_Law_rule_5 : decode method_5_code 5 = .ok (.invokevirtual 21, 3) := by decide +kernel
theorem tb_ml_Law_21 : mTB (Cond.methodLink "NineBarsLaw" 21 ⟨"NineBars", "rule", "(II)I"⟩) := tbq4 140 (by decide +kernel) rfl
theorem d_Law_rule_13 : decode method_5_code 13 = .ok (.astore 4, 2) := by decide +kernel
theorem d_Law_rule_15 : decode method_5_code 15 = .ok (.iconst 1, 1) := by decide +kernel
theorem d_Law_rule_16 : decode method_5_code 16 = .ok (.ireturn, 1) := by decide +kernel
theorem d_Law_rule_17 : decode method_5_code 17 = .ok (.astore 4, 2) := by decide +kernel
theorem d_Law_rule_19 : decode method_5_code 19 = .ok (.iconst 2, 1) := by decide +kernel
theorem d_Law_rule_20 : decode method_5_code 20 = .ok (.ireturn, 1) := by decide +kernel
theorem tb_im_Nb_rule : mTB (Cond.instanceMethod ⟨"NineBars", "rule", "(II)I"⟩) := tbq4 141 (by decide +kernel) rfl
theorem tb_se_Nb_rule : mTB (Cond.selects "NineBars" ⟨"NineBars", "rule", "(II)I"⟩ ⟨"NineBars", "rule", "(II)I"⟩) := tbq4 142 (by decide +kernel) rfl
theorem mv_Nb_rule {M : mM} {idx : Nat} (h : mTB (Cond.methodLink (mO M) idx ⟨"NineBars", "rule", "(II)I"⟩)) : mCaV M M_Nb_rule idx 10 := ⟨h, tb_im_Nb_rule, tb_se_Nb_rule, by decide, TX10, 19, rfl⟩
theorem d_Law_rule_8 : decode method_5_code 8 = .ok (.i2l, 1) := by decide +kernel
theorem d_Law_rule_9 : decode method_5_code 9 = .ok (.lastore, 1) := by decide +kernel
theorem d_Law_rule_10 : decode method_5_code 10 = .ok (.goto 11, 3) := by decide +kernel
theorem d_Law_rule_21 : decode method_5_code 21 = .ok (.iconst 0, 1) := by decide +kernel
theorem d_Law_rule_22 : decode method_5_code 22 = .ok (.ireturn, 1) := by decide +kernel
theorem t_Law_rule {G : mG} (h : mH) (v0 v1 v2 v3 : Int) (r : mR) (hr : f_Law_rule h v0 v1 v2 v3 = some r) : mJM G M_Law_rule [(2, v0), (0, v1), (0, v2), (2, v3)] h r := by
  refine mJM_of (L := [(2, v0), (0, v1), (0, v2), (2, v3), (9, 0)]) rfl rfl rfl (Nat.le_of_ble_eq_true rfl) ?_
  unfold f_Law_rule at hr
  refine j_aload_n (pc := 0) d_Law_rule_0 rfl ?_
  refine j_iconst (pc := 1) d_Law_rule_1 ?_
  refine j_aload_n (pc := 2) d_Law_rule_2 rfl ?_
  refine j_iload_n (pc := 3) d_Law_rule_3 rfl ?_
  refine j_iload_n (pc := 4) d_Law_rule_4 rfl ?_
  obtain ⟨ha, hr⟩ := chk_some hr
  refine j_callC (pc := 5) (stk := [(0, v2), (0, v1), (2, v0), (0, 0), (2, v3)]) (as := [(2, v0), (0, v1), (0, v2)]) (P := (fun v9 => ((0 : Nat), v9) :: [(0, 0), (2, v3)])) (tg := 0) (ns := [("java/util/NoSuchElementException", 13), ("java/lang/IllegalArgumentException", 17)]) (mRunV (as := [(0, v1), (0, v2)]) (st := [(0, 0), (2, v3)]) d_Law_rule_5 (mc_Nb_rule (by decide)) rfl (mv_Nb_rule tb_ml_Law_21) rfl (Nat.le_of_ble_eq_true rfl) ha) (fun v => rfl) ⟨⟨by decide, by decide, rfl, by decide⟩, by decide +kernel, tb_cl_Law_19, ⟨⟨by decide, by decide, rfl, by decide⟩, by decide +kernel, tb_cl_Law_13, trivial⟩⟩ hr (fun r1 h1 => t_Nb_rule _ _ _ _ _ h1) (fun e h1 hr => ?_) (fun x2 h1 hr => ?_)
  · by_cases he : e = exNo "java/util/NoSuchElementException"
    · rw [if_pos he] at hr
      exact ⟨"java/util/NoSuchElementException", 13, 4, 2, he.symm, by decide +kernel, by decide +kernel, Or.inr ⟨d_Law_rule_13, rfl⟩, (Nat.le_of_ble_eq_true rfl), j_iconst (pc := 15) d_Law_rule_15 (j_iret (pc := 16) d_Law_rule_16 rfl hr)⟩
    · rw [if_neg he] at hr
      by_cases he : e = exNo "java/lang/IllegalArgumentException"
      · rw [if_pos he] at hr
        exact ⟨"java/lang/IllegalArgumentException", 17, 4, 2, he.symm, by decide +kernel, by decide +kernel, Or.inr ⟨d_Law_rule_17, rfl⟩, (Nat.le_of_ble_eq_true rfl), j_iconst (pc := 19) d_Law_rule_19 (j_iret (pc := 20) d_Law_rule_20 rfl hr)⟩
      · rw [if_neg he] at hr
        cases hr
  refine j_i2l (pc := 8) d_Law_rule_8 ?_
  refine j_lastore (pc := 9) d_Law_rule_9 hr (fun h3 hr => ?_)
  refine j_goto (pc := 10) (tgt := 21) d_Law_rule_10 ?_
  refine j_iconst (pc := 21) d_Law_rule_21 ?_
  exact j_iret (pc := 22) d_Law_rule_22 rfl hr
def M_Law_placeIn : mM := ("NineBarsLaw", ⟨"NineBarsLaw", "placeIn", "(LNineBars;II[J)I"⟩, method_6_code, 5, some .int, [(0, 10, 13, 19), (0, 10, 17, 27)], 9)
theorem tb_co_Law_placeIn : mTB (Cond.codeWith ⟨"NineBarsLaw", "placeIn", "(LNineBars;II[J)I"⟩ method_6_code 5 (some .int) [(0, 10, 13, 19), (0, 10, 17, 27)]) := tbq4 149 (by decide +kernel) rfl
theorem mc_Law_placeIn {M : mM} (hd : 9 < mDp M) : mCal M M_Law_placeIn 4 := ⟨tb_co_Law_placeIn, tb_in_NineBarsLaw, ⟨by decide +kernel, by decide +kernel⟩, by decide +kernel, hd, by decide⟩
theorem d_Law_placeIn_0 : decode method_6_code 0 = .ok (.aload_n 3, 1) := by decide +kernel
theorem d_Law_placeIn_1 : decode method_6_code 1 = .ok (.iconst 0, 1) := by decide +kernel
theorem d_Law_placeIn_2 : decode method_6_code 2 = .ok (.aload_n 0, 1) := by decide +kernel
theorem d_Law_placeIn_3 : decode method_6_code 3 = .ok (.iload_n 1, 1) := by decide +kernel
theorem d_Law_placeIn_4 : decode method_6_code 4 = .ok (.iload_n 2, 1) := by decide +kernel
theorem d_Law_placeIn_5 : decode method_6_code 5 = .ok (.invokevirtual 24, 3) := by decide +kernel
theorem tb_ml_Law_24 : mTB (Cond.methodLink "NineBarsLaw" 24 ⟨"NineBars", "placeIn", "(II)I"⟩) := tbq4 151 (by decide +kernel) rfl
theorem tb_cl_Law_27 : mTB (Cond.classLink "NineBarsLaw" 27 "java/lang/IllegalStateException") := tbq4 150 (by decide +kernel) rfl
theorem d_Law_placeIn_13 : decode method_6_code 13 = .ok (.astore 4, 2) := by decide +kernel
theorem d_Law_placeIn_15 : decode method_6_code 15 = .ok (.iconst 1, 1) := by decide +kernel
theorem d_Law_placeIn_16 : decode method_6_code 16 = .ok (.ireturn, 1) := by decide +kernel
theorem d_Law_placeIn_17 : decode method_6_code 17 = .ok (.astore 4, 2) := by decide +kernel
theorem d_Law_placeIn_19 : decode method_6_code 19 = .ok (.iconst 2, 1) := by decide +kernel
theorem d_Law_placeIn_20 : decode method_6_code 20 = .ok (.ireturn, 1) := by decide +kernel
theorem tb_im_Nb_placeIn : mTB (Cond.instanceMethod ⟨"NineBars", "placeIn", "(II)I"⟩) := tbq4 152 (by decide +kernel) rfl
theorem tb_se_Nb_placeIn : mTB (Cond.selects "NineBars" ⟨"NineBars", "placeIn", "(II)I"⟩ ⟨"NineBars", "placeIn", "(II)I"⟩) := tbq4 153 (by decide +kernel) rfl
theorem mv_Nb_placeIn {M : mM} {idx : Nat} (h : mTB (Cond.methodLink (mO M) idx ⟨"NineBars", "placeIn", "(II)I"⟩)) : mCaV M M_Nb_placeIn idx 10 := ⟨h, tb_im_Nb_placeIn, tb_se_Nb_placeIn, by decide, TX10, 19, rfl⟩
theorem d_Law_placeIn_8 : decode method_6_code 8 = .ok (.i2l, 1) := by decide +kernel
theorem d_Law_placeIn_9 : decode method_6_code 9 = .ok (.lastore, 1) := by decide +kernel
theorem d_Law_placeIn_10 : decode method_6_code 10 = .ok (.goto 11, 3) := by decide +kernel
theorem d_Law_placeIn_21 : decode method_6_code 21 = .ok (.iconst 0, 1) := by decide +kernel
theorem d_Law_placeIn_22 : decode method_6_code 22 = .ok (.ireturn, 1) := by decide +kernel
theorem t_Law_placeIn {G : mG} (h : mH) (v0 v1 v2 v3 : Int) (r : mR) (hr : f_Law_placeIn h v0 v1 v2 v3 = some r) : mJM G M_Law_placeIn [(2, v0), (0, v1), (0, v2), (2, v3)] h r := by
  refine mJM_of (L := [(2, v0), (0, v1), (0, v2), (2, v3), (9, 0)]) rfl rfl rfl (Nat.le_of_ble_eq_true rfl) ?_
  unfold f_Law_placeIn at hr
  refine j_aload_n (pc := 0) d_Law_placeIn_0 rfl ?_
  refine j_iconst (pc := 1) d_Law_placeIn_1 ?_
  refine j_aload_n (pc := 2) d_Law_placeIn_2 rfl ?_
  refine j_iload_n (pc := 3) d_Law_placeIn_3 rfl ?_
  refine j_iload_n (pc := 4) d_Law_placeIn_4 rfl ?_
  obtain ⟨ha, hr⟩ := chk_some hr
  refine j_callC (pc := 5) (stk := [(0, v2), (0, v1), (2, v0), (0, 0), (2, v3)]) (as := [(2, v0), (0, v1), (0, v2)]) (P := (fun v9 => ((0 : Nat), v9) :: [(0, 0), (2, v3)])) (tg := 0) (ns := [("java/util/NoSuchElementException", 13), ("java/lang/IllegalStateException", 17)]) (mRunV (as := [(0, v1), (0, v2)]) (st := [(0, 0), (2, v3)]) d_Law_placeIn_5 (mc_Nb_placeIn (by decide)) rfl (mv_Nb_placeIn tb_ml_Law_24) rfl (Nat.le_of_ble_eq_true rfl) ha) (fun v => rfl) ⟨⟨by decide, by decide, rfl, by decide⟩, by decide +kernel, tb_cl_Law_19, ⟨⟨by decide, by decide, rfl, by decide⟩, by decide +kernel, tb_cl_Law_27, trivial⟩⟩ hr (fun r1 h1 => t_Nb_placeIn _ _ _ _ _ h1) (fun e h1 hr => ?_) (fun x2 h1 hr => ?_)
  · by_cases he : e = exNo "java/util/NoSuchElementException"
    · rw [if_pos he] at hr
      exact ⟨"java/util/NoSuchElementException", 13, 4, 2, he.symm, by decide +kernel, by decide +kernel, Or.inr ⟨d_Law_placeIn_13, rfl⟩, (Nat.le_of_ble_eq_true rfl), j_iconst (pc := 15) d_Law_placeIn_15 (j_iret (pc := 16) d_Law_placeIn_16 rfl hr)⟩
    · rw [if_neg he] at hr
      by_cases he : e = exNo "java/lang/IllegalStateException"
      · rw [if_pos he] at hr
        exact ⟨"java/lang/IllegalStateException", 17, 4, 2, he.symm, by decide +kernel, by decide +kernel, Or.inr ⟨d_Law_placeIn_17, rfl⟩, (Nat.le_of_ble_eq_true rfl), j_iconst (pc := 19) d_Law_placeIn_19 (j_iret (pc := 20) d_Law_placeIn_20 rfl hr)⟩
      · rw [if_neg he] at hr
        cases hr
  refine j_i2l (pc := 8) d_Law_placeIn_8 ?_
  refine j_lastore (pc := 9) d_Law_placeIn_9 hr (fun h3 hr => ?_)
  refine j_goto (pc := 10) (tgt := 21) d_Law_placeIn_10 ?_
  refine j_iconst (pc := 21) d_Law_placeIn_21 ?_
  exact j_iret (pc := 22) d_Law_placeIn_22 rfl hr
def M_Law_judge : mM := ("NineBarsLaw", ⟨"NineBarsLaw", "judge", "(LNineBars;II[J)I"⟩, method_7_code, 5, some .int, [(0, 10, 13, 19), (0, 10, 17, 27), (0, 10, 21, 13)], 15)
theorem tb_co_Law_judge : mTB (Cond.codeWith ⟨"NineBarsLaw", "judge", "(LNineBars;II[J)I"⟩ method_7_code 5 (some .int) [(0, 10, 13, 19), (0, 10, 17, 27), (0, 10, 21, 13)]) := tbq4 186 (by decide +kernel) rfl
theorem mc_Law_judge {M : mM} (hd : 15 < mDp M) : mCal M M_Law_judge 4 := ⟨tb_co_Law_judge, tb_in_NineBarsLaw, ⟨by decide +kernel, by decide +kernel⟩, by decide +kernel, hd, by decide⟩
theorem d_Law_judge_0 : decode method_7_code 0 = .ok (.aload_n 3, 1) := by decide +kernel
theorem d_Law_judge_1 : decode method_7_code 1 = .ok (.iconst 0, 1) := by decide +kernel
theorem d_Law_judge_2 : decode method_7_code 2 = .ok (.aload_n 0, 1) := by decide +kernel
theorem d_Law_judge_3 : decode method_7_code 3 = .ok (.iload_n 1, 1) := by decide +kernel
theorem d_Law_judge_4 : decode method_7_code 4 = .ok (.iload_n 2, 1) := by decide +kernel
theorem d_Law_judge_5 : decode method_7_code 5 = .ok (.invokevirtual 29, 3) := by decide +kernel
theorem tb_ml_Law_29 : mTB (Cond.methodLink "NineBarsLaw" 29 ⟨"NineBars", "judge", "(II)I"⟩) := tbq4 187 (by decide +kernel) rfl
theorem d_Law_judge_13 : decode method_7_code 13 = .ok (.astore 4, 2) := by decide +kernel
theorem d_Law_judge_15 : decode method_7_code 15 = .ok (.iconst 1, 1) := by decide +kernel
theorem d_Law_judge_16 : decode method_7_code 16 = .ok (.ireturn, 1) := by decide +kernel
theorem d_Law_judge_17 : decode method_7_code 17 = .ok (.astore 4, 2) := by decide +kernel
theorem d_Law_judge_19 : decode method_7_code 19 = .ok (.iconst 2, 1) := by decide +kernel
theorem d_Law_judge_20 : decode method_7_code 20 = .ok (.ireturn, 1) := by decide +kernel
theorem d_Law_judge_21 : decode method_7_code 21 = .ok (.astore 4, 2) := by decide +kernel
theorem d_Law_judge_23 : decode method_7_code 23 = .ok (.iconst 3, 1) := by decide +kernel
theorem d_Law_judge_24 : decode method_7_code 24 = .ok (.ireturn, 1) := by decide +kernel
theorem tb_im_Nb_judge : mTB (Cond.instanceMethod ⟨"NineBars", "judge", "(II)I"⟩) := tbq4 188 (by decide +kernel) rfl
theorem tb_se_Nb_judge : mTB (Cond.selects "NineBars" ⟨"NineBars", "judge", "(II)I"⟩ ⟨"NineBars", "judge", "(II)I"⟩) := tbq4 189 (by decide +kernel) rfl
theorem mv_Nb_judge {M : mM} {idx : Nat} (h : mTB (Cond.methodLink (mO M) idx ⟨"NineBars", "judge", "(II)I"⟩)) : mCaV M M_Nb_judge idx 10 := ⟨h, tb_im_Nb_judge, tb_se_Nb_judge, by decide, TX10, 19, rfl⟩
theorem d_Law_judge_8 : decode method_7_code 8 = .ok (.i2l, 1) := by decide +kernel
theorem d_Law_judge_9 : decode method_7_code 9 = .ok (.lastore, 1) := by decide +kernel
theorem d_Law_judge_10 : decode method_7_code 10 = .ok (.goto 15, 3) := by decide +kernel
theorem d_Law_judge_25 : decode method_7_code 25 = .ok (.iconst 0, 1) := by decide +kernel
theorem d_Law_judge_26 : decode method_7_code 26 = .ok (.ireturn, 1) := by decide +kernel
theorem t_Law_judge {G : mG} (h : mH) (v0 v1 v2 v3 : Int) (r : mR) (hr : f_Law_judge h v0 v1 v2 v3 = some r) : mJM G M_Law_judge [(2, v0), (0, v1), (0, v2), (2, v3)] h r := by
  refine mJM_of (L := [(2, v0), (0, v1), (0, v2), (2, v3), (9, 0)]) rfl rfl rfl (Nat.le_of_ble_eq_true rfl) ?_
  unfold f_Law_judge at hr
  refine j_aload_n (pc := 0) d_Law_judge_0 rfl ?_
  refine j_iconst (pc := 1) d_Law_judge_1 ?_
  refine j_aload_n (pc := 2) d_Law_judge_2 rfl ?_
  refine j_iload_n (pc := 3) d_Law_judge_3 rfl ?_
  refine j_iload_n (pc := 4) d_Law_judge_4 rfl ?_
  obtain ⟨ha, hr⟩ := chk_some hr
  refine j_callC (pc := 5) (stk := [(0, v2), (0, v1), (2, v0), (0, 0), (2, v3)]) (as := [(2, v0), (0, v1), (0, v2)]) (P := (fun v9 => ((0 : Nat), v9) :: [(0, 0), (2, v3)])) (tg := 0) (ns := [("java/util/NoSuchElementException", 13), ("java/lang/IllegalStateException", 17), ("java/lang/IllegalArgumentException", 21)]) (mRunV (as := [(0, v1), (0, v2)]) (st := [(0, 0), (2, v3)]) d_Law_judge_5 (mc_Nb_judge (by decide)) rfl (mv_Nb_judge tb_ml_Law_29) rfl (Nat.le_of_ble_eq_true rfl) ha) (fun v => rfl) ⟨⟨by decide, by decide, rfl, by decide⟩, by decide +kernel, tb_cl_Law_19, ⟨⟨by decide, by decide, rfl, by decide⟩, by decide +kernel, tb_cl_Law_27, ⟨⟨by decide, by decide, rfl, by decide⟩, by decide +kernel, tb_cl_Law_13, trivial⟩⟩⟩ hr (fun r1 h1 => t_Nb_judge _ _ _ _ _ h1) (fun e h1 hr => ?_) (fun x2 h1 hr => ?_)
  · by_cases he : e = exNo "java/util/NoSuchElementException"
    · rw [if_pos he] at hr
      exact ⟨"java/util/NoSuchElementException", 13, 4, 2, he.symm, by decide +kernel, by decide +kernel, Or.inr ⟨d_Law_judge_13, rfl⟩, (Nat.le_of_ble_eq_true rfl), j_iconst (pc := 15) d_Law_judge_15 (j_iret (pc := 16) d_Law_judge_16 rfl hr)⟩
    · rw [if_neg he] at hr
      by_cases he : e = exNo "java/lang/IllegalStateException"
      · rw [if_pos he] at hr
        exact ⟨"java/lang/IllegalStateException", 17, 4, 2, he.symm, by decide +kernel, by decide +kernel, Or.inr ⟨d_Law_judge_17, rfl⟩, (Nat.le_of_ble_eq_true rfl), j_iconst (pc := 19) d_Law_judge_19 (j_iret (pc := 20) d_Law_judge_20 rfl hr)⟩
      · rw [if_neg he] at hr
        by_cases he : e = exNo "java/lang/IllegalArgumentException"
        · rw [if_pos he] at hr
          exact ⟨"java/lang/IllegalArgumentException", 21, 4, 2, he.symm, by decide +kernel, by decide +kernel, Or.inr ⟨d_Law_judge_21, rfl⟩, (Nat.le_of_ble_eq_true rfl), j_iconst (pc := 23) d_Law_judge_23 (j_iret (pc := 24) d_Law_judge_24 rfl hr)⟩
        · rw [if_neg he] at hr
          cases hr
  refine j_i2l (pc := 8) d_Law_judge_8 ?_
  refine j_lastore (pc := 9) d_Law_judge_9 hr (fun h3 hr => ?_)
  refine j_goto (pc := 10) (tgt := 25) d_Law_judge_10 ?_
  refine j_iconst (pc := 25) d_Law_judge_25 ?_
  exact j_iret (pc := 26) d_Law_judge_26 rfl hr
