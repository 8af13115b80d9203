def M_Nb_grownLong : mM := ("NineBars", ⟨"NineBars", "grownLong", "([JII)[J"⟩, prog_1_method_63_code, 3, some (.array .long), [], 1)
theorem tb_co_Nb_grownLong : mTB (Cond.code ⟨"NineBars", "grownLong", "([JII)[J"⟩ prog_1_method_63_code 3 (some (.array .long))) := tbq5 55 (by decide +kernel) rfl
theorem mc_Nb_grownLong {M : mM} (hd : 1 < mDp M) : mCal M M_Nb_grownLong 3 := ⟨tb_co_Nb_grownLong, tb_in_NineBars, ⟨by decide +kernel, by decide +kernel⟩, by decide +kernel, hd, by decide⟩
theorem d_Nb_grownLong_0 : decode prog_1_method_63_code 0 = .ok (.aload_n 0, 1) := by decide +kernel
theorem d_Nb_grownLong_1 : decode prog_1_method_63_code 1 = .ok (.arraylength, 1) := by decide +kernel
theorem d_Nb_grownLong_2 : decode prog_1_method_63_code 2 = .ok (.iload_n 1, 1) := by decide +kernel
theorem d_Nb_grownLong_3 : decode prog_1_method_63_code 3 = .ok (.if_icmp .ge 7, 3) := by decide +kernel
theorem d_Nb_grownLong_10 : decode prog_1_method_63_code 10 = .ok (.aload_n 0, 1) := by decide +kernel
theorem d_Nb_grownLong_11 : decode prog_1_method_63_code 11 = .ok (.areturn, 1) := by decide +kernel
theorem d_Nb_grownLong_6 : decode prog_1_method_63_code 6 = .ok (.iload_n 1, 1) := by decide +kernel
theorem d_Nb_grownLong_7 : decode prog_1_method_63_code 7 = .ok (.ifCond .gt 5, 3) := by decide +kernel
theorem d_Nb_grownLong_12 : decode prog_1_method_63_code 12 = .ok (.iload_n 1, 1) := by decide +kernel
theorem d_Nb_grownLong_13 : decode prog_1_method_63_code 13 = .ok (.iconst 2, 1) := by decide +kernel
theorem d_Nb_grownLong_14 : decode prog_1_method_63_code 14 = .ok (.aload_n 0, 1) := by decide +kernel
theorem d_Nb_grownLong_15 : decode prog_1_method_63_code 15 = .ok (.arraylength, 1) := by decide +kernel
theorem d_Nb_grownLong_16 : decode prog_1_method_63_code 16 = .ok (.imul, 1) := by decide +kernel
theorem d_Nb_grownLong_17 : decode prog_1_method_63_code 17 = .ok (.iload_n 2, 1) := by decide +kernel
theorem d_Nb_grownLong_18 : decode prog_1_method_63_code 18 = .ok (.invokestatic 416, 3) := by decide +kernel
theorem d_Nb_grownLong_21 : decode prog_1_method_63_code 21 = .ok (.invokestatic 411, 3) := by decide +kernel
theorem d_Nb_grownLong_24 : decode prog_1_method_63_code 24 = .ok (.newarray .long, 2) := by decide +kernel
theorem d_Nb_grownLong_26 : decode prog_1_method_63_code 26 = .ok (.areturn, 1) := by decide +kernel
theorem t_Nb_grownLong {G : mG} (h : mH) (v0 v1 v2 : Int) (r : mR) (hr : f_Nb_grownLong h v0 v1 v2 = some r) : mJM G M_Nb_grownLong [(2, v0), (0, v1), (0, v2)] h r := by
  refine mJM_of (L := [(2, v0), (0, v1), (0, v2)]) rfl rfl rfl (Nat.le_of_ble_eq_true rfl) ?_
  unfold f_Nb_grownLong at hr
  refine j_aload_n (pc := 0) d_Nb_grownLong_0 rfl ?_
  refine j_alen (pc := 1) d_Nb_grownLong_1 hr (fun hr => ?_)
  refine j_iload_n (pc := 2) d_Nb_grownLong_2 rfl ?_
  refine j_icmp_ge (pc := 3) (tgt := 10) d_Nb_grownLong_3 hr (fun hr => ?_) (fun hr => ?_)
  · refine j_aload_n (pc := 10) d_Nb_grownLong_10 rfl ?_
    exact j_aret (pc := 11) d_Nb_grownLong_11 rfl (Or.inr ⟨_, rfl⟩) hr
  · refine j_iload_n (pc := 6) d_Nb_grownLong_6 rfl ?_
    refine j_if_gt (pc := 7) (tgt := 12) d_Nb_grownLong_7 hr (fun hr => ?_) (fun hr => ?_)
    · refine j_iload_n (pc := 12) d_Nb_grownLong_12 rfl ?_
      refine j_iconst (pc := 13) d_Nb_grownLong_13 ?_
      refine j_aload_n (pc := 14) d_Nb_grownLong_14 rfl ?_
      refine j_alen (pc := 15) d_Nb_grownLong_15 hr (fun hr => ?_)
      refine j_imul (pc := 16) d_Nb_grownLong_16 ?_
      refine j_iload_n (pc := 17) d_Nb_grownLong_17 rfl ?_
      refine j_min (pc := 18) d_Nb_grownLong_18 tb_ml_Nb_416 tb_sm_Math_min tb_in_java_lang_Math tb_co_Math_min (Nat.le_of_ble_eq_true rfl) ?_
      refine j_max (pc := 21) d_Nb_grownLong_21 tb_ml_Nb_411 tb_sm_Math_max tb_in_java_lang_Math tb_co_Math_max (Nat.le_of_ble_eq_true rfl) ?_
      refine j_newJ (pc := 24) d_Nb_grownLong_24 tb_ac_long hr (fun h1 hr => ?_)
      exact j_aret (pc := 26) d_Nb_grownLong_26 rfl (Or.inr ⟨_, rfl⟩) hr
    · refine j_aload_n (pc := 10) d_Nb_grownLong_10 rfl ?_
      exact j_aret (pc := 11) d_Nb_grownLong_11 rfl (Or.inr ⟨_, rfl⟩) hr
def M_Counter_begin : mM := ("NineBars$Counter", ⟨"NineBars$Counter", "begin", "(LNineBars$Graph;I)V"⟩, prog_3_method_2_code, 4, none, [], 3)
theorem tb_co_Counter_begin : mTB (Cond.code ⟨"NineBars$Counter", "begin", "(LNineBars$Graph;I)V"⟩ prog_3_method_2_code 4 (none)) := tbq5 52 (by decide +kernel) rfl
theorem mc_Counter_begin {M : mM} (hd : 3 < mDp M) : mCal M M_Counter_begin 2 := ⟨tb_co_Counter_begin, tb_in_NineBars_Counter, ⟨by decide +kernel, by decide +kernel⟩, by decide +kernel, hd, by decide⟩
theorem d_Counter_begin_0 : decode prog_3_method_2_code 0 = .ok (.aload_n 0, 1) := by decide +kernel
theorem d_Counter_begin_1 : decode prog_3_method_2_code 1 = .ok (.aload_n 0, 1) := by decide +kernel
theorem d_Counter_begin_2 : decode prog_3_method_2_code 2 = .ok (.getfield 9, 3) := by decide +kernel
theorem d_Counter_begin_5 : decode prog_3_method_2_code 5 = .ok (.aload_n 1, 1) := by decide +kernel
theorem tb_fl_Counter_18 : mTN (Cond.fieldLinkNest "NineBars$Counter" 18 "NineBars$Graph" "stands" "I" "NineBars") := tbqn1 197 (by decide +kernel) rfl
theorem fd_Counter_18 {M : mM} (h : mO M = "NineBars$Counter") : mFld M 18 4 2 0 := ⟨_, _, _, tyX4, rfl, by decide, by decide, rfl, uw_4, tyX4_ok, nmX4, by rw [h]; exact Or.inr ⟨_, tb_fl_Counter_18⟩⟩
theorem d_Counter_begin_6 : decode prog_3_method_2_code 6 = .ok (.getfield 18, 3) := by decide +kernel
theorem d_Counter_begin_9 : decode prog_3_method_2_code 9 = .ok (.sipush 20000, 3) := by decide +kernel
theorem d_Counter_begin_12 : decode prog_3_method_2_code 12 = .ok (.invokestatic 24, 3) := by decide +kernel
theorem tb_mn_Counter_24 : mTN (Cond.methodLinkNest "NineBars$Counter" 24 ⟨"NineBars", "grownLong", "([JII)[J"⟩ "NineBars") := tbqn5 53 (by decide +kernel) rfl
theorem tb_sm_Nb_grownLong : mTB (Cond.static ⟨"NineBars", "grownLong", "([JII)[J"⟩) := tbq5 54 (by decide +kernel) rfl
theorem d_Counter_begin_15 : decode prog_3_method_2_code 15 = .ok (.putfield 9, 3) := by decide +kernel
theorem d_Counter_begin_18 : decode prog_3_method_2_code 18 = .ok (.aload_n 0, 1) := by decide +kernel
theorem d_Counter_begin_19 : decode prog_3_method_2_code 19 = .ok (.aload_n 0, 1) := by decide +kernel
theorem d_Counter_begin_20 : decode prog_3_method_2_code 20 = .ok (.getfield 15, 3) := by decide +kernel
theorem d_Counter_begin_23 : decode prog_3_method_2_code 23 = .ok (.aload_n 1, 1) := by decide +kernel
theorem d_Counter_begin_24 : decode prog_3_method_2_code 24 = .ok (.getfield 18, 3) := by decide +kernel
theorem d_Counter_begin_27 : decode prog_3_method_2_code 27 = .ok (.sipush 20000, 3) := by decide +kernel
theorem d_Counter_begin_30 : decode prog_3_method_2_code 30 = .ok (.invokestatic 24, 3) := by decide +kernel
theorem d_Counter_begin_33 : decode prog_3_method_2_code 33 = .ok (.putfield 15, 3) := by decide +kernel
theorem d_Counter_begin_36 : decode prog_3_method_2_code 36 = .ok (.iconst 0, 1) := by decide +kernel
theorem d_Counter_begin_37 : decode prog_3_method_2_code 37 = .ok (.istore_n 3, 1) := by decide +kernel
theorem d_Counter_begin_38 : decode prog_3_method_2_code 38 = .ok (.iload_n 3, 1) := by decide +kernel
theorem d_Counter_begin_39 : decode prog_3_method_2_code 39 = .ok (.aload_n 1, 1) := by decide +kernel
theorem d_Counter_begin_40 : decode prog_3_method_2_code 40 = .ok (.getfield 18, 3) := by decide +kernel
theorem d_Counter_begin_43 : decode prog_3_method_2_code 43 = .ok (.if_icmp .ge 34, 3) := by decide +kernel
theorem d_Counter_begin_77 : decode prog_3_method_2_code 77 = .ok (.return_, 1) := by decide +kernel
theorem d_Counter_begin_46 : decode prog_3_method_2_code 46 = .ok (.iload_n 3, 1) := by decide +kernel
theorem d_Counter_begin_47 : decode prog_3_method_2_code 47 = .ok (.aload_n 0, 1) := by decide +kernel
theorem d_Counter_begin_48 : decode prog_3_method_2_code 48 = .ok (.getfield 9, 3) := by decide +kernel
theorem d_Counter_begin_51 : decode prog_3_method_2_code 51 = .ok (.arraylength, 1) := by decide +kernel
theorem d_Counter_begin_52 : decode prog_3_method_2_code 52 = .ok (.if_icmp .ge 25, 3) := by decide +kernel
theorem d_Counter_begin_55 : decode prog_3_method_2_code 55 = .ok (.aload_n 0, 1) := by decide +kernel
theorem d_Counter_begin_56 : decode prog_3_method_2_code 56 = .ok (.getfield 9, 3) := by decide +kernel
theorem d_Counter_begin_59 : decode prog_3_method_2_code 59 = .ok (.iload_n 3, 1) := by decide +kernel
theorem d_Counter_begin_60 : decode prog_3_method_2_code 60 = .ok (.iload_n 3, 1) := by decide +kernel
theorem d_Counter_begin_61 : decode prog_3_method_2_code 61 = .ok (.iload_n 2, 1) := by decide +kernel
theorem d_Counter_begin_62 : decode prog_3_method_2_code 62 = .ok (.if_icmp .ne 7, 3) := by decide +kernel
theorem d_Counter_begin_69 : decode prog_3_method_2_code 69 = .ok (.lconst 0, 1) := by decide +kernel
theorem d_Counter_begin_70 : decode prog_3_method_2_code 70 = .ok (.lastore, 1) := by decide +kernel
theorem d_Counter_begin_71 : decode prog_3_method_2_code 71 = .ok (.iinc 3 1, 3) := by decide +kernel
theorem d_Counter_begin_74 : decode prog_3_method_2_code 74 = .ok (.goto (-36), 3) := by decide +kernel
theorem d_Counter_begin_65 : decode prog_3_method_2_code 65 = .ok (.lconst 1, 1) := by decide +kernel
theorem d_Counter_begin_66 : decode prog_3_method_2_code 66 = .ok (.goto 4, 3) := by decide +kernel
theorem t_Counter_begin_J70 {G : mG} {r : mR} {v0 v1 v2 v3 s0 s1 s2 : Int} {h : mH} {R38 : mH → Int → Option mR} (hR38 : ∀ (h : mH) (w3 : Int) , R38 h w3 = some r → mJ G M_Counter_begin 38 [(2, v0), (2, v1), (0, v2), (0, w3)] [] h r) (hr : f_Counter_begin_J70 R38 v3 s0 s1 s2 h = some r) : mJ G M_Counter_begin 70 [(2, v0), (2, v1), (0, v2), (0, v3)] [(1, s2), (0, s1), (2, s0)] h r := by
  unfold f_Counter_begin_J70 at hr
  refine j_lastore (pc := 70) d_Counter_begin_70 hr (fun h1 hr => ?_)
  refine j_iincW (pc := 71) (L := fun x2 => [(2, v0), (2, v1), (0, v2), (0, x2)]) d_Counter_begin_71 rfl (fun _ => rfl) hr (fun x2 hr => ?_)
  refine j_goto (pc := 74) (tgt := 38) d_Counter_begin_74 ?_
  exact mJ_weak (ls' := [(2, v0), (2, v1), (0, v2), (0, x2)]) (mwk_s (mwk_s (mwk_s (mwk_s mwk_n)))) (hR38 h1 _ hr)
theorem t_Counter_begin_L38 {G : mG} {r : mR} {v0 v1 v2 : Int}  : ∀ (n : Nat) (h : mH) (v3 : Int), f_Counter_begin_L38 v0 v1 v2 n h v3 = some r → mJ G M_Counter_begin 38 [(2, v0), (2, v1), (0, v2), (0, v3)] [] h r := by
  intro n
  induction n with
  | zero =>
    intro h v3 hr
    rw [f_Counter_begin_L38] at hr
    cases hr
  | succ n hR38 =>
    intro h v3 hr
    rw [f_Counter_begin_L38] at hr
    refine j_iload_n (pc := 38) d_Counter_begin_38 rfl ?_
    refine j_aload_n (pc := 39) d_Counter_begin_39 rfl ?_
    refine j_getf (pc := 40) d_Counter_begin_40 (fd_Counter_18 rfl) hr (fun hr => ?_)
    refine j_icmp_ge (pc := 43) (tgt := 77) d_Counter_begin_43 hr (fun hr => ?_) (fun hr => ?_)
    · exact j_vret (pc := 77) d_Counter_begin_77 rfl hr
    · refine j_iload_n (pc := 46) d_Counter_begin_46 rfl ?_
      refine j_aload_n (pc := 47) d_Counter_begin_47 rfl ?_
      refine j_getf (pc := 48) d_Counter_begin_48 (fd_Counter_9 rfl) hr (fun hr => ?_)
      refine j_alen (pc := 51) d_Counter_begin_51 hr (fun hr => ?_)
      refine j_icmp_ge (pc := 52) (tgt := 77) d_Counter_begin_52 hr (fun hr => ?_) (fun hr => ?_)
      · exact j_vret (pc := 77) d_Counter_begin_77 rfl hr
      · refine j_aload_n (pc := 55) d_Counter_begin_55 rfl ?_
        refine j_getf (pc := 56) d_Counter_begin_56 (fd_Counter_9 rfl) hr (fun hr => ?_)
        refine j_iload_n (pc := 59) d_Counter_begin_59 rfl ?_
        refine j_iload_n (pc := 60) d_Counter_begin_60 rfl ?_
        refine j_iload_n (pc := 61) d_Counter_begin_61 rfl ?_
        refine j_icmp_ne (pc := 62) (tgt := 69) d_Counter_begin_62 hr (fun hr => ?_) (fun hr => ?_)
        · refine j_lconst (pc := 69) (z := 0) d_Counter_begin_69 ?_
          exact mJ_weak (ls' := [(2, v0), (2, v1), (0, v2), (0, v3)]) (mwk_s (mwk_s (mwk_s (mwk_s mwk_n)))) (t_Counter_begin_J70 hR38 hr)
        · refine j_lconst (pc := 65) (z := 1) d_Counter_begin_65 ?_
          refine j_goto (pc := 66) (tgt := 70) d_Counter_begin_66 ?_
          exact mJ_weak (ls' := [(2, v0), (2, v1), (0, v2), (0, v3)]) (mwk_s (mwk_s (mwk_s (mwk_s mwk_n)))) (t_Counter_begin_J70 hR38 hr)
theorem t_Counter_begin {G : mG} (h : mH) (v0 v1 v2 : Int) (r : mR) (hr : f_Counter_begin h v0 v1 v2 = some r) : mJM G M_Counter_begin [(2, v0), (2, v1), (0, v2)] h r := by
  refine mJM_of (L := [(2, v0), (2, v1), (0, v2), (9, 0)]) rfl rfl rfl (Nat.le_of_ble_eq_true rfl) ?_
  unfold f_Counter_begin at hr
  refine j_aload_n (pc := 0) d_Counter_begin_0 rfl ?_
  refine j_aload_n (pc := 1) d_Counter_begin_1 rfl ?_
  refine j_getf (pc := 2) d_Counter_begin_2 (fd_Counter_9 rfl) hr (fun hr => ?_)
  refine j_aload_n (pc := 5) d_Counter_begin_5 rfl ?_
  refine j_getf (pc := 6) d_Counter_begin_6 (fd_Counter_18 rfl) hr (fun hr => ?_)
  refine j_sipush (pc := 9) d_Counter_begin_9 ?_
  refine j_callR (pc := 12) (stk := [(0, 20000), (0, hpV h v1 2), (2, hpV h v0 0), (2, v0)]) (as := [(2, hpV h v0 0), (0, hpV h v1 2), (0, 20000)]) (P := (fun v9 => ((2 : Nat), v9) :: [(2, v0)])) (tg := 2) (My := M_Nb_grownLong) (by decide) (mRunN (as := [(2, hpV h v0 0), (0, hpV h v1 2), (0, 20000)]) (st := [(2, v0)]) d_Counter_begin_12 (mc_Nb_grownLong (by decide)) rfl ⟨⟨_, tb_mn_Counter_24⟩, tb_sm_Nb_grownLong⟩ rfl (Nat.le_of_ble_eq_true rfl)) (fun v => rfl) hr (fun r1 h1 => t_Nb_grownLong _ _ _ _ _ h1) (fun x2 h1 hr => ?_)
  refine j_puta (pc := 15) d_Counter_begin_15 (fd_Counter_9 rfl) (⟨_, _, _, rfl, Or.inl rfl, rfl⟩ : mFldW M_Counter_begin 9 1 0 (.array .long)) (Or.inr ⟨_, rfl⟩) hr (fun h3 hr => ?_)
  refine j_aload_n (pc := 18) d_Counter_begin_18 rfl ?_
  refine j_aload_n (pc := 19) d_Counter_begin_19 rfl ?_
  refine j_getf (pc := 20) d_Counter_begin_20 (fd_Counter_15 rfl) hr (fun hr => ?_)
  refine j_aload_n (pc := 23) d_Counter_begin_23 rfl ?_
  refine j_getf (pc := 24) d_Counter_begin_24 (fd_Counter_18 rfl) hr (fun hr => ?_)
  refine j_sipush (pc := 27) d_Counter_begin_27 ?_
  refine j_callR (pc := 30) (stk := [(0, 20000), (0, hpV h3 v1 2), (2, hpV h3 v0 1), (2, v0)]) (as := [(2, hpV h3 v0 1), (0, hpV h3 v1 2), (0, 20000)]) (P := (fun v9 => ((2 : Nat), v9) :: [(2, v0)])) (tg := 2) (My := M_Nb_grownLong) (by decide) (mRunN (as := [(2, hpV h3 v0 1), (0, hpV h3 v1 2), (0, 20000)]) (st := [(2, v0)]) d_Counter_begin_30 (mc_Nb_grownLong (by decide)) rfl ⟨⟨_, tb_mn_Counter_24⟩, tb_sm_Nb_grownLong⟩ rfl (Nat.le_of_ble_eq_true rfl)) (fun v => rfl) hr (fun r1 h1 => t_Nb_grownLong _ _ _ _ _ h1) (fun x5 h4 hr => ?_)
  refine j_puta (pc := 33) d_Counter_begin_33 (fd_Counter_15 rfl) (⟨_, _, _, rfl, Or.inl rfl, rfl⟩ : mFldW M_Counter_begin 15 1 1 (.array .long)) (Or.inr ⟨_, rfl⟩) hr (fun h6 hr => ?_)
  refine j_iconst (pc := 36) d_Counter_begin_36 ?_
  refine j_istore_n (pc := 37) (ls' := [(2, v0), (2, v1), (0, v2), (0, 0)]) d_Counter_begin_37 rfl ?_
  refine mJ_weak (ls' := [(2, v0), (2, v1), (0, v2), (0, 0)]) (mwk_s (mwk_s (mwk_s (mwk_s mwk_n)))) (t_Counter_begin_L38  _ _ _ hr)
def M_Counter_rowsAt : mM := ("NineBars$Counter", ⟨"NineBars$Counter", "rowsAt", "(I)J"⟩, prog_3_method_6_code, 2, some .long, [], 1)
theorem tb_co_Counter_rowsAt : mTB (Cond.code ⟨"NineBars$Counter", "rowsAt", "(I)J"⟩ prog_3_method_6_code 2 (some .long)) := tbq5 61 (by decide +kernel) rfl
theorem mc_Counter_rowsAt {M : mM} (hd : 1 < mDp M) : mCal M M_Counter_rowsAt 1 := ⟨tb_co_Counter_rowsAt, tb_in_NineBars_Counter, ⟨by decide +kernel, by decide +kernel⟩, by decide +kernel, hd, by decide⟩
theorem d_Counter_rowsAt_0 : decode prog_3_method_6_code 0 = .ok (.iload_n 1, 1) := by decide +kernel
theorem d_Counter_rowsAt_1 : decode prog_3_method_6_code 1 = .ok (.ifCond .lt 21, 3) := by decide +kernel
theorem d_Counter_rowsAt_22 : decode prog_3_method_6_code 22 = .ok (.lconst 0, 1) := by decide +kernel
theorem d_Counter_rowsAt_23 : decode prog_3_method_6_code 23 = .ok (.lreturn, 1) := by decide +kernel
theorem d_Counter_rowsAt_4 : decode prog_3_method_6_code 4 = .ok (.iload_n 1, 1) := by decide +kernel
theorem d_Counter_rowsAt_5 : decode prog_3_method_6_code 5 = .ok (.aload_n 0, 1) := by decide +kernel
theorem d_Counter_rowsAt_6 : decode prog_3_method_6_code 6 = .ok (.getfield 9, 3) := by decide +kernel
theorem d_Counter_rowsAt_9 : decode prog_3_method_6_code 9 = .ok (.arraylength, 1) := by decide +kernel
theorem d_Counter_rowsAt_10 : decode prog_3_method_6_code 10 = .ok (.if_icmp .ge 12, 3) := by decide +kernel
theorem d_Counter_rowsAt_13 : decode prog_3_method_6_code 13 = .ok (.aload_n 0, 1) := by decide +kernel
theorem d_Counter_rowsAt_14 : decode prog_3_method_6_code 14 = .ok (.getfield 9, 3) := by decide +kernel
theorem d_Counter_rowsAt_17 : decode prog_3_method_6_code 17 = .ok (.iload_n 1, 1) := by decide +kernel
theorem d_Counter_rowsAt_18 : decode prog_3_method_6_code 18 = .ok (.laload, 1) := by decide +kernel
theorem d_Counter_rowsAt_19 : decode prog_3_method_6_code 19 = .ok (.goto 4, 3) := by decide +kernel
theorem t_Counter_rowsAt_J22 {G : mG} {r : mR} {h : mH}  (hr : f_Counter_rowsAt_J22 h = some r) : mJ G M_Counter_rowsAt 22 [(9, 0), (9, 0)] [] h r := by
  unfold f_Counter_rowsAt_J22 at hr
  refine j_lconst (pc := 22) (z := 0) d_Counter_rowsAt_22 ?_
  exact j_lret (pc := 23) d_Counter_rowsAt_23 rfl hr
theorem t_Counter_rowsAt {G : mG} (h : mH) (v0 v1 : Int) (r : mR) (hr : f_Counter_rowsAt h v0 v1 = some r) : mJM G M_Counter_rowsAt [(2, v0), (0, v1)] h r := by
  refine mJM_of (L := [(2, v0), (0, v1)]) rfl rfl rfl (Nat.le_of_ble_eq_true rfl) ?_
  unfold f_Counter_rowsAt at hr
  refine j_iload_n (pc := 0) d_Counter_rowsAt_0 rfl ?_
  refine j_if_lt (pc := 1) (tgt := 22) d_Counter_rowsAt_1 hr (fun hr => ?_) (fun hr => ?_)
  · exact mJ_weak (ls' := [(9, 0), (9, 0)]) (mwk_d (mwk_d mwk_n)) (t_Counter_rowsAt_J22  hr)
  · refine j_iload_n (pc := 4) d_Counter_rowsAt_4 rfl ?_
    refine j_aload_n (pc := 5) d_Counter_rowsAt_5 rfl ?_
    refine j_getf (pc := 6) d_Counter_rowsAt_6 (fd_Counter_9 rfl) hr (fun hr => ?_)
    refine j_alen (pc := 9) d_Counter_rowsAt_9 hr (fun hr => ?_)
    refine j_icmp_ge (pc := 10) (tgt := 22) d_Counter_rowsAt_10 hr (fun hr => ?_) (fun hr => ?_)
    · exact mJ_weak (ls' := [(9, 0), (9, 0)]) (mwk_d (mwk_d mwk_n)) (t_Counter_rowsAt_J22  hr)
    · refine j_aload_n (pc := 13) d_Counter_rowsAt_13 rfl ?_
      refine j_getf (pc := 14) d_Counter_rowsAt_14 (fd_Counter_9 rfl) hr (fun hr => ?_)
      refine j_iload_n (pc := 17) d_Counter_rowsAt_17 rfl ?_
      refine j_laload (pc := 18) d_Counter_rowsAt_18 hr (fun hr => ?_)
      refine j_goto (pc := 19) (tgt := 23) d_Counter_rowsAt_19 ?_
      exact j_lret (pc := 23) d_Counter_rowsAt_23 rfl hr
def M_Counter_waysToOpen : mM := ("NineBars$Counter", ⟨"NineBars$Counter", "waysToOpen", "(LNineBars$Graph;LNineBars$Paths;)J"⟩, prog_3_method_7_code, 9, some .long, [], 5)
theorem tb_co_Counter_waysToOpen : mTB (Cond.code ⟨"NineBars$Counter", "waysToOpen", "(LNineBars$Graph;LNineBars$Paths;)J"⟩ prog_3_method_7_code 9 (some .long)) := tbq5 48 (by decide +kernel) rfl
theorem mc_Counter_waysToOpen {M : mM} (hd : 5 < mDp M) : mCal M M_Counter_waysToOpen 2 := ⟨tb_co_Counter_waysToOpen, tb_in_NineBars_Counter, ⟨by decide +kernel, by decide +kernel⟩, by decide +kernel, hd, by decide⟩
theorem d_Counter_waysToOpen_0 : decode prog_3_method_7_code 0 = .ok (.aload_n 0, 1) := by decide +kernel
theorem d_Counter_waysToOpen_1 : decode prog_3_method_7_code 1 = .ok (.aload_n 1, 1) := by decide +kernel
theorem d_Counter_waysToOpen_2 : decode prog_3_method_7_code 2 = .ok (.aload_n 2, 1) := by decide +kernel
theorem tb_fl_Counter_65 : mTN (Cond.fieldLinkNest "NineBars$Counter" 65 "NineBars$Paths" "source" "I" "NineBars") := tbqn2 16 (by decide +kernel) rfl
theorem fd_Counter_65 {M : mM} (h : mO M = "NineBars$Counter") : mFld M 65 7 3 0 := ⟨_, _, _, tyX7, rfl, by decide, by decide, rfl, uw_7, tyX7_ok, nmX7, by rw [h]; exact Or.inr ⟨_, tb_fl_Counter_65⟩⟩
theorem d_Counter_waysToOpen_3 : decode prog_3_method_7_code 3 = .ok (.getfield 65, 3) := by decide +kernel
theorem d_Counter_waysToOpen_6 : decode prog_3_method_7_code 6 = .ok (.invokevirtual 39, 3) := by decide +kernel
theorem tb_ml_Counter_39 : mTB (Cond.methodLink "NineBars$Counter" 39 ⟨"NineBars$Counter", "begin", "(LNineBars$Graph;I)V"⟩) := tbq5 49 (by decide +kernel) rfl
theorem tb_im_Counter_begin : mTB (Cond.instanceMethod ⟨"NineBars$Counter", "begin", "(LNineBars$Graph;I)V"⟩) := tbq5 51 (by decide +kernel) rfl
theorem tb_se_Counter_begin : mTB (Cond.selects "NineBars$Counter" ⟨"NineBars$Counter", "begin", "(LNineBars$Graph;I)V"⟩ ⟨"NineBars$Counter", "begin", "(LNineBars$Graph;I)V"⟩) := tbqp 27 (by decide +kernel) rfl
theorem mv_Counter_begin {M : mM} {idx : Nat} (h : mTB (Cond.methodLink (mO M) idx ⟨"NineBars$Counter", "begin", "(LNineBars$Graph;I)V"⟩)) : mCaV M M_Counter_begin idx 1 := ⟨h, tb_im_Counter_begin, tb_se_Counter_begin, by decide, TX1, 2, rfl⟩
theorem d_Counter_waysToOpen_9 : decode prog_3_method_7_code 9 = .ok (.iconst 0, 1) := by decide +kernel
theorem d_Counter_waysToOpen_10 : decode prog_3_method_7_code 10 = .ok (.istore_n 3, 1) := by decide +kernel
theorem d_Counter_waysToOpen_11 : decode prog_3_method_7_code 11 = .ok (.iload_n 3, 1) := by decide +kernel
theorem d_Counter_waysToOpen_12 : decode prog_3_method_7_code 12 = .ok (.aload_n 2, 1) := by decide +kernel
theorem tb_fl_Counter_70 : mTN (Cond.fieldLinkNest "NineBars$Counter" 70 "NineBars$Paths" "many" "I" "NineBars") := tbqn2 18 (by decide +kernel) rfl
theorem fd_Counter_70 {M : mM} (h : mO M = "NineBars$Counter") : mFld M 70 7 4 0 := ⟨_, _, _, tyX7, rfl, by decide, by decide, rfl, uw_7, tyX7_ok, nmX7, by rw [h]; exact Or.inr ⟨_, tb_fl_Counter_70⟩⟩
theorem d_Counter_waysToOpen_13 : decode prog_3_method_7_code 13 = .ok (.getfield 70, 3) := by decide +kernel
theorem d_Counter_waysToOpen_16 : decode prog_3_method_7_code 16 = .ok (.if_icmp .ge 134, 3) := by decide +kernel
theorem d_Counter_waysToOpen_19 : decode prog_3_method_7_code 19 = .ok (.aload_n 2, 1) := by decide +kernel
theorem tb_fl_Counter_71 : mTN (Cond.fieldLinkNest "NineBars$Counter" 71 "NineBars$Paths" "order" "[I" "NineBars") := tbqn2 22 (by decide +kernel) rfl
theorem fd_Counter_71 {M : mM} (h : mO M = "NineBars$Counter") : mFld M 71 7 6 2 := ⟨_, _, _, tyX7, rfl, by decide, by decide, rfl, uw_7, tyX7_ok, nmX7, by rw [h]; exact Or.inr ⟨_, tb_fl_Counter_71⟩⟩
theorem d_Counter_waysToOpen_20 : decode prog_3_method_7_code 20 = .ok (.getfield 71, 3) := by decide +kernel
theorem d_Counter_waysToOpen_23 : decode prog_3_method_7_code 23 = .ok (.iload_n 3, 1) := by decide +kernel
theorem d_Counter_waysToOpen_24 : decode prog_3_method_7_code 24 = .ok (.iaload, 1) := by decide +kernel
theorem d_Counter_waysToOpen_25 : decode prog_3_method_7_code 25 = .ok (.istore 4, 2) := by decide +kernel
theorem d_Counter_waysToOpen_27 : decode prog_3_method_7_code 27 = .ok (.aload_n 1, 1) := by decide +kernel
theorem d_Counter_waysToOpen_28 : decode prog_3_method_7_code 28 = .ok (.iload 4, 2) := by decide +kernel
theorem d_Counter_waysToOpen_30 : decode prog_3_method_7_code 30 = .ok (.invokevirtual 28, 3) := by decide +kernel
theorem tb_ml_Counter_28 : mTB (Cond.methodLink "NineBars$Counter" 28 ⟨"NineBars$Graph", "stepsFrom", "(I)I"⟩) := tbq5 56 (by decide +kernel) rfl
theorem d_Counter_waysToOpen_33 : decode prog_3_method_7_code 33 = .ok (.istore 5, 2) := by decide +kernel
theorem d_Counter_waysToOpen_35 : decode prog_3_method_7_code 35 = .ok (.iconst 0, 1) := by decide +kernel
theorem d_Counter_waysToOpen_36 : decode prog_3_method_7_code 36 = .ok (.istore 6, 2) := by decide +kernel
theorem d_Counter_waysToOpen_38 : decode prog_3_method_7_code 38 = .ok (.iload 6, 2) := by decide +kernel
theorem d_Counter_waysToOpen_40 : decode prog_3_method_7_code 40 = .ok (.aload_n 1, 1) := by decide +kernel
theorem tb_fl_Counter_32 : mTN (Cond.fieldLinkNest "NineBars$Counter" 32 "NineBars$Graph" "steps" "I" "NineBars") := tbqn1 202 (by decide +kernel) rfl
theorem fd_Counter_32 {M : mM} (h : mO M = "NineBars$Counter") : mFld M 32 4 3 0 := ⟨_, _, _, tyX4, rfl, by decide, by decide, rfl, uw_4, tyX4_ok, nmX4, by rw [h]; exact Or.inr ⟨_, tb_fl_Counter_32⟩⟩
theorem d_Counter_waysToOpen_41 : decode prog_3_method_7_code 41 = .ok (.getfield 32, 3) := by decide +kernel
theorem d_Counter_waysToOpen_44 : decode prog_3_method_7_code 44 = .ok (.if_icmp .ge 100, 3) := by decide +kernel
theorem d_Counter_waysToOpen_47 : decode prog_3_method_7_code 47 = .ok (.iload 5, 2) := by decide +kernel
theorem d_Counter_waysToOpen_49 : decode prog_3_method_7_code 49 = .ok (.iload 6, 2) := by decide +kernel
theorem d_Counter_waysToOpen_51 : decode prog_3_method_7_code 51 = .ok (.ishr, 1) := by decide +kernel
theorem d_Counter_waysToOpen_52 : decode prog_3_method_7_code 52 = .ok (.ifCond .eq 92, 3) := by decide +kernel
theorem d_Counter_waysToOpen_55 : decode prog_3_method_7_code 55 = .ok (.iload 4, 2) := by decide +kernel
theorem d_Counter_waysToOpen_57 : decode prog_3_method_7_code 57 = .ok (.aload_n 1, 1) := by decide +kernel
theorem tb_fl_Counter_35 : mTN (Cond.fieldLinkNest "NineBars$Counter" 35 "NineBars$Graph" "shift" "[I" "NineBars") := tbqn1 212 (by decide +kernel) rfl
theorem fd_Counter_35 {M : mM} (h : mO M = "NineBars$Counter") : mFld M 35 4 5 2 := ⟨_, _, _, tyX4, rfl, by decide, by decide, rfl, uw_4, tyX4_ok, nmX4, by rw [h]; exact Or.inr ⟨_, tb_fl_Counter_35⟩⟩
theorem d_Counter_waysToOpen_58 : decode prog_3_method_7_code 58 = .ok (.getfield 35, 3) := by decide +kernel
theorem d_Counter_waysToOpen_61 : decode prog_3_method_7_code 61 = .ok (.iload 6, 2) := by decide +kernel
theorem d_Counter_waysToOpen_63 : decode prog_3_method_7_code 63 = .ok (.iaload, 1) := by decide +kernel
theorem d_Counter_waysToOpen_64 : decode prog_3_method_7_code 64 = .ok (.iadd, 1) := by decide +kernel
theorem d_Counter_waysToOpen_65 : decode prog_3_method_7_code 65 = .ok (.istore 7, 2) := by decide +kernel
theorem d_Counter_waysToOpen_67 : decode prog_3_method_7_code 67 = .ok (.iload 5, 2) := by decide +kernel
theorem d_Counter_waysToOpen_69 : decode prog_3_method_7_code 69 = .ok (.iload 6, 2) := by decide +kernel
theorem d_Counter_waysToOpen_71 : decode prog_3_method_7_code 71 = .ok (.ishr, 1) := by decide +kernel
theorem d_Counter_waysToOpen_72 : decode prog_3_method_7_code 72 = .ok (.iconst 1, 1) := by decide +kernel
theorem d_Counter_waysToOpen_73 : decode prog_3_method_7_code 73 = .ok (.iand, 1) := by decide +kernel
theorem d_Counter_waysToOpen_74 : decode prog_3_method_7_code 74 = .ok (.iconst 1, 1) := by decide +kernel
theorem d_Counter_waysToOpen_75 : decode prog_3_method_7_code 75 = .ok (.if_icmp .ne 7, 3) := by decide +kernel
theorem d_Counter_waysToOpen_82 : decode prog_3_method_7_code 82 = .ok (.iconst 0, 1) := by decide +kernel
theorem d_Counter_waysToOpen_83 : decode prog_3_method_7_code 83 = .ok (.istore 8, 2) := by decide +kernel
theorem d_Counter_waysToOpen_85 : decode prog_3_method_7_code 85 = .ok (.iload 8, 2) := by decide +kernel
theorem d_Counter_waysToOpen_87 : decode prog_3_method_7_code 87 = .ok (.ifCond .eq 51, 3) := by decide +kernel
theorem d_Counter_waysToOpen_138 : decode prog_3_method_7_code 138 = .ok (.iinc 6 1, 3) := by decide +kernel
theorem d_Counter_waysToOpen_141 : decode prog_3_method_7_code 141 = .ok (.goto (-103), 3) := by decide +kernel
theorem d_Counter_waysToOpen_90 : decode prog_3_method_7_code 90 = .ok (.iload 7, 2) := by decide +kernel
theorem d_Counter_waysToOpen_92 : decode prog_3_method_7_code 92 = .ok (.ifCond .lt 46, 3) := by decide +kernel
theorem d_Counter_waysToOpen_95 : decode prog_3_method_7_code 95 = .ok (.iload 7, 2) := by decide +kernel
theorem d_Counter_waysToOpen_97 : decode prog_3_method_7_code 97 = .ok (.aload_n 0, 1) := by decide +kernel
theorem d_Counter_waysToOpen_98 : decode prog_3_method_7_code 98 = .ok (.getfield 9, 3) := by decide +kernel
theorem d_Counter_waysToOpen_101 : decode prog_3_method_7_code 101 = .ok (.arraylength, 1) := by decide +kernel
theorem d_Counter_waysToOpen_102 : decode prog_3_method_7_code 102 = .ok (.if_icmp .ge 36, 3) := by decide +kernel
theorem d_Counter_waysToOpen_105 : decode prog_3_method_7_code 105 = .ok (.aload_n 2, 1) := by decide +kernel
theorem d_Counter_waysToOpen_106 : decode prog_3_method_7_code 106 = .ok (.iload 7, 2) := by decide +kernel
theorem d_Counter_waysToOpen_108 : decode prog_3_method_7_code 108 = .ok (.invokevirtual 74, 3) := by decide +kernel
theorem tb_ml_Counter_74 : mTB (Cond.methodLink "NineBars$Counter" 74 ⟨"NineBars$Paths", "farOf", "(I)I"⟩) := tbq5 57 (by decide +kernel) rfl
theorem d_Counter_waysToOpen_111 : decode prog_3_method_7_code 111 = .ok (.aload_n 2, 1) := by decide +kernel
theorem d_Counter_waysToOpen_112 : decode prog_3_method_7_code 112 = .ok (.iload 4, 2) := by decide +kernel
theorem d_Counter_waysToOpen_114 : decode prog_3_method_7_code 114 = .ok (.invokevirtual 74, 3) := by decide +kernel
theorem d_Counter_waysToOpen_117 : decode prog_3_method_7_code 117 = .ok (.iconst 1, 1) := by decide +kernel
theorem d_Counter_waysToOpen_118 : decode prog_3_method_7_code 118 = .ok (.iadd, 1) := by decide +kernel
theorem d_Counter_waysToOpen_119 : decode prog_3_method_7_code 119 = .ok (.if_icmp .ne 19, 3) := by decide +kernel
theorem d_Counter_waysToOpen_122 : decode prog_3_method_7_code 122 = .ok (.aload_n 0, 1) := by decide +kernel
theorem d_Counter_waysToOpen_123 : decode prog_3_method_7_code 123 = .ok (.getfield 9, 3) := by decide +kernel
theorem d_Counter_waysToOpen_126 : decode prog_3_method_7_code 126 = .ok (.iload 7, 2) := by decide +kernel
theorem d_Counter_waysToOpen_128 : decode prog_3_method_7_code 128 = .ok (.dup2, 1) := by decide +kernel
theorem d_Counter_waysToOpen_129 : decode prog_3_method_7_code 129 = .ok (.laload, 1) := by decide +kernel
theorem d_Counter_waysToOpen_130 : decode prog_3_method_7_code 130 = .ok (.aload_n 0, 1) := by decide +kernel
theorem d_Counter_waysToOpen_131 : decode prog_3_method_7_code 131 = .ok (.iload 4, 2) := by decide +kernel
theorem d_Counter_waysToOpen_133 : decode prog_3_method_7_code 133 = .ok (.invokevirtual 61, 3) := by decide +kernel
theorem tb_ml_Counter_61 : mTB (Cond.methodLink "NineBars$Counter" 61 ⟨"NineBars$Counter", "rowsAt", "(I)J"⟩) := tbq5 58 (by decide +kernel) rfl
theorem tb_im_Counter_rowsAt : mTB (Cond.instanceMethod ⟨"NineBars$Counter", "rowsAt", "(I)J"⟩) := tbq5 60 (by decide +kernel) rfl
theorem tb_se_Counter_rowsAt : mTB (Cond.selects "NineBars$Counter" ⟨"NineBars$Counter", "rowsAt", "(I)J"⟩ ⟨"NineBars$Counter", "rowsAt", "(I)J"⟩) := tbqp 28 (by decide +kernel) rfl
theorem mv_Counter_rowsAt {M : mM} {idx : Nat} (h : mTB (Cond.methodLink (mO M) idx ⟨"NineBars$Counter", "rowsAt", "(I)J"⟩)) : mCaV M M_Counter_rowsAt idx 1 := ⟨h, tb_im_Counter_rowsAt, tb_se_Counter_rowsAt, by decide, TX1, 2, rfl⟩
theorem d_Counter_waysToOpen_136 : decode prog_3_method_7_code 136 = .ok (.ladd, 1) := by decide +kernel
theorem d_Counter_waysToOpen_137 : decode prog_3_method_7_code 137 = .ok (.lastore, 1) := by decide +kernel
theorem d_Counter_waysToOpen_78 : decode prog_3_method_7_code 78 = .ok (.iconst 1, 1) := by decide +kernel
theorem d_Counter_waysToOpen_79 : decode prog_3_method_7_code 79 = .ok (.goto 4, 3) := by decide +kernel
theorem d_Counter_waysToOpen_144 : decode prog_3_method_7_code 144 = .ok (.iinc 3 1, 3) := by decide +kernel
theorem d_Counter_waysToOpen_147 : decode prog_3_method_7_code 147 = .ok (.goto (-136), 3) := by decide +kernel
theorem d_Counter_waysToOpen_150 : decode prog_3_method_7_code 150 = .ok (.aload_n 0, 1) := by decide +kernel
theorem d_Counter_waysToOpen_151 : decode prog_3_method_7_code 151 = .ok (.aload_n 1, 1) := by decide +kernel
theorem tb_fl_Counter_58 : mTN (Cond.fieldLinkNest "NineBars$Counter" 58 "NineBars$Graph" "openStand" "I" "NineBars") := tbqn1 208 (by decide +kernel) rfl
theorem fd_Counter_58 {M : mM} (h : mO M = "NineBars$Counter") : mFld M 58 4 4 0 := ⟨_, _, _, tyX4, rfl, by decide, by decide, rfl, uw_4, tyX4_ok, nmX4, by rw [h]; exact Or.inr ⟨_, tb_fl_Counter_58⟩⟩
theorem d_Counter_waysToOpen_152 : decode prog_3_method_7_code 152 = .ok (.getfield 58, 3) := by decide +kernel
theorem d_Counter_waysToOpen_155 : decode prog_3_method_7_code 155 = .ok (.invokevirtual 61, 3) := by decide +kernel
theorem d_Counter_waysToOpen_158 : decode prog_3_method_7_code 158 = .ok (.lreturn, 1) := by decide +kernel
theorem t_Counter_waysToOpen_J138 {G : mG} {r : mR} {v0 v1 v2 v3 v4 v5 v6 : Int} {h : mH} {R38 : mH → Int → Option mR} (hR38 : ∀ (h : mH) (w6 : Int) , R38 h w6 = some r → mJ G M_Counter_waysToOpen 38 [(2, v0), (2, v1), (2, v2), (0, v3), (0, v4), (0, v5), (0, w6), (9, 0), (9, 0)] [] h r) (hr : f_Counter_waysToOpen_J138 R38 v6 h = some r) : mJ G M_Counter_waysToOpen 138 [(2, v0), (2, v1), (2, v2), (0, v3), (0, v4), (0, v5), (0, v6), (9, 0), (9, 0)] [] h r := by
  unfold f_Counter_waysToOpen_J138 at hr
  refine j_iincW (pc := 138) (L := fun x1 => [(2, v0), (2, v1), (2, v2), (0, v3), (0, v4), (0, v5), (0, x1), (9, 0), (9, 0)]) d_Counter_waysToOpen_138 rfl (fun _ => rfl) hr (fun x1 hr => ?_)
  refine j_goto (pc := 141) (tgt := 38) d_Counter_waysToOpen_141 ?_
  exact mJ_weak (ls' := [(2, v0), (2, v1), (2, v2), (0, v3), (0, v4), (0, v5), (0, x1), (9, 0), (9, 0)]) (mwk_s (mwk_s (mwk_s (mwk_s (mwk_s (mwk_s (mwk_s (mwk_s (mwk_s mwk_n))))))))) (hR38 h _ hr)
theorem t_Counter_waysToOpen_J83 {G : mG} {r : mR} {v0 v1 v2 v3 v4 v5 v6 v7 s0 : Int} {h : mH} {R38 : mH → Int → Option mR} (hR38 : ∀ (h : mH) (w6 : Int) , R38 h w6 = some r → mJ G M_Counter_waysToOpen 38 [(2, v0), (2, v1), (2, v2), (0, v3), (0, v4), (0, v5), (0, w6), (9, 0), (9, 0)] [] h r) (hr : f_Counter_waysToOpen_J83 R38 v0 v2 v4 v6 v7 s0 h = some r) : mJ G M_Counter_waysToOpen 83 [(2, v0), (2, v1), (2, v2), (0, v3), (0, v4), (0, v5), (0, v6), (0, v7), (9, 0)] [(0, s0)] h r := by
  unfold f_Counter_waysToOpen_J83 at hr
  refine j_istore (pc := 83) (ls' := [(2, v0), (2, v1), (2, v2), (0, v3), (0, v4), (0, v5), (0, v6), (0, v7), (0, s0)]) d_Counter_waysToOpen_83 rfl ?_
  refine j_iload (pc := 85) d_Counter_waysToOpen_85 rfl ?_
  refine j_if_eq (pc := 87) (tgt := 138) d_Counter_waysToOpen_87 hr (fun hr => ?_) (fun hr => ?_)
  · exact mJ_weak (ls' := [(2, v0), (2, v1), (2, v2), (0, v3), (0, v4), (0, v5), (0, v6), (9, 0), (9, 0)]) (mwk_s (mwk_s (mwk_s (mwk_s (mwk_s (mwk_s (mwk_s (mwk_d (mwk_d mwk_n))))))))) (t_Counter_waysToOpen_J138 hR38 hr)
  · refine j_iload (pc := 90) d_Counter_waysToOpen_90 rfl ?_
    refine j_if_lt (pc := 92) (tgt := 138) d_Counter_waysToOpen_92 hr (fun hr => ?_) (fun hr => ?_)
    · exact mJ_weak (ls' := [(2, v0), (2, v1), (2, v2), (0, v3), (0, v4), (0, v5), (0, v6), (9, 0), (9, 0)]) (mwk_s (mwk_s (mwk_s (mwk_s (mwk_s (mwk_s (mwk_s (mwk_d (mwk_d mwk_n))))))))) (t_Counter_waysToOpen_J138 hR38 hr)
    · refine j_iload (pc := 95) d_Counter_waysToOpen_95 rfl ?_
      refine j_aload_n (pc := 97) d_Counter_waysToOpen_97 rfl ?_
      refine j_getf (pc := 98) d_Counter_waysToOpen_98 (fd_Counter_9 rfl) hr (fun hr => ?_)
      refine j_alen (pc := 101) d_Counter_waysToOpen_101 hr (fun hr => ?_)
      refine j_icmp_ge (pc := 102) (tgt := 138) d_Counter_waysToOpen_102 hr (fun hr => ?_) (fun hr => ?_)
      · exact mJ_weak (ls' := [(2, v0), (2, v1), (2, v2), (0, v3), (0, v4), (0, v5), (0, v6), (9, 0), (9, 0)]) (mwk_s (mwk_s (mwk_s (mwk_s (mwk_s (mwk_s (mwk_s (mwk_d (mwk_d mwk_n))))))))) (t_Counter_waysToOpen_J138 hR38 hr)
      · refine j_aload_n (pc := 105) d_Counter_waysToOpen_105 rfl ?_
        refine j_iload (pc := 106) d_Counter_waysToOpen_106 rfl ?_
        obtain ⟨ha, hr⟩ := chk_some hr
        refine j_callG (pc := 108) (stk := [(0, v7), (2, v2)]) (as := [(2, v2), (0, v7)]) (P := (fun v9 => ((0 : Nat), v9) :: [])) (tg := 0) (My := M_Paths_farOf) (mRunV (as := [(0, v7)]) (st := []) d_Counter_waysToOpen_108 (mc_Paths_farOf (by decide)) rfl (mv_Paths_farOf tb_ml_Counter_74) rfl (Nat.le_of_ble_eq_true rfl) ha) (fun v => rfl) rfl hr (fun r1 h1 => t_Paths_farOf _ _ _ _ h1) (fun x2 h1 hr => ?_)
        refine j_aload_n (pc := 111) d_Counter_waysToOpen_111 rfl ?_
        refine j_iload (pc := 112) d_Counter_waysToOpen_112 rfl ?_
        obtain ⟨ha, hr⟩ := chk_some hr
        refine j_callG (pc := 114) (stk := [(0, v4), (2, v2), (0, x2)]) (as := [(2, v2), (0, v4)]) (P := (fun v9 => ((0 : Nat), v9) :: [(0, x2)])) (tg := 0) (My := M_Paths_farOf) (mRunV (as := [(0, v4)]) (st := [(0, x2)]) d_Counter_waysToOpen_114 (mc_Paths_farOf (by decide)) rfl (mv_Paths_farOf tb_ml_Counter_74) rfl (Nat.le_of_ble_eq_true rfl) ha) (fun v => rfl) rfl hr (fun r1 h1 => t_Paths_farOf _ _ _ _ h1) (fun x4 h3 hr => ?_)
        refine j_iconst (pc := 117) d_Counter_waysToOpen_117 ?_
        refine j_iadd (pc := 118) d_Counter_waysToOpen_118 ?_
        refine j_icmp_ne (pc := 119) (tgt := 138) d_Counter_waysToOpen_119 hr (fun hr => ?_) (fun hr => ?_)
        · exact mJ_weak (ls' := [(2, v0), (2, v1), (2, v2), (0, v3), (0, v4), (0, v5), (0, v6), (9, 0), (9, 0)]) (mwk_s (mwk_s (mwk_s (mwk_s (mwk_s (mwk_s (mwk_s (mwk_d (mwk_d mwk_n))))))))) (t_Counter_waysToOpen_J138 hR38 hr)
        · refine j_aload_n (pc := 122) d_Counter_waysToOpen_122 rfl ?_
          refine j_getf (pc := 123) d_Counter_waysToOpen_123 (fd_Counter_9 rfl) hr (fun hr => ?_)
          refine j_iload (pc := 126) d_Counter_waysToOpen_126 rfl ?_
          refine j_dup2 (pc := 128) d_Counter_waysToOpen_128 ?_
          refine j_laload (pc := 129) d_Counter_waysToOpen_129 hr (fun hr => ?_)
          refine j_aload_n (pc := 130) d_Counter_waysToOpen_130 rfl ?_
          refine j_iload (pc := 131) d_Counter_waysToOpen_131 rfl ?_
          obtain ⟨ha, hr⟩ := chk_some hr
          refine j_callG (pc := 133) (stk := [(0, v4), (2, v0), (1, hpV h3 (hpV h3 v0 0) v7), (0, v7), (2, hpV h3 v0 0)]) (as := [(2, v0), (0, v4)]) (P := (fun v9 => ((1 : Nat), v9) :: [(1, hpV h3 (hpV h3 v0 0) v7), (0, v7), (2, hpV h3 v0 0)])) (tg := 1) (My := M_Counter_rowsAt) (mRunV (as := [(0, v4)]) (st := [(1, hpV h3 (hpV h3 v0 0) v7), (0, v7), (2, hpV h3 v0 0)]) d_Counter_waysToOpen_133 (mc_Counter_rowsAt (by decide)) rfl (mv_Counter_rowsAt tb_ml_Counter_61) rfl (Nat.le_of_ble_eq_true rfl) ha) (fun v => rfl) rfl hr (fun r1 h1 => t_Counter_rowsAt _ _ _ _ h1) (fun x6 h5 hr => ?_)
          refine j_ladd (pc := 136) d_Counter_waysToOpen_136 ?_
          refine j_lastore (pc := 137) d_Counter_waysToOpen_137 hr (fun h7 hr => ?_)
          exact mJ_weak (ls' := [(2, v0), (2, v1), (2, v2), (0, v3), (0, v4), (0, v5), (0, v6), (9, 0), (9, 0)]) (mwk_s (mwk_s (mwk_s (mwk_s (mwk_s (mwk_s (mwk_s (mwk_d (mwk_d mwk_n))))))))) (t_Counter_waysToOpen_J138 hR38 hr)
theorem t_Counter_waysToOpen_L38 {G : mG} {r : mR} {v0 v1 v2 v3 v4 v5 : Int} {K144 : mH → Option mR} (hK144 : ∀ (h : mH) , K144 h  = some r → mJ G M_Counter_waysToOpen 144 [(2, v0), (2, v1), (2, v2), (0, v3), (9, 0), (9, 0), (9, 0), (9, 0), (9, 0)] [] h r) : ∀ (n : Nat) (h : mH) (v6 : Int), f_Counter_waysToOpen_L38 K144 v0 v1 v2 v4 v5 n h v6 = some r → mJ G M_Counter_waysToOpen 38 [(2, v0), (2, v1), (2, v2), (0, v3), (0, v4), (0, v5), (0, v6), (9, 0), (9, 0)] [] h r := by
  intro n
  induction n with
  | zero =>
    intro h v6 hr
    rw [f_Counter_waysToOpen_L38] at hr
    cases hr
  | succ n hR38 =>
    intro h v6 hr
    rw [f_Counter_waysToOpen_L38] at hr
    refine j_iload (pc := 38) d_Counter_waysToOpen_38 rfl ?_
    refine j_aload_n (pc := 40) d_Counter_waysToOpen_40 rfl ?_
    refine j_getf (pc := 41) d_Counter_waysToOpen_41 (fd_Counter_32 rfl) hr (fun hr => ?_)
    refine j_icmp_ge (pc := 44) (tgt := 144) d_Counter_waysToOpen_44 hr (fun hr => ?_) (fun hr => ?_)
    · exact mJ_weak (ls' := [(2, v0), (2, v1), (2, v2), (0, v3), (9, 0), (9, 0), (9, 0), (9, 0), (9, 0)]) (mwk_s (mwk_s (mwk_s (mwk_s (mwk_d (mwk_d (mwk_d (mwk_s (mwk_s mwk_n))))))))) (hK144 h  hr)
    · refine j_iload (pc := 47) d_Counter_waysToOpen_47 rfl ?_
      refine j_iload (pc := 49) d_Counter_waysToOpen_49 rfl ?_
      refine j_ishr (pc := 51) d_Counter_waysToOpen_51 ?_
      refine j_if_eq (pc := 52) (tgt := 144) d_Counter_waysToOpen_52 hr (fun hr => ?_) (fun hr => ?_)
      · exact mJ_weak (ls' := [(2, v0), (2, v1), (2, v2), (0, v3), (9, 0), (9, 0), (9, 0), (9, 0), (9, 0)]) (mwk_s (mwk_s (mwk_s (mwk_s (mwk_d (mwk_d (mwk_d (mwk_s (mwk_s mwk_n))))))))) (hK144 h  hr)
      · refine j_iload (pc := 55) d_Counter_waysToOpen_55 rfl ?_
        refine j_aload_n (pc := 57) d_Counter_waysToOpen_57 rfl ?_
        refine j_getf (pc := 58) d_Counter_waysToOpen_58 (fd_Counter_35 rfl) hr (fun hr => ?_)
        refine j_iload (pc := 61) d_Counter_waysToOpen_61 rfl ?_
        refine j_iaload (pc := 63) d_Counter_waysToOpen_63 hr (fun hr => ?_)
        refine j_iadd (pc := 64) d_Counter_waysToOpen_64 ?_
        refine j_istoreW (pc := 65) (L := fun x1 => [(2, v0), (2, v1), (2, v2), (0, v3), (0, v4), (0, v5), (0, v6), (0, x1), (9, 0)]) d_Counter_waysToOpen_65 (fun _ => rfl) hr (fun x1 hr => ?_)
        refine j_iload (pc := 67) d_Counter_waysToOpen_67 rfl ?_
        refine j_iload (pc := 69) d_Counter_waysToOpen_69 rfl ?_
        refine j_ishr (pc := 71) d_Counter_waysToOpen_71 ?_
        refine j_iconst (pc := 72) d_Counter_waysToOpen_72 ?_
        refine j_iand (pc := 73) d_Counter_waysToOpen_73 ?_
        refine j_iconst (pc := 74) d_Counter_waysToOpen_74 ?_
        refine j_icmp_ne (pc := 75) (tgt := 82) d_Counter_waysToOpen_75 hr (fun hr => ?_) (fun hr => ?_)
        · refine j_iconst (pc := 82) d_Counter_waysToOpen_82 ?_
          exact mJ_weak (ls' := [(2, v0), (2, v1), (2, v2), (0, v3), (0, v4), (0, v5), (0, v6), (0, x1), (9, 0)]) (mwk_s (mwk_s (mwk_s (mwk_s (mwk_s (mwk_s (mwk_s (mwk_s (mwk_s mwk_n))))))))) (t_Counter_waysToOpen_J83 hR38 hr)
        · refine j_iconst (pc := 78) d_Counter_waysToOpen_78 ?_
          refine j_goto (pc := 79) (tgt := 83) d_Counter_waysToOpen_79 ?_
          exact mJ_weak (ls' := [(2, v0), (2, v1), (2, v2), (0, v3), (0, v4), (0, v5), (0, v6), (0, x1), (9, 0)]) (mwk_s (mwk_s (mwk_s (mwk_s (mwk_s (mwk_s (mwk_s (mwk_s (mwk_s mwk_n))))))))) (t_Counter_waysToOpen_J83 hR38 hr)
theorem t_Counter_waysToOpen_J144 {G : mG} {r : mR} {v0 v1 v2 v3 : Int} {h : mH} {R11 : mH → Int → Option mR} (hR11 : ∀ (h : mH) (w3 : Int) , R11 h w3 = some r → mJ G M_Counter_waysToOpen 11 [(2, v0), (2, v1), (2, v2), (0, w3), (9, 0), (9, 0), (9, 0), (9, 0), (9, 0)] [] h r) (hr : f_Counter_waysToOpen_J144 R11 v3 h = some r) : mJ G M_Counter_waysToOpen 144 [(2, v0), (2, v1), (2, v2), (0, v3), (9, 0), (9, 0), (9, 0), (9, 0), (9, 0)] [] h r := by
  unfold f_Counter_waysToOpen_J144 at hr
  refine j_iincW (pc := 144) (L := fun x1 => [(2, v0), (2, v1), (2, v2), (0, x1), (9, 0), (9, 0), (9, 0), (9, 0), (9, 0)]) d_Counter_waysToOpen_144 rfl (fun _ => rfl) hr (fun x1 hr => ?_)
  refine j_goto (pc := 147) (tgt := 11) d_Counter_waysToOpen_147 ?_
  exact mJ_weak (ls' := [(2, v0), (2, v1), (2, v2), (0, x1), (9, 0), (9, 0), (9, 0), (9, 0), (9, 0)]) (mwk_s (mwk_s (mwk_s (mwk_s (mwk_s (mwk_s (mwk_s (mwk_s (mwk_s mwk_n))))))))) (hR11 h _ hr)
theorem t_Counter_waysToOpen_L11 {G : mG} {r : mR} {v0 v1 v2 : Int} {K150 : mH → Option mR} (hK150 : ∀ (h : mH) , K150 h  = some r → mJ G M_Counter_waysToOpen 150 [(2, v0), (2, v1), (9, 0), (9, 0), (9, 0), (9, 0), (9, 0), (9, 0), (9, 0)] [] h r) : ∀ (n : Nat) (h : mH) (v3 : Int), f_Counter_waysToOpen_L11 K150 v0 v1 v2 n h v3 = some r → mJ G M_Counter_waysToOpen 11 [(2, v0), (2, v1), (2, v2), (0, v3), (9, 0), (9, 0), (9, 0), (9, 0), (9, 0)] [] h r := by
  intro n
  induction n with
  | zero =>
    intro h v3 hr
    rw [f_Counter_waysToOpen_L11] at hr
    cases hr
  | succ n hR11 =>
    intro h v3 hr
    rw [f_Counter_waysToOpen_L11] at hr
    refine j_iload_n (pc := 11) d_Counter_waysToOpen_11 rfl ?_
    refine j_aload_n (pc := 12) d_Counter_waysToOpen_12 rfl ?_
    refine j_getf (pc := 13) d_Counter_waysToOpen_13 (fd_Counter_70 rfl) hr (fun hr => ?_)
    refine j_icmp_ge (pc := 16) (tgt := 150) d_Counter_waysToOpen_16 hr (fun hr => ?_) (fun hr => ?_)
    · exact mJ_weak (ls' := [(2, v0), (2, v1), (9, 0), (9, 0), (9, 0), (9, 0), (9, 0), (9, 0), (9, 0)]) (mwk_s (mwk_s (mwk_d (mwk_d (mwk_s (mwk_s (mwk_s (mwk_s (mwk_s mwk_n))))))))) (hK150 h  hr)
    · refine j_aload_n (pc := 19) d_Counter_waysToOpen_19 rfl ?_
      refine j_getf (pc := 20) d_Counter_waysToOpen_20 (fd_Counter_71 rfl) hr (fun hr => ?_)
      refine j_iload_n (pc := 23) d_Counter_waysToOpen_23 rfl ?_
      refine j_iaload (pc := 24) d_Counter_waysToOpen_24 hr (fun hr => ?_)
      refine j_istoreW (pc := 25) (L := fun x1 => [(2, v0), (2, v1), (2, v2), (0, v3), (0, x1), (9, 0), (9, 0), (9, 0), (9, 0)]) d_Counter_waysToOpen_25 (fun _ => rfl) hr (fun x1 hr => ?_)
      refine j_aload_n (pc := 27) d_Counter_waysToOpen_27 rfl ?_
      refine j_iload (pc := 28) d_Counter_waysToOpen_28 rfl ?_
      obtain ⟨ha, hr⟩ := chk_some hr
      refine j_callG (pc := 30) (stk := [(0, x1), (2, v1)]) (as := [(2, v1), (0, x1)]) (P := (fun v9 => ((0 : Nat), v9) :: [])) (tg := 0) (My := M_Graph_stepsFrom) (mRunV (as := [(0, x1)]) (st := []) d_Counter_waysToOpen_30 (mc_Graph_stepsFrom (by decide)) rfl (mv_Graph_stepsFrom tb_ml_Counter_28) rfl (Nat.le_of_ble_eq_true rfl) ha) (fun v => rfl) rfl hr (fun r1 h1 => t_Graph_stepsFrom _ _ _ _ h1) (fun x3 h2 hr => ?_)
      refine j_istore (pc := 33) (ls' := [(2, v0), (2, v1), (2, v2), (0, v3), (0, x1), (0, x3), (9, 0), (9, 0), (9, 0)]) d_Counter_waysToOpen_33 rfl ?_
      refine j_iconst (pc := 35) d_Counter_waysToOpen_35 ?_
      refine j_istore (pc := 36) (ls' := [(2, v0), (2, v1), (2, v2), (0, v3), (0, x1), (0, x3), (0, 0), (9, 0), (9, 0)]) d_Counter_waysToOpen_36 rfl ?_
      refine mJ_weak (ls' := [(2, v0), (2, v1), (2, v2), (0, v3), (0, x1), (0, x3), (0, 0), (9, 0), (9, 0)]) (mwk_s (mwk_s (mwk_s (mwk_s (mwk_s (mwk_s (mwk_s (mwk_s (mwk_s mwk_n))))))))) (t_Counter_waysToOpen_L38 (fun h4  hr => ?_) _ _ _ hr)
      · exact mJ_weak (ls' := [(2, v0), (2, v1), (2, v2), (0, v3), (9, 0), (9, 0), (9, 0), (9, 0), (9, 0)]) (mwk_s (mwk_s (mwk_s (mwk_s (mwk_s (mwk_s (mwk_s (mwk_s (mwk_s mwk_n))))))))) (t_Counter_waysToOpen_J144 hR11 hr)
theorem t_Counter_waysToOpen {G : mG} (h : mH) (v0 v1 v2 : Int) (r : mR) (hr : f_Counter_waysToOpen h v0 v1 v2 = some r) : mJM G M_Counter_waysToOpen [(2, v0), (2, v1), (2, v2)] h r := by
  refine mJM_of (L := [(2, v0), (2, v1), (2, v2), (9, 0), (9, 0), (9, 0), (9, 0), (9, 0), (9, 0)]) rfl rfl rfl (Nat.le_of_ble_eq_true rfl) ?_
  unfold f_Counter_waysToOpen at hr
  refine j_aload_n (pc := 0) d_Counter_waysToOpen_0 rfl ?_
  refine j_aload_n (pc := 1) d_Counter_waysToOpen_1 rfl ?_
  refine j_aload_n (pc := 2) d_Counter_waysToOpen_2 rfl ?_
  refine j_getf (pc := 3) d_Counter_waysToOpen_3 (fd_Counter_65 rfl) hr (fun hr => ?_)
  obtain ⟨ha, hr⟩ := chk_some hr
  refine j_callG (pc := 6) (stk := [(0, hpV h v2 3), (2, v1), (2, v0)]) (as := [(2, v0), (2, v1), (0, hpV h v2 3)]) (P := (fun v9 => [])) (tg := 3) (My := M_Counter_begin) (mRunV (as := [(2, v1), (0, hpV h v2 3)]) (st := []) d_Counter_waysToOpen_6 (mc_Counter_begin (by decide)) rfl (mv_Counter_begin tb_ml_Counter_39) rfl (Nat.le_of_ble_eq_true rfl) ha) (fun v => rfl) rfl hr (fun r1 h1 => t_Counter_begin _ _ _ _ _ h1) (fun x2 h1 hr => ?_)
  refine j_iconst (pc := 9) d_Counter_waysToOpen_9 ?_
  refine j_istore_n (pc := 10) (ls' := [(2, v0), (2, v1), (2, v2), (0, 0), (9, 0), (9, 0), (9, 0), (9, 0), (9, 0)]) d_Counter_waysToOpen_10 rfl ?_
  refine mJ_weak (ls' := [(2, v0), (2, v1), (2, v2), (0, 0), (9, 0), (9, 0), (9, 0), (9, 0), (9, 0)]) (mwk_s (mwk_s (mwk_s (mwk_s (mwk_s (mwk_s (mwk_s (mwk_s (mwk_s mwk_n))))))))) (t_Counter_waysToOpen_L11 (fun h3  hr => ?_) _ _ _ hr)
  · refine j_aload_n (pc := 150) d_Counter_waysToOpen_150 rfl ?_
    refine j_aload_n (pc := 151) d_Counter_waysToOpen_151 rfl ?_
    refine j_getf (pc := 152) d_Counter_waysToOpen_152 (fd_Counter_58 rfl) hr (fun hr => ?_)
    obtain ⟨ha, hr⟩ := chk_some hr
    refine j_callG (pc := 155) (stk := [(0, hpV h3 v1 4), (2, v0)]) (as := [(2, v0), (0, hpV h3 v1 4)]) (P := (fun v9 => ((1 : Nat), v9) :: [])) (tg := 1) (My := M_Counter_rowsAt) (mRunV (as := [(0, hpV h3 v1 4)]) (st := []) d_Counter_waysToOpen_155 (mc_Counter_rowsAt (by decide)) rfl (mv_Counter_rowsAt tb_ml_Counter_61) rfl (Nat.le_of_ble_eq_true rfl) ha) (fun v => rfl) rfl hr (fun r1 h1 => t_Counter_rowsAt _ _ _ _ h1) (fun x5 h4 hr => ?_)
    exact j_lret (pc := 158) d_Counter_waysToOpen_158 rfl hr
def M_Nb_ways : mM := ("NineBars", ⟨"NineBars", "ways", "()J"⟩, prog_1_method_20_code, 1, some .long, [], 13)
theorem tb_co_Nb_ways : mTB (Cond.code ⟨"NineBars", "ways", "()J"⟩ prog_1_method_20_code 1 (some .long)) := tbq5 44 (by decide +kernel) rfl
theorem mc_Nb_ways {M : mM} (hd : 13 < mDp M) : mCal M M_Nb_ways 0 := ⟨tb_co_Nb_ways, tb_in_NineBars, ⟨by decide +kernel, by decide +kernel⟩, by decide +kernel, hd, by decide⟩
theorem d_Nb_ways_0 : decode prog_1_method_20_code 0 = .ok (.aload_n 0, 1) := by decide +kernel
theorem d_Nb_ways_1 : decode prog_1_method_20_code 1 = .ok (.invokevirtual 260, 3) := by decide +kernel
theorem d_Nb_ways_4 : decode prog_1_method_20_code 4 = .ok (.aload_n 0, 1) := by decide +kernel
theorem d_Nb_ways_5 : decode prog_1_method_20_code 5 = .ok (.getfield 70, 3) := by decide +kernel
theorem d_Nb_ways_8 : decode prog_1_method_20_code 8 = .ok (.aload_n 0, 1) := by decide +kernel
theorem d_Nb_ways_9 : decode prog_1_method_20_code 9 = .ok (.getfield 48, 3) := by decide +kernel
theorem d_Nb_ways_12 : decode prog_1_method_20_code 12 = .ok (.aload_n 0, 1) := by decide +kernel
theorem d_Nb_ways_13 : decode prog_1_method_20_code 13 = .ok (.invokevirtual 255, 3) := by decide +kernel
theorem d_Nb_ways_16 : decode prog_1_method_20_code 16 = .ok (.invokevirtual 277, 3) := by decide +kernel
theorem tb_ml_Nb_277 : mTB (Cond.methodLink "NineBars" 277 ⟨"NineBars$Counter", "waysToOpen", "(LNineBars$Graph;LNineBars$Paths;)J"⟩) := tbq5 45 (by decide +kernel) rfl
theorem tb_im_Counter_waysToOpen : mTB (Cond.instanceMethod ⟨"NineBars$Counter", "waysToOpen", "(LNineBars$Graph;LNineBars$Paths;)J"⟩) := tbq5 46 (by decide +kernel) rfl
theorem tb_se_Counter_waysToOpen : mTB (Cond.selects "NineBars$Counter" ⟨"NineBars$Counter", "waysToOpen", "(LNineBars$Graph;LNineBars$Paths;)J"⟩ ⟨"NineBars$Counter", "waysToOpen", "(LNineBars$Graph;LNineBars$Paths;)J"⟩) := tbq5 47 (by decide +kernel) rfl
theorem mv_Counter_waysToOpen {M : mM} {idx : Nat} (h : mTB (Cond.methodLink (mO M) idx ⟨"NineBars$Counter", "waysToOpen", "(LNineBars$Graph;LNineBars$Paths;)J"⟩)) : mCaV M M_Counter_waysToOpen idx 1 := ⟨h, tb_im_Counter_waysToOpen, tb_se_Counter_waysToOpen, by decide, TX1, 2, rfl⟩
theorem d_Nb_ways_19 : decode prog_1_method_20_code 19 = .ok (.lreturn, 1) := by decide +kernel
theorem t_Nb_ways {G : mG} (h : mH) (v0 : Int) (r : mR) (hr : f_Nb_ways h v0 = some r) : mJM G M_Nb_ways [(2, v0)] h r := by
  refine mJM_of (L := [(2, v0)]) rfl rfl rfl (Nat.le_of_ble_eq_true rfl) ?_
  unfold f_Nb_ways at hr
  refine j_aload_n (pc := 0) d_Nb_ways_0 rfl ?_
  obtain ⟨ha, hr⟩ := chk_some hr
  refine j_callG (pc := 1) (stk := [(2, v0)]) (as := [(2, v0)]) (P := (fun v9 => [])) (tg := 3) (My := M_Nb_needGraph) (mRunV (as := []) (st := []) d_Nb_ways_1 (mc_Nb_needGraph (by decide)) rfl (mv_Nb_needGraph tb_ml_Nb_260) rfl (Nat.le_of_ble_eq_true rfl) ha) (fun v => rfl) rfl hr (fun r1 h1 => t_Nb_needGraph _ _ _ h1) (fun x2 h1 hr => ?_)
  refine j_aload_n (pc := 4) d_Nb_ways_4 rfl ?_
  refine j_getf (pc := 5) d_Nb_ways_5 (fd_Nb_70 rfl) hr (fun hr => ?_)
  refine j_aload_n (pc := 8) d_Nb_ways_8 rfl ?_
  refine j_getf (pc := 9) d_Nb_ways_9 (fd_Nb_48 rfl) hr (fun hr => ?_)
  refine j_aload_n (pc := 12) d_Nb_ways_12 rfl ?_
  obtain ⟨ha, hr⟩ := chk_some hr
  refine j_callG (pc := 13) (stk := [(2, v0), (2, hpV h1 v0 10), (2, hpV h1 v0 14)]) (as := [(2, v0)]) (P := (fun v9 => ((2 : Nat), v9) :: [(2, hpV h1 v0 10), (2, hpV h1 v0 14)])) (tg := 2) (My := M_Nb_fromNow) (mRunV (as := []) (st := [(2, hpV h1 v0 10), (2, hpV h1 v0 14)]) d_Nb_ways_13 (mc_Nb_fromNow (by decide)) rfl (mv_Nb_fromNow tb_ml_Nb_255) rfl (Nat.le_of_ble_eq_true rfl) ha) (fun v => rfl) rfl hr (fun r1 h1 => t_Nb_fromNow _ _ _ h1) (fun x4 h3 hr => ?_)
  obtain ⟨ha, hr⟩ := chk_some hr
  refine j_callG (pc := 16) (stk := [(2, x4), (2, hpV h1 v0 10), (2, hpV h1 v0 14)]) (as := [(2, hpV h1 v0 14), (2, hpV h1 v0 10), (2, x4)]) (P := (fun v9 => ((1 : Nat), v9) :: [])) (tg := 1) (My := M_Counter_waysToOpen) (mRunV (as := [(2, hpV h1 v0 10), (2, x4)]) (st := []) d_Nb_ways_16 (mc_Counter_waysToOpen (by decide)) rfl (mv_Counter_waysToOpen tb_ml_Nb_277) rfl (Nat.le_of_ble_eq_true rfl) ha) (fun v => rfl) rfl hr (fun r1 h1 => t_Counter_waysToOpen _ _ _ _ _ h1) (fun x6 h5 hr => ?_)
  exact j_lret (pc := 19) d_Nb_ways_19 rfl hr
def M_Paths_farthestStand : mM := ("NineBars$Paths", ⟨"NineBars$Paths", "farthestStand", "()I"⟩, prog_9_method_10_code, 4, some .int, [], 3)
theorem tb_co_Paths_farthestStand : mTB (Cond.code ⟨"NineBars$Paths", "farthestStand", "()I"⟩ prog_9_method_10_code 4 (some .int)) := tbq5 73 (by decide +kernel) rfl
theorem mc_Paths_farthestStand {M : mM} (hd : 3 < mDp M) : mCal M M_Paths_farthestStand 0 := ⟨tb_co_Paths_farthestStand, tb_in_NineBars_Paths, ⟨by decide +kernel, by decide +kernel⟩, by decide +kernel, hd, by decide⟩
theorem d_Paths_farthestStand_0 : decode prog_9_method_10_code 0 = .ok (.iconst (-1), 1) := by decide +kernel
theorem d_Paths_farthestStand_1 : decode prog_9_method_10_code 1 = .ok (.istore_n 1, 1) := by decide +kernel
theorem d_Paths_farthestStand_2 : decode prog_9_method_10_code 2 = .ok (.iconst 0, 1) := by decide +kernel
theorem d_Paths_farthestStand_3 : decode prog_9_method_10_code 3 = .ok (.istore_n 2, 1) := by decide +kernel
theorem d_Paths_farthestStand_4 : decode prog_9_method_10_code 4 = .ok (.iload_n 2, 1) := by decide +kernel
theorem d_Paths_farthestStand_5 : decode prog_9_method_10_code 5 = .ok (.aload_n 0, 1) := by decide +kernel
theorem d_Paths_farthestStand_6 : decode prog_9_method_10_code 6 = .ok (.getfield 50, 3) := by decide +kernel
theorem d_Paths_farthestStand_9 : decode prog_9_method_10_code 9 = .ok (.if_icmp .ge 49, 3) := by decide +kernel
theorem d_Paths_farthestStand_58 : decode prog_9_method_10_code 58 = .ok (.iload_n 1, 1) := by decide +kernel
theorem d_Paths_farthestStand_59 : decode prog_9_method_10_code 59 = .ok (.ireturn, 1) := by decide +kernel
theorem d_Paths_farthestStand_12 : decode prog_9_method_10_code 12 = .ok (.aload_n 0, 1) := by decide +kernel
theorem d_Paths_farthestStand_13 : decode prog_9_method_10_code 13 = .ok (.getfield 25, 3) := by decide +kernel
theorem d_Paths_farthestStand_16 : decode prog_9_method_10_code 16 = .ok (.iload_n 2, 1) := by decide +kernel
theorem d_Paths_farthestStand_17 : decode prog_9_method_10_code 17 = .ok (.iaload, 1) := by decide +kernel
theorem d_Paths_farthestStand_18 : decode prog_9_method_10_code 18 = .ok (.istore_n 3, 1) := by decide +kernel
theorem d_Paths_farthestStand_19 : decode prog_9_method_10_code 19 = .ok (.aload_n 0, 1) := by decide +kernel
theorem d_Paths_farthestStand_20 : decode prog_9_method_10_code 20 = .ok (.iload_n 3, 1) := by decide +kernel
theorem d_Paths_farthestStand_21 : decode prog_9_method_10_code 21 = .ok (.invokevirtual 53, 3) := by decide +kernel
theorem d_Paths_farthestStand_24 : decode prog_9_method_10_code 24 = .ok (.aload_n 0, 1) := by decide +kernel
theorem d_Paths_farthestStand_25 : decode prog_9_method_10_code 25 = .ok (.iload_n 1, 1) := by decide +kernel
theorem d_Paths_farthestStand_26 : decode prog_9_method_10_code 26 = .ok (.invokevirtual 53, 3) := by decide +kernel
theorem d_Paths_farthestStand_29 : decode prog_9_method_10_code 29 = .ok (.if_icmp .gt 21, 3) := by decide +kernel
theorem d_Paths_farthestStand_50 : decode prog_9_method_10_code 50 = .ok (.iload_n 3, 1) := by decide +kernel
theorem d_Paths_farthestStand_51 : decode prog_9_method_10_code 51 = .ok (.istore_n 1, 1) := by decide +kernel
theorem d_Paths_farthestStand_52 : decode prog_9_method_10_code 52 = .ok (.iinc 2 1, 3) := by decide +kernel
theorem d_Paths_farthestStand_55 : decode prog_9_method_10_code 55 = .ok (.goto (-51), 3) := by decide +kernel
theorem d_Paths_farthestStand_32 : decode prog_9_method_10_code 32 = .ok (.aload_n 0, 1) := by decide +kernel
theorem d_Paths_farthestStand_33 : decode prog_9_method_10_code 33 = .ok (.iload_n 3, 1) := by decide +kernel
theorem d_Paths_farthestStand_34 : decode prog_9_method_10_code 34 = .ok (.invokevirtual 53, 3) := by decide +kernel
theorem d_Paths_farthestStand_37 : decode prog_9_method_10_code 37 = .ok (.aload_n 0, 1) := by decide +kernel
theorem d_Paths_farthestStand_38 : decode prog_9_method_10_code 38 = .ok (.iload_n 1, 1) := by decide +kernel
theorem d_Paths_farthestStand_39 : decode prog_9_method_10_code 39 = .ok (.invokevirtual 53, 3) := by decide +kernel
theorem d_Paths_farthestStand_42 : decode prog_9_method_10_code 42 = .ok (.if_icmp .ne 10, 3) := by decide +kernel
theorem d_Paths_farthestStand_45 : decode prog_9_method_10_code 45 = .ok (.iload_n 3, 1) := by decide +kernel
theorem d_Paths_farthestStand_46 : decode prog_9_method_10_code 46 = .ok (.iload_n 1, 1) := by decide +kernel
theorem d_Paths_farthestStand_47 : decode prog_9_method_10_code 47 = .ok (.if_icmp .ge 5, 3) := by decide +kernel
theorem t_Paths_farthestStand_J52 {G : mG} {r : mR} {v0 v1 v2 : Int} {h : mH} {R4 : mH → Int → Int → Option mR} (hR4 : ∀ (h : mH) (w1 w2 : Int) , R4 h w1 w2 = some r → mJ G M_Paths_farthestStand 4 [(2, v0), (0, w1), (0, w2), (9, 0)] [] h r) (hr : f_Paths_farthestStand_J52 R4 v1 v2 h = some r) : mJ G M_Paths_farthestStand 52 [(2, v0), (0, v1), (0, v2), (9, 0)] [] h r := by
  unfold f_Paths_farthestStand_J52 at hr
  refine j_iincW (pc := 52) (L := fun x1 => [(2, v0), (0, v1), (0, x1), (9, 0)]) d_Paths_farthestStand_52 rfl (fun _ => rfl) hr (fun x1 hr => ?_)
  refine j_goto (pc := 55) (tgt := 4) d_Paths_farthestStand_55 ?_
  exact mJ_weak (ls' := [(2, v0), (0, v1), (0, x1), (9, 0)]) (mwk_s (mwk_s (mwk_s (mwk_s mwk_n)))) (hR4 h _ _ hr)
theorem t_Paths_farthestStand_J50 {G : mG} {r : mR} {v0 v2 v3 : Int} {h : mH} {R4 : mH → Int → Int → Option mR} (hR4 : ∀ (h : mH) (w1 w2 : Int) , R4 h w1 w2 = some r → mJ G M_Paths_farthestStand 4 [(2, v0), (0, w1), (0, w2), (9, 0)] [] h r) (hr : f_Paths_farthestStand_J50 R4 v2 v3 h = some r) : mJ G M_Paths_farthestStand 50 [(2, v0), (9, 0), (0, v2), (0, v3)] [] h r := by
  unfold f_Paths_farthestStand_J50 at hr
  refine j_iload_n (pc := 50) d_Paths_farthestStand_50 rfl ?_
  refine j_istore_n (pc := 51) (ls' := [(2, v0), (0, v3), (0, v2), (0, v3)]) d_Paths_farthestStand_51 rfl ?_
  exact mJ_weak (ls' := [(2, v0), (0, v3), (0, v2), (9, 0)]) (mwk_s (mwk_s (mwk_s (mwk_d mwk_n)))) (t_Paths_farthestStand_J52 hR4 hr)
theorem t_Paths_farthestStand_L4 {G : mG} {r : mR} {v0 : Int}  : ∀ (n : Nat) (h : mH) (v1 v2 : Int), f_Paths_farthestStand_L4 v0 n h v1 v2 = some r → mJ G M_Paths_farthestStand 4 [(2, v0), (0, v1), (0, v2), (9, 0)] [] h r := by
  intro n
  induction n with
  | zero =>
    intro h v1 v2 hr
    rw [f_Paths_farthestStand_L4] at hr
    cases hr
  | succ n hR4 =>
    intro h v1 v2 hr
    rw [f_Paths_farthestStand_L4] at hr
    refine j_iload_n (pc := 4) d_Paths_farthestStand_4 rfl ?_
    refine j_aload_n (pc := 5) d_Paths_farthestStand_5 rfl ?_
    refine j_getf (pc := 6) d_Paths_farthestStand_6 (fd_Paths_50 rfl) hr (fun hr => ?_)
    refine j_icmp_ge (pc := 9) (tgt := 58) d_Paths_farthestStand_9 hr (fun hr => ?_) (fun hr => ?_)
    · refine j_iload_n (pc := 58) d_Paths_farthestStand_58 rfl ?_
      exact j_iret (pc := 59) d_Paths_farthestStand_59 rfl hr
    · refine j_aload_n (pc := 12) d_Paths_farthestStand_12 rfl ?_
      refine j_getf (pc := 13) d_Paths_farthestStand_13 (fd_Paths_25 rfl) hr (fun hr => ?_)
      refine j_iload_n (pc := 16) d_Paths_farthestStand_16 rfl ?_
      refine j_iaload (pc := 17) d_Paths_farthestStand_17 hr (fun hr => ?_)
      refine j_istoreW_n (pc := 18) (L := fun x1 => [(2, v0), (0, v1), (0, v2), (0, x1)]) d_Paths_farthestStand_18 (fun _ => rfl) hr (fun x1 hr => ?_)
      refine j_aload_n (pc := 19) d_Paths_farthestStand_19 rfl ?_
      refine j_iload_n (pc := 20) d_Paths_farthestStand_20 rfl ?_
      obtain ⟨ha, hr⟩ := chk_some hr
      refine j_callG (pc := 21) (stk := [(0, x1), (2, v0)]) (as := [(2, v0), (0, x1)]) (P := (fun v9 => ((0 : Nat), v9) :: [])) (tg := 0) (My := M_Paths_farOf) (mRunV (as := [(0, x1)]) (st := []) d_Paths_farthestStand_21 (mc_Paths_farOf (by decide)) rfl (mv_Paths_farOf tb_ml_Paths_53) rfl (Nat.le_of_ble_eq_true rfl) ha) (fun v => rfl) rfl hr (fun r1 h1 => t_Paths_farOf _ _ _ _ h1) (fun x3 h2 hr => ?_)
      refine j_aload_n (pc := 24) d_Paths_farthestStand_24 rfl ?_
      refine j_iload_n (pc := 25) d_Paths_farthestStand_25 rfl ?_
      obtain ⟨ha, hr⟩ := chk_some hr
      refine j_callG (pc := 26) (stk := [(0, v1), (2, v0), (0, x3)]) (as := [(2, v0), (0, v1)]) (P := (fun v9 => ((0 : Nat), v9) :: [(0, x3)])) (tg := 0) (My := M_Paths_farOf) (mRunV (as := [(0, v1)]) (st := [(0, x3)]) d_Paths_farthestStand_26 (mc_Paths_farOf (by decide)) rfl (mv_Paths_farOf tb_ml_Paths_53) rfl (Nat.le_of_ble_eq_true rfl) ha) (fun v => rfl) rfl hr (fun r1 h1 => t_Paths_farOf _ _ _ _ h1) (fun x5 h4 hr => ?_)
      refine j_icmp_gt (pc := 29) (tgt := 50) d_Paths_farthestStand_29 hr (fun hr => ?_) (fun hr => ?_)
      · exact mJ_weak (ls' := [(2, v0), (9, 0), (0, v2), (0, x1)]) (mwk_s (mwk_d (mwk_s (mwk_s mwk_n)))) (t_Paths_farthestStand_J50 hR4 hr)
      · refine j_aload_n (pc := 32) d_Paths_farthestStand_32 rfl ?_
        refine j_iload_n (pc := 33) d_Paths_farthestStand_33 rfl ?_
        obtain ⟨ha, hr⟩ := chk_some hr
        refine j_callG (pc := 34) (stk := [(0, x1), (2, v0)]) (as := [(2, v0), (0, x1)]) (P := (fun v9 => ((0 : Nat), v9) :: [])) (tg := 0) (My := M_Paths_farOf) (mRunV (as := [(0, x1)]) (st := []) d_Paths_farthestStand_34 (mc_Paths_farOf (by decide)) rfl (mv_Paths_farOf tb_ml_Paths_53) rfl (Nat.le_of_ble_eq_true rfl) ha) (fun v => rfl) rfl hr (fun r1 h1 => t_Paths_farOf _ _ _ _ h1) (fun x7 h6 hr => ?_)
        refine j_aload_n (pc := 37) d_Paths_farthestStand_37 rfl ?_
        refine j_iload_n (pc := 38) d_Paths_farthestStand_38 rfl ?_
        obtain ⟨ha, hr⟩ := chk_some hr
        refine j_callG (pc := 39) (stk := [(0, v1), (2, v0), (0, x7)]) (as := [(2, v0), (0, v1)]) (P := (fun v9 => ((0 : Nat), v9) :: [(0, x7)])) (tg := 0) (My := M_Paths_farOf) (mRunV (as := [(0, v1)]) (st := [(0, x7)]) d_Paths_farthestStand_39 (mc_Paths_farOf (by decide)) rfl (mv_Paths_farOf tb_ml_Paths_53) rfl (Nat.le_of_ble_eq_true rfl) ha) (fun v => rfl) rfl hr (fun r1 h1 => t_Paths_farOf _ _ _ _ h1) (fun x9 h8 hr => ?_)
        refine j_icmp_ne (pc := 42) (tgt := 52) d_Paths_farthestStand_42 hr (fun hr => ?_) (fun hr => ?_)
        · exact mJ_weak (ls' := [(2, v0), (0, v1), (0, v2), (9, 0)]) (mwk_s (mwk_s (mwk_s (mwk_d mwk_n)))) (t_Paths_farthestStand_J52 hR4 hr)
        · refine j_iload_n (pc := 45) d_Paths_farthestStand_45 rfl ?_
          refine j_iload_n (pc := 46) d_Paths_farthestStand_46 rfl ?_
          refine j_icmp_ge (pc := 47) (tgt := 52) d_Paths_farthestStand_47 hr (fun hr => ?_) (fun hr => ?_)
          · exact mJ_weak (ls' := [(2, v0), (0, v1), (0, v2), (9, 0)]) (mwk_s (mwk_s (mwk_s (mwk_d mwk_n)))) (t_Paths_farthestStand_J52 hR4 hr)
          · exact mJ_weak (ls' := [(2, v0), (9, 0), (0, v2), (0, x1)]) (mwk_s (mwk_d (mwk_s (mwk_s mwk_n)))) (t_Paths_farthestStand_J50 hR4 hr)
theorem t_Paths_farthestStand {G : mG} (h : mH) (v0 : Int) (r : mR) (hr : f_Paths_farthestStand h v0 = some r) : mJM G M_Paths_farthestStand [(2, v0)] h r := by
  refine mJM_of (L := [(2, v0), (9, 0), (9, 0), (9, 0)]) rfl rfl rfl (Nat.le_of_ble_eq_true rfl) ?_
  unfold f_Paths_farthestStand at hr
  refine j_iconst (pc := 0) d_Paths_farthestStand_0 ?_
  refine j_istore_n (pc := 1) (ls' := [(2, v0), (0, (-1)), (9, 0), (9, 0)]) d_Paths_farthestStand_1 rfl ?_
  refine j_iconst (pc := 2) d_Paths_farthestStand_2 ?_
  refine j_istore_n (pc := 3) (ls' := [(2, v0), (0, (-1)), (0, 0), (9, 0)]) d_Paths_farthestStand_3 rfl ?_
  refine mJ_weak (ls' := [(2, v0), (0, (-1)), (0, 0), (9, 0)]) (mwk_s (mwk_s (mwk_s (mwk_s mwk_n)))) (t_Paths_farthestStand_L4  _ _ _ _ hr)
def M_Nb_farthest : mM := ("NineBars", ⟨"NineBars", "farthest", "(I)I"⟩, prog_1_method_21_code, 4, some .int, [], 13)
theorem tb_co_Nb_farthest : mTB (Cond.code ⟨"NineBars", "farthest", "(I)I"⟩ prog_1_method_21_code 4 (some .int)) := tbq5 68 (by decide +kernel) rfl
theorem mc_Nb_farthest {M : mM} (hd : 13 < mDp M) : mCal M M_Nb_farthest 1 := ⟨tb_co_Nb_farthest, tb_in_NineBars, ⟨by decide +kernel, by decide +kernel⟩, by decide +kernel, hd, by decide⟩
theorem d_Nb_farthest_0 : decode prog_1_method_21_code 0 = .ok (.aload_n 0, 1) := by decide +kernel
theorem d_Nb_farthest_1 : decode prog_1_method_21_code 1 = .ok (.invokevirtual 260, 3) := by decide +kernel
theorem d_Nb_farthest_4 : decode prog_1_method_21_code 4 = .ok (.iload_n 1, 1) := by decide +kernel
theorem d_Nb_farthest_5 : decode prog_1_method_21_code 5 = .ok (.ifCond .eq 19, 3) := by decide +kernel
theorem d_Nb_farthest_24 : decode prog_1_method_21_code 24 = .ok (.aload_n 0, 1) := by decide +kernel
theorem d_Nb_farthest_25 : decode prog_1_method_21_code 25 = .ok (.invokevirtual 255, 3) := by decide +kernel
theorem d_Nb_farthest_28 : decode prog_1_method_21_code 28 = .ok (.astore_n 2, 1) := by decide +kernel
theorem d_Nb_farthest_29 : decode prog_1_method_21_code 29 = .ok (.aload_n 2, 1) := by decide +kernel
theorem d_Nb_farthest_30 : decode prog_1_method_21_code 30 = .ok (.invokevirtual 283, 3) := by decide +kernel
theorem tb_ml_Nb_283 : mTB (Cond.methodLink "NineBars" 283 ⟨"NineBars$Paths", "farthestStand", "()I"⟩) := tbq5 70 (by decide +kernel) rfl
theorem tb_im_Paths_farthestStand : mTB (Cond.instanceMethod ⟨"NineBars$Paths", "farthestStand", "()I"⟩) := tbq5 71 (by decide +kernel) rfl
theorem tb_se_Paths_farthestStand : mTB (Cond.selects "NineBars$Paths" ⟨"NineBars$Paths", "farthestStand", "()I"⟩ ⟨"NineBars$Paths", "farthestStand", "()I"⟩) := tbq5 72 (by decide +kernel) rfl
theorem mv_Paths_farthestStand {M : mM} {idx : Nat} (h : mTB (Cond.methodLink (mO M) idx ⟨"NineBars$Paths", "farthestStand", "()I"⟩)) : mCaV M M_Paths_farthestStand idx 7 := ⟨h, tb_im_Paths_farthestStand, tb_se_Paths_farthestStand, by decide, TX7, 7, rfl⟩
theorem d_Nb_farthest_33 : decode prog_1_method_21_code 33 = .ok (.istore_n 3, 1) := by decide +kernel
theorem d_Nb_farthest_34 : decode prog_1_method_21_code 34 = .ok (.iload_n 1, 1) := by decide +kernel
theorem d_Nb_farthest_35 : decode prog_1_method_21_code 35 = .ok (.ifCond .ne 11, 3) := by decide +kernel
theorem d_Nb_farthest_46 : decode prog_1_method_21_code 46 = .ok (.iload_n 3, 1) := by decide +kernel
theorem d_Nb_farthest_47 : decode prog_1_method_21_code 47 = .ok (.ireturn, 1) := by decide +kernel
theorem d_Nb_farthest_38 : decode prog_1_method_21_code 38 = .ok (.aload_n 2, 1) := by decide +kernel
theorem d_Nb_farthest_39 : decode prog_1_method_21_code 39 = .ok (.iload_n 3, 1) := by decide +kernel
theorem d_Nb_farthest_40 : decode prog_1_method_21_code 40 = .ok (.invokevirtual 263, 3) := by decide +kernel
theorem d_Nb_farthest_43 : decode prog_1_method_21_code 43 = .ok (.goto 4, 3) := by decide +kernel
theorem d_Nb_farthest_8 : decode prog_1_method_21_code 8 = .ok (.iload_n 1, 1) := by decide +kernel
theorem d_Nb_farthest_9 : decode prog_1_method_21_code 9 = .ok (.iconst 1, 1) := by decide +kernel
theorem d_Nb_farthest_10 : decode prog_1_method_21_code 10 = .ok (.if_icmp .eq 14, 3) := by decide +kernel
theorem d_Nb_farthest_13 : decode prog_1_method_21_code 13 = .ok (.new 109, 3) := by decide +kernel
theorem d_Nb_farthest_16 : decode prog_1_method_21_code 16 = .ok (.dup, 1) := by decide +kernel
theorem d_Nb_farthest_17 : decode prog_1_method_21_code 17 = .ok (.ldc_w 281, 3) := by decide +kernel
theorem d_Nb_farthest_20 : decode prog_1_method_21_code 20 = .ok (.invokespecial 113, 3) := by decide +kernel
theorem d_Nb_farthest_23 : decode prog_1_method_21_code 23 = .ok (.athrow, 1) := by decide +kernel
theorem t_Nb_farthest_J24 {G : mG} {r : mR} {v0 v1 : Int} {h : mH}  (hr : f_Nb_farthest_J24 v0 v1 h = some r) : mJ G M_Nb_farthest 24 [(2, v0), (0, v1), (9, 0), (9, 0)] [] h r := by
  unfold f_Nb_farthest_J24 at hr
  refine j_aload_n (pc := 24) d_Nb_farthest_24 rfl ?_
  obtain ⟨ha, hr⟩ := chk_some hr
  refine j_callG (pc := 25) (stk := [(2, v0)]) (as := [(2, v0)]) (P := (fun v9 => ((2 : Nat), v9) :: [])) (tg := 2) (My := M_Nb_fromNow) (mRunV (as := []) (st := []) d_Nb_farthest_25 (mc_Nb_fromNow (by decide)) rfl (mv_Nb_fromNow tb_ml_Nb_255) rfl (Nat.le_of_ble_eq_true rfl) ha) (fun v => rfl) rfl hr (fun r1 h1 => t_Nb_fromNow _ _ _ h1) (fun x2 h1 hr => ?_)
  refine j_astore_n (pc := 28) (ls' := [(2, v0), (0, v1), (2, x2), (9, 0)]) d_Nb_farthest_28 rfl ?_
  refine j_aload_n (pc := 29) d_Nb_farthest_29 rfl ?_
  obtain ⟨ha, hr⟩ := chk_some hr
  refine j_callG (pc := 30) (stk := [(2, x2)]) (as := [(2, x2)]) (P := (fun v9 => ((0 : Nat), v9) :: [])) (tg := 0) (My := M_Paths_farthestStand) (mRunV (as := []) (st := []) d_Nb_farthest_30 (mc_Paths_farthestStand (by decide)) rfl (mv_Paths_farthestStand tb_ml_Nb_283) rfl (Nat.le_of_ble_eq_true rfl) ha) (fun v => rfl) rfl hr (fun r1 h1 => t_Paths_farthestStand _ _ _ h1) (fun x4 h3 hr => ?_)
  refine j_istore_n (pc := 33) (ls' := [(2, v0), (0, v1), (2, x2), (0, x4)]) d_Nb_farthest_33 rfl ?_
  refine j_iload_n (pc := 34) d_Nb_farthest_34 rfl ?_
  refine j_if_ne (pc := 35) (tgt := 46) d_Nb_farthest_35 hr (fun hr => ?_) (fun hr => ?_)
  · refine j_iload_n (pc := 46) d_Nb_farthest_46 rfl ?_
    exact j_iret (pc := 47) d_Nb_farthest_47 rfl hr
  · refine j_aload_n (pc := 38) d_Nb_farthest_38 rfl ?_
    refine j_iload_n (pc := 39) d_Nb_farthest_39 rfl ?_
    obtain ⟨ha, hr⟩ := chk_some hr
    refine j_callG (pc := 40) (stk := [(0, x4), (2, x2)]) (as := [(2, x2), (0, x4)]) (P := (fun v9 => ((0 : Nat), v9) :: [])) (tg := 0) (My := M_Paths_farOf) (mRunV (as := [(0, x4)]) (st := []) d_Nb_farthest_40 (mc_Paths_farOf (by decide)) rfl (mv_Paths_farOf tb_ml_Nb_263) rfl (Nat.le_of_ble_eq_true rfl) ha) (fun v => rfl) rfl hr (fun r1 h1 => t_Paths_farOf _ _ _ _ h1) (fun x6 h5 hr => ?_)
    refine j_goto (pc := 43) (tgt := 47) d_Nb_farthest_43 ?_
    exact j_iret (pc := 47) d_Nb_farthest_47 rfl hr
theorem t_Nb_farthest {G : mG} (h : mH) (v0 v1 : Int) (r : mR) (hr : f_Nb_farthest h v0 v1 = some r) : mJM G M_Nb_farthest [(2, v0), (0, v1)] h r := by
  refine mJM_of (L := [(2, v0), (0, v1), (9, 0), (9, 0)]) rfl rfl rfl (Nat.le_of_ble_eq_true rfl) ?_
  unfold f_Nb_farthest at hr
  refine j_aload_n (pc := 0) d_Nb_farthest_0 rfl ?_
  obtain ⟨ha, hr⟩ := chk_some hr
  refine j_callG (pc := 1) (stk := [(2, v0)]) (as := [(2, v0)]) (P := (fun v9 => [])) (tg := 3) (My := M_Nb_needGraph) (mRunV (as := []) (st := []) d_Nb_farthest_1 (mc_Nb_needGraph (by decide)) rfl (mv_Nb_needGraph tb_ml_Nb_260) rfl (Nat.le_of_ble_eq_true rfl) ha) (fun v => rfl) rfl hr (fun r1 h1 => t_Nb_needGraph _ _ _ h1) (fun x2 h1 hr => ?_)
  refine j_iload_n (pc := 4) d_Nb_farthest_4 rfl ?_
  refine j_if_eq (pc := 5) (tgt := 24) d_Nb_farthest_5 hr (fun hr => ?_) (fun hr => ?_)
  · exact mJ_weak (ls' := [(2, v0), (0, v1), (9, 0), (9, 0)]) (mwk_s (mwk_s (mwk_s (mwk_s mwk_n)))) (t_Nb_farthest_J24  hr)
  · refine j_iload_n (pc := 8) d_Nb_farthest_8 rfl ?_
    refine j_iconst (pc := 9) d_Nb_farthest_9 ?_
    refine j_icmp_eq (pc := 10) (tgt := 24) d_Nb_farthest_10 hr (fun hr => ?_) (fun hr => ?_)
    · exact mJ_weak (ls' := [(2, v0), (0, v1), (9, 0), (9, 0)]) (mwk_s (mwk_s (mwk_s (mwk_s mwk_n)))) (t_Nb_farthest_J24  hr)
    · exact j_throwW (pc := 13) (x9 := 7) (text := "what is 0 or 1") (k := 22) d_Nb_farthest_13 d_Nb_farthest_16 d_Nb_farthest_17 d_Nb_farthest_20 d_Nb_farthest_23 rfl (by decide +kernel) tb_cl_Nb_109 tb_in_java_lang_IllegalArgumentException (by decide +kernel) rfl (Nat.le_of_ble_eq_true rfl) hr
def M_Paths_manyWithin : mM := ("NineBars$Paths", ⟨"NineBars$Paths", "manyWithin", "(I)I"⟩, prog_9_method_11_code, 3, some .int, [], 3)
theorem tb_co_Paths_manyWithin : mTB (Cond.code ⟨"NineBars$Paths", "manyWithin", "(I)I"⟩ prog_9_method_11_code 3 (some .int)) := tbq5 85 (by decide +kernel) rfl
theorem mc_Paths_manyWithin {M : mM} (hd : 3 < mDp M) : mCal M M_Paths_manyWithin 1 := ⟨tb_co_Paths_manyWithin, tb_in_NineBars_Paths, ⟨by decide +kernel, by decide +kernel⟩, by decide +kernel, hd, by decide⟩
theorem d_Paths_manyWithin_0 : decode prog_9_method_11_code 0 = .ok (.iconst 0, 1) := by decide +kernel
theorem d_Paths_manyWithin_1 : decode prog_9_method_11_code 1 = .ok (.istore_n 2, 1) := by decide +kernel
theorem d_Paths_manyWithin_2 : decode prog_9_method_11_code 2 = .ok (.iload_n 2, 1) := by decide +kernel
theorem d_Paths_manyWithin_3 : decode prog_9_method_11_code 3 = .ok (.aload_n 0, 1) := by decide +kernel
theorem d_Paths_manyWithin_4 : decode prog_9_method_11_code 4 = .ok (.getfield 50, 3) := by decide +kernel
theorem d_Paths_manyWithin_7 : decode prog_9_method_11_code 7 = .ok (.if_icmp .ge 23, 3) := by decide +kernel
theorem d_Paths_manyWithin_30 : decode prog_9_method_11_code 30 = .ok (.iload_n 2, 1) := by decide +kernel
theorem d_Paths_manyWithin_31 : decode prog_9_method_11_code 31 = .ok (.ireturn, 1) := by decide +kernel
theorem d_Paths_manyWithin_10 : decode prog_9_method_11_code 10 = .ok (.aload_n 0, 1) := by decide +kernel
theorem d_Paths_manyWithin_11 : decode prog_9_method_11_code 11 = .ok (.aload_n 0, 1) := by decide +kernel
theorem d_Paths_manyWithin_12 : decode prog_9_method_11_code 12 = .ok (.getfield 25, 3) := by decide +kernel
theorem d_Paths_manyWithin_15 : decode prog_9_method_11_code 15 = .ok (.iload_n 2, 1) := by decide +kernel
theorem d_Paths_manyWithin_16 : decode prog_9_method_11_code 16 = .ok (.iaload, 1) := by decide +kernel
theorem d_Paths_manyWithin_17 : decode prog_9_method_11_code 17 = .ok (.invokevirtual 53, 3) := by decide +kernel
theorem d_Paths_manyWithin_20 : decode prog_9_method_11_code 20 = .ok (.iload_n 1, 1) := by decide +kernel
theorem d_Paths_manyWithin_21 : decode prog_9_method_11_code 21 = .ok (.if_icmp .gt 9, 3) := by decide +kernel
theorem d_Paths_manyWithin_24 : decode prog_9_method_11_code 24 = .ok (.iinc 2 1, 3) := by decide +kernel
theorem d_Paths_manyWithin_27 : decode prog_9_method_11_code 27 = .ok (.goto (-25), 3) := by decide +kernel
theorem t_Paths_manyWithin_L2 {G : mG} {r : mR} {v0 v1 : Int}  : ∀ (n : Nat) (h : mH) (v2 : Int), f_Paths_manyWithin_L2 v0 v1 n h v2 = some r → mJ G M_Paths_manyWithin 2 [(2, v0), (0, v1), (0, v2)] [] h r := by
  intro n
  induction n with
  | zero =>
    intro h v2 hr
    rw [f_Paths_manyWithin_L2] at hr
    cases hr
  | succ n hR2 =>
    intro h v2 hr
    rw [f_Paths_manyWithin_L2] at hr
    refine j_iload_n (pc := 2) d_Paths_manyWithin_2 rfl ?_
    refine j_aload_n (pc := 3) d_Paths_manyWithin_3 rfl ?_
    refine j_getf (pc := 4) d_Paths_manyWithin_4 (fd_Paths_50 rfl) hr (fun hr => ?_)
    refine j_icmp_ge (pc := 7) (tgt := 30) d_Paths_manyWithin_7 hr (fun hr => ?_) (fun hr => ?_)
    · refine j_iload_n (pc := 30) d_Paths_manyWithin_30 rfl ?_
      exact j_iret (pc := 31) d_Paths_manyWithin_31 rfl hr
    · refine j_aload_n (pc := 10) d_Paths_manyWithin_10 rfl ?_
      refine j_aload_n (pc := 11) d_Paths_manyWithin_11 rfl ?_
      refine j_getf (pc := 12) d_Paths_manyWithin_12 (fd_Paths_25 rfl) hr (fun hr => ?_)
      refine j_iload_n (pc := 15) d_Paths_manyWithin_15 rfl ?_
      refine j_iaload (pc := 16) d_Paths_manyWithin_16 hr (fun hr => ?_)
      obtain ⟨ha, hr⟩ := chk_some hr
      refine j_callG (pc := 17) (stk := [(0, hpV h (hpV h v0 6) v2), (2, v0)]) (as := [(2, v0), (0, hpV h (hpV h v0 6) v2)]) (P := (fun v9 => ((0 : Nat), v9) :: [])) (tg := 0) (My := M_Paths_farOf) (mRunV (as := [(0, hpV h (hpV h v0 6) v2)]) (st := []) d_Paths_manyWithin_17 (mc_Paths_farOf (by decide)) rfl (mv_Paths_farOf tb_ml_Paths_53) rfl (Nat.le_of_ble_eq_true rfl) ha) (fun v => rfl) rfl hr (fun r1 h1 => t_Paths_farOf _ _ _ _ h1) (fun x2 h1 hr => ?_)
      refine j_iload_n (pc := 20) d_Paths_manyWithin_20 rfl ?_
      refine j_icmp_gt (pc := 21) (tgt := 30) d_Paths_manyWithin_21 hr (fun hr => ?_) (fun hr => ?_)
      · refine j_iload_n (pc := 30) d_Paths_manyWithin_30 rfl ?_
        exact j_iret (pc := 31) d_Paths_manyWithin_31 rfl hr
      · refine j_iincW (pc := 24) (L := fun x3 => [(2, v0), (0, v1), (0, x3)]) d_Paths_manyWithin_24 rfl (fun _ => rfl) hr (fun x3 hr => ?_)
        refine j_goto (pc := 27) (tgt := 2) d_Paths_manyWithin_27 ?_
        exact mJ_weak (ls' := [(2, v0), (0, v1), (0, x3)]) (mwk_s (mwk_s (mwk_s mwk_n))) (hR2 h1 _ hr)
theorem t_Paths_manyWithin {G : mG} (h : mH) (v0 v1 : Int) (r : mR) (hr : f_Paths_manyWithin h v0 v1 = some r) : mJM G M_Paths_manyWithin [(2, v0), (0, v1)] h r := by
  refine mJM_of (L := [(2, v0), (0, v1), (9, 0)]) rfl rfl rfl (Nat.le_of_ble_eq_true rfl) ?_
  unfold f_Paths_manyWithin at hr
  refine j_iconst (pc := 0) d_Paths_manyWithin_0 ?_
  refine j_istore_n (pc := 1) (ls' := [(2, v0), (0, v1), (0, 0)]) d_Paths_manyWithin_1 rfl ?_
  refine mJ_weak (ls' := [(2, v0), (0, v1), (0, 0)]) (mwk_s (mwk_s (mwk_s mwk_n))) (t_Paths_manyWithin_L2  _ _ _ hr)
def M_Nb_within : mM := ("NineBars", ⟨"NineBars", "within", "(I)I"⟩, prog_1_method_22_code, 2, some .int, [], 13)
theorem tb_co_Nb_within : mTB (Cond.code ⟨"NineBars", "within", "(I)I"⟩ prog_1_method_22_code 2 (some .int)) := tbq5 80 (by decide +kernel) rfl
theorem mc_Nb_within {M : mM} (hd : 13 < mDp M) : mCal M M_Nb_within 1 := ⟨tb_co_Nb_within, tb_in_NineBars, ⟨by decide +kernel, by decide +kernel⟩, by decide +kernel, hd, by decide⟩
theorem d_Nb_within_0 : decode prog_1_method_22_code 0 = .ok (.aload_n 0, 1) := by decide +kernel
theorem d_Nb_within_1 : decode prog_1_method_22_code 1 = .ok (.invokevirtual 260, 3) := by decide +kernel
theorem d_Nb_within_4 : decode prog_1_method_22_code 4 = .ok (.iload_n 1, 1) := by decide +kernel
theorem d_Nb_within_5 : decode prog_1_method_22_code 5 = .ok (.ifCond .lt 10, 3) := by decide +kernel
theorem d_Nb_within_15 : decode prog_1_method_22_code 15 = .ok (.new 109, 3) := by decide +kernel
theorem d_Nb_within_18 : decode prog_1_method_22_code 18 = .ok (.dup, 1) := by decide +kernel
theorem d_Nb_within_19 : decode prog_1_method_22_code 19 = .ok (.ldc_w 287, 3) := by decide +kernel
theorem d_Nb_within_22 : decode prog_1_method_22_code 22 = .ok (.invokespecial 113, 3) := by decide +kernel
theorem d_Nb_within_25 : decode prog_1_method_22_code 25 = .ok (.athrow, 1) := by decide +kernel
theorem d_Nb_within_8 : decode prog_1_method_22_code 8 = .ok (.iload_n 1, 1) := by decide +kernel
theorem d_Nb_within_9 : decode prog_1_method_22_code 9 = .ok (.sipush 999, 3) := by decide +kernel
theorem d_Nb_within_12 : decode prog_1_method_22_code 12 = .ok (.if_icmp .le 14, 3) := by decide +kernel
theorem d_Nb_within_26 : decode prog_1_method_22_code 26 = .ok (.aload_n 0, 1) := by decide +kernel
theorem d_Nb_within_27 : decode prog_1_method_22_code 27 = .ok (.invokevirtual 255, 3) := by decide +kernel
theorem d_Nb_within_30 : decode prog_1_method_22_code 30 = .ok (.iload_n 1, 1) := by decide +kernel
theorem d_Nb_within_31 : decode prog_1_method_22_code 31 = .ok (.invokevirtual 289, 3) := by decide +kernel
theorem tb_ml_Nb_289 : mTB (Cond.methodLink "NineBars" 289 ⟨"NineBars$Paths", "manyWithin", "(I)I"⟩) := tbq5 82 (by decide +kernel) rfl
theorem tb_im_Paths_manyWithin : mTB (Cond.instanceMethod ⟨"NineBars$Paths", "manyWithin", "(I)I"⟩) := tbq5 83 (by decide +kernel) rfl
theorem tb_se_Paths_manyWithin : mTB (Cond.selects "NineBars$Paths" ⟨"NineBars$Paths", "manyWithin", "(I)I"⟩ ⟨"NineBars$Paths", "manyWithin", "(I)I"⟩) := tbq5 84 (by decide +kernel) rfl
theorem mv_Paths_manyWithin {M : mM} {idx : Nat} (h : mTB (Cond.methodLink (mO M) idx ⟨"NineBars$Paths", "manyWithin", "(I)I"⟩)) : mCaV M M_Paths_manyWithin idx 7 := ⟨h, tb_im_Paths_manyWithin, tb_se_Paths_manyWithin, by decide, TX7, 7, rfl⟩
theorem d_Nb_within_34 : decode prog_1_method_22_code 34 = .ok (.ireturn, 1) := by decide +kernel
theorem t_Nb_within {G : mG} (h : mH) (v0 v1 : Int) (r : mR) (hr : f_Nb_within h v0 v1 = some r) : mJM G M_Nb_within [(2, v0), (0, v1)] h r := by
  refine mJM_of (L := [(2, v0), (0, v1)]) rfl rfl rfl (Nat.le_of_ble_eq_true rfl) ?_
  unfold f_Nb_within at hr
  refine j_aload_n (pc := 0) d_Nb_within_0 rfl ?_
  obtain ⟨ha, hr⟩ := chk_some hr
  refine j_callG (pc := 1) (stk := [(2, v0)]) (as := [(2, v0)]) (P := (fun v9 => [])) (tg := 3) (My := M_Nb_needGraph) (mRunV (as := []) (st := []) d_Nb_within_1 (mc_Nb_needGraph (by decide)) rfl (mv_Nb_needGraph tb_ml_Nb_260) rfl (Nat.le_of_ble_eq_true rfl) ha) (fun v => rfl) rfl hr (fun r1 h1 => t_Nb_needGraph _ _ _ h1) (fun x2 h1 hr => ?_)
  refine j_iload_n (pc := 4) d_Nb_within_4 rfl ?_
  refine j_if_lt (pc := 5) (tgt := 15) d_Nb_within_5 hr (fun hr => ?_) (fun hr => ?_)
  · exact j_throwW (pc := 15) (x9 := 7) (text := "n is 0 to 999") (k := 23) d_Nb_within_15 d_Nb_within_18 d_Nb_within_19 d_Nb_within_22 d_Nb_within_25 rfl (by decide +kernel) tb_cl_Nb_109 tb_in_java_lang_IllegalArgumentException (by decide +kernel) rfl (Nat.le_of_ble_eq_true rfl) hr
  · refine j_iload_n (pc := 8) d_Nb_within_8 rfl ?_
    refine j_sipush (pc := 9) d_Nb_within_9 ?_
    refine j_icmp_le (pc := 12) (tgt := 26) d_Nb_within_12 hr (fun hr => ?_) (fun hr => ?_)
    · refine j_aload_n (pc := 26) d_Nb_within_26 rfl ?_
      obtain ⟨ha, hr⟩ := chk_some hr
      refine j_callG (pc := 27) (stk := [(2, v0)]) (as := [(2, v0)]) (P := (fun v9 => ((2 : Nat), v9) :: [])) (tg := 2) (My := M_Nb_fromNow) (mRunV (as := []) (st := []) d_Nb_within_27 (mc_Nb_fromNow (by decide)) rfl (mv_Nb_fromNow tb_ml_Nb_255) rfl (Nat.le_of_ble_eq_true rfl) ha) (fun v => rfl) rfl hr (fun r1 h1 => t_Nb_fromNow _ _ _ h1) (fun x4 h3 hr => ?_)
      refine j_iload_n (pc := 30) d_Nb_within_30 rfl ?_
      obtain ⟨ha, hr⟩ := chk_some hr
      refine j_callG (pc := 31) (stk := [(0, v1), (2, x4)]) (as := [(2, x4), (0, v1)]) (P := (fun v9 => ((0 : Nat), v9) :: [])) (tg := 0) (My := M_Paths_manyWithin) (mRunV (as := [(0, v1)]) (st := []) d_Nb_within_31 (mc_Paths_manyWithin (by decide)) rfl (mv_Paths_manyWithin tb_ml_Nb_289) rfl (Nat.le_of_ble_eq_true rfl) ha) (fun v => rfl) rfl hr (fun r1 h1 => t_Paths_manyWithin _ _ _ _ h1) (fun x6 h5 hr => ?_)
      exact j_iret (pc := 34) d_Nb_within_34 rfl hr
    · exact j_throwW (pc := 15) (x9 := 7) (text := "n is 0 to 999") (k := 23) d_Nb_within_15 d_Nb_within_18 d_Nb_within_19 d_Nb_within_22 d_Nb_within_25 rfl (by decide +kernel) tb_cl_Nb_109 tb_in_java_lang_IllegalArgumentException (by decide +kernel) rfl (Nat.le_of_ble_eq_true rfl) hr
def M_Nb_fromStart : mM := ("NineBars", ⟨"NineBars", "fromStart", "(I)Z"⟩, prog_1_method_23_code, 2, some .boolean, [], 13)
theorem tb_co_Nb_fromStart : mTB (Cond.code ⟨"NineBars", "fromStart", "(I)Z"⟩ prog_1_method_23_code 2 (some .boolean)) := tbq5 92 (by decide +kernel) rfl
theorem mc_Nb_fromStart {M : mM} (hd : 13 < mDp M) : mCal M M_Nb_fromStart 1 := ⟨tb_co_Nb_fromStart, tb_in_NineBars, ⟨by decide +kernel, by decide +kernel⟩, by decide +kernel, hd, by decide⟩
theorem d_Nb_fromStart_0 : decode prog_1_method_23_code 0 = .ok (.aload_n 0, 1) := by decide +kernel
theorem d_Nb_fromStart_1 : decode prog_1_method_23_code 1 = .ok (.iload_n 1, 1) := by decide +kernel
theorem d_Nb_fromStart_2 : decode prog_1_method_23_code 2 = .ok (.invokevirtual 202, 3) := by decide +kernel
theorem d_Nb_fromStart_5 : decode prog_1_method_23_code 5 = .ok (.aload_n 0, 1) := by decide +kernel
theorem d_Nb_fromStart_6 : decode prog_1_method_23_code 6 = .ok (.invokevirtual 260, 3) := by decide +kernel
theorem d_Nb_fromStart_9 : decode prog_1_method_23_code 9 = .ok (.aload_n 0, 1) := by decide +kernel
theorem d_Nb_fromStart_10 : decode prog_1_method_23_code 10 = .ok (.getfield 64, 3) := by decide +kernel
theorem d_Nb_fromStart_13 : decode prog_1_method_23_code 13 = .ok (.aload_n 0, 1) := by decide +kernel
theorem d_Nb_fromStart_14 : decode prog_1_method_23_code 14 = .ok (.getfield 48, 3) := by decide +kernel
theorem d_Nb_fromStart_17 : decode prog_1_method_23_code 17 = .ok (.aload_n 0, 1) := by decide +kernel
theorem d_Nb_fromStart_18 : decode prog_1_method_23_code 18 = .ok (.getfield 27, 3) := by decide +kernel
theorem d_Nb_fromStart_21 : decode prog_1_method_23_code 21 = .ok (.aload_n 0, 1) := by decide +kernel
theorem d_Nb_fromStart_22 : decode prog_1_method_23_code 22 = .ok (.getfield 27, 3) := by decide +kernel
theorem tb_fl_Nb_292 : mTN (Cond.fieldLinkNest "NineBars" 292 "NineBars$Box" "starts" "[I" "NineBars") := tbqn1 102 (by decide +kernel) rfl
theorem fd_Nb_292 {M : mM} (h : mO M = "NineBars") : mFld M 292 0 7 2 := ⟨_, _, _, tyX0, rfl, by decide, by decide, rfl, uw_0, tyX0_ok, nmX0, by rw [h]; exact Or.inr ⟨_, tb_fl_Nb_292⟩⟩
theorem d_Nb_fromStart_25 : decode prog_1_method_23_code 25 = .ok (.getfield 292, 3) := by decide +kernel
theorem d_Nb_fromStart_28 : decode prog_1_method_23_code 28 = .ok (.invokevirtual 198, 3) := by decide +kernel
theorem d_Nb_fromStart_31 : decode prog_1_method_23_code 31 = .ok (.invokevirtual 266, 3) := by decide +kernel
theorem d_Nb_fromStart_34 : decode prog_1_method_23_code 34 = .ok (.aload_n 0, 1) := by decide +kernel
theorem d_Nb_fromStart_35 : decode prog_1_method_23_code 35 = .ok (.getfield 64, 3) := by decide +kernel
theorem d_Nb_fromStart_38 : decode prog_1_method_23_code 38 = .ok (.iload_n 1, 1) := by decide +kernel
theorem d_Nb_fromStart_39 : decode prog_1_method_23_code 39 = .ok (.invokevirtual 263, 3) := by decide +kernel
theorem d_Nb_fromStart_42 : decode prog_1_method_23_code 42 = .ok (.iconst (-1), 1) := by decide +kernel
theorem d_Nb_fromStart_43 : decode prog_1_method_23_code 43 = .ok (.if_icmp .eq 7, 3) := by decide +kernel
theorem d_Nb_fromStart_50 : decode prog_1_method_23_code 50 = .ok (.iconst 0, 1) := by decide +kernel
theorem d_Nb_fromStart_51 : decode prog_1_method_23_code 51 = .ok (.ireturn, 1) := by decide +kernel
theorem d_Nb_fromStart_46 : decode prog_1_method_23_code 46 = .ok (.iconst 1, 1) := by decide +kernel
theorem d_Nb_fromStart_47 : decode prog_1_method_23_code 47 = .ok (.goto 4, 3) := by decide +kernel
theorem t_Nb_fromStart {G : mG} (h : mH) (v0 v1 : Int) (r : mR) (hr : f_Nb_fromStart h v0 v1 = some r) : mJM G M_Nb_fromStart [(2, v0), (0, v1)] h r := by
  refine mJM_of (L := [(2, v0), (0, v1)]) rfl rfl rfl (Nat.le_of_ble_eq_true rfl) ?_
  unfold f_Nb_fromStart at hr
  refine j_aload_n (pc := 0) d_Nb_fromStart_0 rfl ?_
  refine j_iload_n (pc := 1) d_Nb_fromStart_1 rfl ?_
  obtain ⟨ha, hr⟩ := chk_some hr
  refine j_callG (pc := 2) (stk := [(0, v1), (2, v0)]) (as := [(2, v0), (0, v1)]) (P := (fun v9 => [])) (tg := 3) (My := M_Nb_needStand) (mRunV (as := [(0, v1)]) (st := []) d_Nb_fromStart_2 (mc_Nb_needStand (by decide)) rfl (mv_Nb_needStand tb_ml_Nb_202) rfl (Nat.le_of_ble_eq_true rfl) ha) (fun v => rfl) rfl hr (fun r1 h1 => t_Nb_needStand _ _ _ _ h1) (fun x2 h1 hr => ?_)
  refine j_aload_n (pc := 5) d_Nb_fromStart_5 rfl ?_
  obtain ⟨ha, hr⟩ := chk_some hr
  refine j_callG (pc := 6) (stk := [(2, v0)]) (as := [(2, v0)]) (P := (fun v9 => [])) (tg := 3) (My := M_Nb_needGraph) (mRunV (as := []) (st := []) d_Nb_fromStart_6 (mc_Nb_needGraph (by decide)) rfl (mv_Nb_needGraph tb_ml_Nb_260) rfl (Nat.le_of_ble_eq_true rfl) ha) (fun v => rfl) rfl hr (fun r1 h1 => t_Nb_needGraph _ _ _ h1) (fun x4 h3 hr => ?_)
  refine j_aload_n (pc := 9) d_Nb_fromStart_9 rfl ?_
  refine j_getf (pc := 10) d_Nb_fromStart_10 (fd_Nb_64 rfl) hr (fun hr => ?_)
  refine j_aload_n (pc := 13) d_Nb_fromStart_13 rfl ?_
  refine j_getf (pc := 14) d_Nb_fromStart_14 (fd_Nb_48 rfl) hr (fun hr => ?_)
  refine j_aload_n (pc := 17) d_Nb_fromStart_17 rfl ?_
  refine j_getf (pc := 18) d_Nb_fromStart_18 (fd_Nb_27 rfl) hr (fun hr => ?_)
  refine j_aload_n (pc := 21) d_Nb_fromStart_21 rfl ?_
  refine j_getf (pc := 22) d_Nb_fromStart_22 (fd_Nb_27 rfl) hr (fun hr => ?_)
  refine j_getf (pc := 25) d_Nb_fromStart_25 (fd_Nb_292 rfl) hr (fun hr => ?_)
  obtain ⟨ha, hr⟩ := chk_some hr
  refine j_callG (pc := 28) (stk := [(2, hpV h3 (hpV h3 v0 6) 7), (2, hpV h3 v0 6), (2, hpV h3 v0 10), (2, hpV h3 v0 13)]) (as := [(2, hpV h3 v0 6), (2, hpV h3 (hpV h3 v0 6) 7)]) (P := (fun v9 => ((0 : Nat), v9) :: [(2, hpV h3 v0 10), (2, hpV h3 v0 13)])) (tg := 0) (My := M_Box_standOf) (mRunV (as := [(2, hpV h3 (hpV h3 v0 6) 7)]) (st := [(2, hpV h3 v0 10), (2, hpV h3 v0 13)]) d_Nb_fromStart_28 (mc_Box_standOf (by decide)) rfl (mv_Box_standOf tb_ml_Nb_198) rfl (Nat.le_of_ble_eq_true rfl) ha) (fun v => rfl) rfl hr (fun r1 h1 => t_Box_standOf _ _ _ _ h1) (fun x6 h5 hr => ?_)
  obtain ⟨ha, hr⟩ := chk_some hr
  refine j_callG (pc := 31) (stk := [(0, x6), (2, hpV h3 v0 10), (2, hpV h3 v0 13)]) (as := [(2, hpV h3 v0 13), (2, hpV h3 v0 10), (0, x6)]) (P := (fun v9 => [])) (tg := 3) (My := M_Paths_seek) (mRunV (as := [(2, hpV h3 v0 10), (0, x6)]) (st := []) d_Nb_fromStart_31 (mc_Paths_seek (by decide)) rfl (mv_Paths_seek tb_ml_Nb_266) rfl (Nat.le_of_ble_eq_true rfl) ha) (fun v => rfl) rfl hr (fun r1 h1 => t_Paths_seek _ _ _ _ _ h1) (fun x8 h7 hr => ?_)
  refine j_aload_n (pc := 34) d_Nb_fromStart_34 rfl ?_
  refine j_getf (pc := 35) d_Nb_fromStart_35 (fd_Nb_64 rfl) hr (fun hr => ?_)
  refine j_iload_n (pc := 38) d_Nb_fromStart_38 rfl ?_
  obtain ⟨ha, hr⟩ := chk_some hr
  refine j_callG (pc := 39) (stk := [(0, v1), (2, hpV h7 v0 13)]) (as := [(2, hpV h7 v0 13), (0, v1)]) (P := (fun v9 => ((0 : Nat), v9) :: [])) (tg := 0) (My := M_Paths_farOf) (mRunV (as := [(0, v1)]) (st := []) d_Nb_fromStart_39 (mc_Paths_farOf (by decide)) rfl (mv_Paths_farOf tb_ml_Nb_263) rfl (Nat.le_of_ble_eq_true rfl) ha) (fun v => rfl) rfl hr (fun r1 h1 => t_Paths_farOf _ _ _ _ h1) (fun x10 h9 hr => ?_)
  refine j_iconst (pc := 42) d_Nb_fromStart_42 ?_
  refine j_icmp_eq (pc := 43) (tgt := 50) d_Nb_fromStart_43 hr (fun hr => ?_) (fun hr => ?_)
  · refine j_iconst (pc := 50) d_Nb_fromStart_50 ?_
    exact j_zret (pc := 51) d_Nb_fromStart_51 rfl hr
  · refine j_iconst (pc := 46) d_Nb_fromStart_46 ?_
    refine j_goto (pc := 47) (tgt := 51) d_Nb_fromStart_47 ?_
    exact j_zret (pc := 51) d_Nb_fromStart_51 rfl hr
def M_Nb_dead : mM := ("NineBars", ⟨"NineBars", "dead", "(I)I"⟩, prog_1_method_24_code, 8, some .int, [], 13)
theorem tb_co_Nb_dead : mTB (Cond.code ⟨"NineBars", "dead", "(I)I"⟩ prog_1_method_24_code 8 (some .int)) := tbq5 99 (by decide +kernel) rfl
theorem mc_Nb_dead {M : mM} (hd : 13 < mDp M) : mCal M M_Nb_dead 1 := ⟨tb_co_Nb_dead, tb_in_NineBars, ⟨by decide +kernel, by decide +kernel⟩, by decide +kernel, hd, by decide⟩
theorem d_Nb_dead_0 : decode prog_1_method_24_code 0 = .ok (.aload_n 0, 1) := by decide +kernel
theorem d_Nb_dead_1 : decode prog_1_method_24_code 1 = .ok (.invokevirtual 260, 3) := by decide +kernel
theorem d_Nb_dead_4 : decode prog_1_method_24_code 4 = .ok (.iload_n 1, 1) := by decide +kernel
theorem d_Nb_dead_5 : decode prog_1_method_24_code 5 = .ok (.ifCond .eq 19, 3) := by decide +kernel
theorem d_Nb_dead_24 : decode prog_1_method_24_code 24 = .ok (.aload_n 0, 1) := by decide +kernel
theorem d_Nb_dead_25 : decode prog_1_method_24_code 25 = .ok (.invokevirtual 255, 3) := by decide +kernel
theorem d_Nb_dead_28 : decode prog_1_method_24_code 28 = .ok (.astore_n 2, 1) := by decide +kernel
theorem d_Nb_dead_29 : decode prog_1_method_24_code 29 = .ok (.aload_n 0, 1) := by decide +kernel
theorem d_Nb_dead_30 : decode prog_1_method_24_code 30 = .ok (.invokevirtual 274, 3) := by decide +kernel
theorem d_Nb_dead_33 : decode prog_1_method_24_code 33 = .ok (.astore_n 3, 1) := by decide +kernel
theorem d_Nb_dead_34 : decode prog_1_method_24_code 34 = .ok (.iconst 0, 1) := by decide +kernel
theorem d_Nb_dead_35 : decode prog_1_method_24_code 35 = .ok (.istore 4, 2) := by decide +kernel
theorem d_Nb_dead_37 : decode prog_1_method_24_code 37 = .ok (.iconst (-1), 1) := by decide +kernel
theorem d_Nb_dead_38 : decode prog_1_method_24_code 38 = .ok (.istore 5, 2) := by decide +kernel
theorem d_Nb_dead_40 : decode prog_1_method_24_code 40 = .ok (.iconst 0, 1) := by decide +kernel
theorem d_Nb_dead_41 : decode prog_1_method_24_code 41 = .ok (.istore 6, 2) := by decide +kernel
theorem d_Nb_dead_43 : decode prog_1_method_24_code 43 = .ok (.iload 6, 2) := by decide +kernel
theorem d_Nb_dead_45 : decode prog_1_method_24_code 45 = .ok (.aload_n 2, 1) := by decide +kernel
theorem d_Nb_dead_46 : decode prog_1_method_24_code 46 = .ok (.getfield 259, 3) := by decide +kernel
theorem d_Nb_dead_49 : decode prog_1_method_24_code 49 = .ok (.if_icmp .ge 53, 3) := by decide +kernel
theorem d_Nb_dead_52 : decode prog_1_method_24_code 52 = .ok (.aload_n 2, 1) := by decide +kernel
theorem tb_fl_Nb_295 : mTN (Cond.fieldLinkNest "NineBars" 295 "NineBars$Paths" "order" "[I" "NineBars") := tbqn2 23 (by decide +kernel) rfl
theorem fd_Nb_295 {M : mM} (h : mO M = "NineBars") : mFld M 295 7 6 2 := ⟨_, _, _, tyX7, rfl, by decide, by decide, rfl, uw_7, tyX7_ok, nmX7, by rw [h]; exact Or.inr ⟨_, tb_fl_Nb_295⟩⟩
theorem d_Nb_dead_53 : decode prog_1_method_24_code 53 = .ok (.getfield 295, 3) := by decide +kernel
theorem d_Nb_dead_56 : decode prog_1_method_24_code 56 = .ok (.iload 6, 2) := by decide +kernel
theorem d_Nb_dead_58 : decode prog_1_method_24_code 58 = .ok (.iaload, 1) := by decide +kernel
theorem d_Nb_dead_59 : decode prog_1_method_24_code 59 = .ok (.istore 7, 2) := by decide +kernel
theorem d_Nb_dead_61 : decode prog_1_method_24_code 61 = .ok (.aload_n 3, 1) := by decide +kernel
theorem d_Nb_dead_62 : decode prog_1_method_24_code 62 = .ok (.iload 7, 2) := by decide +kernel
theorem d_Nb_dead_64 : decode prog_1_method_24_code 64 = .ok (.invokevirtual 263, 3) := by decide +kernel
theorem d_Nb_dead_67 : decode prog_1_method_24_code 67 = .ok (.iconst (-1), 1) := by decide +kernel
theorem d_Nb_dead_68 : decode prog_1_method_24_code 68 = .ok (.if_icmp .ne 28, 3) := by decide +kernel
theorem d_Nb_dead_96 : decode prog_1_method_24_code 96 = .ok (.iinc 6 1, 3) := by decide +kernel
theorem d_Nb_dead_99 : decode prog_1_method_24_code 99 = .ok (.goto (-56), 3) := by decide +kernel
theorem d_Nb_dead_71 : decode prog_1_method_24_code 71 = .ok (.iinc 4 1, 3) := by decide +kernel
theorem d_Nb_dead_74 : decode prog_1_method_24_code 74 = .ok (.iload 5, 2) := by decide +kernel
theorem d_Nb_dead_76 : decode prog_1_method_24_code 76 = .ok (.iconst (-1), 1) := by decide +kernel
theorem d_Nb_dead_77 : decode prog_1_method_24_code 77 = .ok (.if_icmp .eq 10, 3) := by decide +kernel
theorem d_Nb_dead_87 : decode prog_1_method_24_code 87 = .ok (.iload 7, 2) := by decide +kernel
theorem d_Nb_dead_89 : decode prog_1_method_24_code 89 = .ok (.goto 5, 3) := by decide +kernel
theorem d_Nb_dead_94 : decode prog_1_method_24_code 94 = .ok (.istore 5, 2) := by decide +kernel
theorem d_Nb_dead_80 : decode prog_1_method_24_code 80 = .ok (.iload 7, 2) := by decide +kernel
theorem d_Nb_dead_82 : decode prog_1_method_24_code 82 = .ok (.iload 5, 2) := by decide +kernel
theorem d_Nb_dead_84 : decode prog_1_method_24_code 84 = .ok (.if_icmp .ge 8, 3) := by decide +kernel
theorem d_Nb_dead_92 : decode prog_1_method_24_code 92 = .ok (.iload 5, 2) := by decide +kernel
theorem d_Nb_dead_102 : decode prog_1_method_24_code 102 = .ok (.iload_n 1, 1) := by decide +kernel
theorem d_Nb_dead_103 : decode prog_1_method_24_code 103 = .ok (.ifCond .ne 8, 3) := by decide +kernel
theorem d_Nb_dead_111 : decode prog_1_method_24_code 111 = .ok (.iload 5, 2) := by decide +kernel
theorem d_Nb_dead_113 : decode prog_1_method_24_code 113 = .ok (.ireturn, 1) := by decide +kernel
theorem d_Nb_dead_106 : decode prog_1_method_24_code 106 = .ok (.iload 4, 2) := by decide +kernel
theorem d_Nb_dead_108 : decode prog_1_method_24_code 108 = .ok (.goto 5, 3) := by decide +kernel
theorem d_Nb_dead_8 : decode prog_1_method_24_code 8 = .ok (.iload_n 1, 1) := by decide +kernel
theorem d_Nb_dead_9 : decode prog_1_method_24_code 9 = .ok (.iconst 1, 1) := by decide +kernel
theorem d_Nb_dead_10 : decode prog_1_method_24_code 10 = .ok (.if_icmp .eq 14, 3) := by decide +kernel
theorem d_Nb_dead_13 : decode prog_1_method_24_code 13 = .ok (.new 109, 3) := by decide +kernel
theorem d_Nb_dead_16 : decode prog_1_method_24_code 16 = .ok (.dup, 1) := by decide +kernel
theorem d_Nb_dead_17 : decode prog_1_method_24_code 17 = .ok (.ldc_w 281, 3) := by decide +kernel
theorem d_Nb_dead_20 : decode prog_1_method_24_code 20 = .ok (.invokespecial 113, 3) := by decide +kernel
theorem d_Nb_dead_23 : decode prog_1_method_24_code 23 = .ok (.athrow, 1) := by decide +kernel
theorem t_Nb_dead_J96 {G : mG} {r : mR} {v1 v2 v3 v4 v5 v6 : Int} {h : mH} {R43 : mH → Int → Int → Int → Option mR} (hR43 : ∀ (h : mH) (w4 w5 w6 : Int) , R43 h w4 w5 w6 = some r → mJ G M_Nb_dead 43 [(9, 0), (0, v1), (2, v2), (2, v3), (0, w4), (0, w5), (0, w6), (9, 0)] [] h r) (hr : f_Nb_dead_J96 R43 v4 v5 v6 h = some r) : mJ G M_Nb_dead 96 [(9, 0), (0, v1), (2, v2), (2, v3), (0, v4), (0, v5), (0, v6), (9, 0)] [] h r := by
  unfold f_Nb_dead_J96 at hr
  refine j_iincW (pc := 96) (L := fun x1 => [(9, 0), (0, v1), (2, v2), (2, v3), (0, v4), (0, v5), (0, x1), (9, 0)]) d_Nb_dead_96 rfl (fun _ => rfl) hr (fun x1 hr => ?_)
  refine j_goto (pc := 99) (tgt := 43) d_Nb_dead_99 ?_
  exact mJ_weak (ls' := [(9, 0), (0, v1), (2, v2), (2, v3), (0, v4), (0, v5), (0, x1), (9, 0)]) (mwk_s (mwk_s (mwk_s (mwk_s (mwk_s (mwk_s (mwk_s (mwk_s mwk_n)))))))) (hR43 h _ _ _ hr)
theorem t_Nb_dead_J94 {G : mG} {r : mR} {v1 v2 v3 v4 v6 s0 : Int} {h : mH} {R43 : mH → Int → Int → Int → Option mR} (hR43 : ∀ (h : mH) (w4 w5 w6 : Int) , R43 h w4 w5 w6 = some r → mJ G M_Nb_dead 43 [(9, 0), (0, v1), (2, v2), (2, v3), (0, w4), (0, w5), (0, w6), (9, 0)] [] h r) (hr : f_Nb_dead_J94 R43 v4 v6 s0 h = some r) : mJ G M_Nb_dead 94 [(9, 0), (0, v1), (2, v2), (2, v3), (0, v4), (9, 0), (0, v6), (9, 0)] [(0, s0)] h r := by
  unfold f_Nb_dead_J94 at hr
  refine j_istore (pc := 94) (ls' := [(9, 0), (0, v1), (2, v2), (2, v3), (0, v4), (0, s0), (0, v6), (9, 0)]) d_Nb_dead_94 rfl ?_
  exact mJ_weak (ls' := [(9, 0), (0, v1), (2, v2), (2, v3), (0, v4), (0, s0), (0, v6), (9, 0)]) (mwk_s (mwk_s (mwk_s (mwk_s (mwk_s (mwk_s (mwk_s (mwk_s mwk_n)))))))) (t_Nb_dead_J96 hR43 hr)
theorem t_Nb_dead_J87 {G : mG} {r : mR} {v1 v2 v3 v4 v6 v7 : Int} {h : mH} {R43 : mH → Int → Int → Int → Option mR} (hR43 : ∀ (h : mH) (w4 w5 w6 : Int) , R43 h w4 w5 w6 = some r → mJ G M_Nb_dead 43 [(9, 0), (0, v1), (2, v2), (2, v3), (0, w4), (0, w5), (0, w6), (9, 0)] [] h r) (hr : f_Nb_dead_J87 R43 v4 v6 v7 h = some r) : mJ G M_Nb_dead 87 [(9, 0), (0, v1), (2, v2), (2, v3), (0, v4), (9, 0), (0, v6), (0, v7)] [] h r := by
  unfold f_Nb_dead_J87 at hr
  refine j_iload (pc := 87) d_Nb_dead_87 rfl ?_
  refine j_goto (pc := 89) (tgt := 94) d_Nb_dead_89 ?_
  exact mJ_weak (ls' := [(9, 0), (0, v1), (2, v2), (2, v3), (0, v4), (9, 0), (0, v6), (9, 0)]) (mwk_s (mwk_s (mwk_s (mwk_s (mwk_s (mwk_s (mwk_s (mwk_d mwk_n)))))))) (t_Nb_dead_J94 hR43 hr)
theorem t_Nb_dead_L43 {G : mG} {r : mR} {v1 v2 v3 : Int} {K102 : mH → Int → Int → Option mR} (hK102 : ∀ (h : mH) (w4 w5 : Int) , K102 h w4 w5 = some r → mJ G M_Nb_dead 102 [(9, 0), (0, v1), (9, 0), (9, 0), (0, w4), (0, w5), (9, 0), (9, 0)] [] h r) : ∀ (n : Nat) (h : mH) (v4 v5 v6 : Int), f_Nb_dead_L43 K102 v2 v3 n h v4 v5 v6 = some r → mJ G M_Nb_dead 43 [(9, 0), (0, v1), (2, v2), (2, v3), (0, v4), (0, v5), (0, v6), (9, 0)] [] h r := by
  intro n
  induction n with
  | zero =>
    intro h v4 v5 v6 hr
    rw [f_Nb_dead_L43] at hr
    cases hr
  | succ n hR43 =>
    intro h v4 v5 v6 hr
    rw [f_Nb_dead_L43] at hr
    refine j_iload (pc := 43) d_Nb_dead_43 rfl ?_
    refine j_aload_n (pc := 45) d_Nb_dead_45 rfl ?_
    refine j_getf (pc := 46) d_Nb_dead_46 (fd_Nb_259 rfl) hr (fun hr => ?_)
    refine j_icmp_ge (pc := 49) (tgt := 102) d_Nb_dead_49 hr (fun hr => ?_) (fun hr => ?_)
    · exact mJ_weak (ls' := [(9, 0), (0, v1), (9, 0), (9, 0), (0, v4), (0, v5), (9, 0), (9, 0)]) (mwk_s (mwk_s (mwk_d (mwk_d (mwk_s (mwk_s (mwk_d (mwk_s mwk_n)))))))) (hK102 h _ _ hr)
    · refine j_aload_n (pc := 52) d_Nb_dead_52 rfl ?_
      refine j_getf (pc := 53) d_Nb_dead_53 (fd_Nb_295 rfl) hr (fun hr => ?_)
      refine j_iload (pc := 56) d_Nb_dead_56 rfl ?_
      refine j_iaload (pc := 58) d_Nb_dead_58 hr (fun hr => ?_)
      refine j_istoreW (pc := 59) (L := fun x1 => [(9, 0), (0, v1), (2, v2), (2, v3), (0, v4), (0, v5), (0, v6), (0, x1)]) d_Nb_dead_59 (fun _ => rfl) hr (fun x1 hr => ?_)
      refine j_aload_n (pc := 61) d_Nb_dead_61 rfl ?_
      refine j_iload (pc := 62) d_Nb_dead_62 rfl ?_
      obtain ⟨ha, hr⟩ := chk_some hr
      refine j_callG (pc := 64) (stk := [(0, x1), (2, v3)]) (as := [(2, v3), (0, x1)]) (P := (fun v9 => ((0 : Nat), v9) :: [])) (tg := 0) (My := M_Paths_farOf) (mRunV (as := [(0, x1)]) (st := []) d_Nb_dead_64 (mc_Paths_farOf (by decide)) rfl (mv_Paths_farOf tb_ml_Nb_263) rfl (Nat.le_of_ble_eq_true rfl) ha) (fun v => rfl) rfl hr (fun r1 h1 => t_Paths_farOf _ _ _ _ h1) (fun x3 h2 hr => ?_)
      refine j_iconst (pc := 67) d_Nb_dead_67 ?_
      refine j_icmp_ne (pc := 68) (tgt := 96) d_Nb_dead_68 hr (fun hr => ?_) (fun hr => ?_)
      · exact mJ_weak (ls' := [(9, 0), (0, v1), (2, v2), (2, v3), (0, v4), (0, v5), (0, v6), (9, 0)]) (mwk_s (mwk_s (mwk_s (mwk_s (mwk_s (mwk_s (mwk_s (mwk_d mwk_n)))))))) (t_Nb_dead_J96 hR43 hr)
      · refine j_iincW (pc := 71) (L := fun x4 => [(9, 0), (0, v1), (2, v2), (2, v3), (0, x4), (0, v5), (0, v6), (0, x1)]) d_Nb_dead_71 rfl (fun _ => rfl) hr (fun x4 hr => ?_)
        refine j_iload (pc := 74) d_Nb_dead_74 rfl ?_
        refine j_iconst (pc := 76) d_Nb_dead_76 ?_
        refine j_icmp_eq (pc := 77) (tgt := 87) d_Nb_dead_77 hr (fun hr => ?_) (fun hr => ?_)
        · exact mJ_weak (ls' := [(9, 0), (0, v1), (2, v2), (2, v3), (0, x4), (9, 0), (0, v6), (0, x1)]) (mwk_s (mwk_s (mwk_s (mwk_s (mwk_s (mwk_d (mwk_s (mwk_s mwk_n)))))))) (t_Nb_dead_J87 hR43 hr)
        · refine j_iload (pc := 80) d_Nb_dead_80 rfl ?_
          refine j_iload (pc := 82) d_Nb_dead_82 rfl ?_
          refine j_icmp_ge (pc := 84) (tgt := 92) d_Nb_dead_84 hr (fun hr => ?_) (fun hr => ?_)
          · refine j_iload (pc := 92) d_Nb_dead_92 rfl ?_
            exact mJ_weak (ls' := [(9, 0), (0, v1), (2, v2), (2, v3), (0, x4), (9, 0), (0, v6), (9, 0)]) (mwk_s (mwk_s (mwk_s (mwk_s (mwk_s (mwk_d (mwk_s (mwk_d mwk_n)))))))) (t_Nb_dead_J94 hR43 hr)
          · exact mJ_weak (ls' := [(9, 0), (0, v1), (2, v2), (2, v3), (0, x4), (9, 0), (0, v6), (0, x1)]) (mwk_s (mwk_s (mwk_s (mwk_s (mwk_s (mwk_d (mwk_s (mwk_s mwk_n)))))))) (t_Nb_dead_J87 hR43 hr)
theorem t_Nb_dead_J24 {G : mG} {r : mR} {v0 v1 : Int} {h : mH}  (hr : f_Nb_dead_J24 v0 v1 h = some r) : mJ G M_Nb_dead 24 [(2, v0), (0, v1), (9, 0), (9, 0), (9, 0), (9, 0), (9, 0), (9, 0)] [] h r := by
  unfold f_Nb_dead_J24 at hr
  refine j_aload_n (pc := 24) d_Nb_dead_24 rfl ?_
  obtain ⟨ha, hr⟩ := chk_some hr
  refine j_callG (pc := 25) (stk := [(2, v0)]) (as := [(2, v0)]) (P := (fun v9 => ((2 : Nat), v9) :: [])) (tg := 2) (My := M_Nb_fromNow) (mRunV (as := []) (st := []) d_Nb_dead_25 (mc_Nb_fromNow (by decide)) rfl (mv_Nb_fromNow tb_ml_Nb_255) rfl (Nat.le_of_ble_eq_true rfl) ha) (fun v => rfl) rfl hr (fun r1 h1 => t_Nb_fromNow _ _ _ h1) (fun x2 h1 hr => ?_)
  refine j_astore_n (pc := 28) (ls' := [(2, v0), (0, v1), (2, x2), (9, 0), (9, 0), (9, 0), (9, 0), (9, 0)]) d_Nb_dead_28 rfl ?_
  refine j_aload_n (pc := 29) d_Nb_dead_29 rfl ?_
  obtain ⟨ha, hr⟩ := chk_some hr
  refine j_callG (pc := 30) (stk := [(2, v0)]) (as := [(2, v0)]) (P := (fun v9 => ((2 : Nat), v9) :: [])) (tg := 2) (My := M_Nb_toOpen) (mRunV (as := []) (st := []) d_Nb_dead_30 (mc_Nb_toOpen (by decide)) rfl (mv_Nb_toOpen tb_ml_Nb_274) rfl (Nat.le_of_ble_eq_true rfl) ha) (fun v => rfl) rfl hr (fun r1 h1 => t_Nb_toOpen _ _ _ h1) (fun x4 h3 hr => ?_)
  refine j_astore_n (pc := 33) (ls' := [(2, v0), (0, v1), (2, x2), (2, x4), (9, 0), (9, 0), (9, 0), (9, 0)]) d_Nb_dead_33 rfl ?_
  refine j_iconst (pc := 34) d_Nb_dead_34 ?_
  refine j_istore (pc := 35) (ls' := [(2, v0), (0, v1), (2, x2), (2, x4), (0, 0), (9, 0), (9, 0), (9, 0)]) d_Nb_dead_35 rfl ?_
  refine j_iconst (pc := 37) d_Nb_dead_37 ?_
  refine j_istore (pc := 38) (ls' := [(2, v0), (0, v1), (2, x2), (2, x4), (0, 0), (0, (-1)), (9, 0), (9, 0)]) d_Nb_dead_38 rfl ?_
  refine j_iconst (pc := 40) d_Nb_dead_40 ?_
  refine j_istore (pc := 41) (ls' := [(2, v0), (0, v1), (2, x2), (2, x4), (0, 0), (0, (-1)), (0, 0), (9, 0)]) d_Nb_dead_41 rfl ?_
  refine mJ_weak (ls' := [(9, 0), (0, v1), (2, x2), (2, x4), (0, 0), (0, (-1)), (0, 0), (9, 0)]) (mwk_d (mwk_s (mwk_s (mwk_s (mwk_s (mwk_s (mwk_s (mwk_s mwk_n)))))))) (t_Nb_dead_L43 (fun h5 x6 x7 hr => ?_) _ _ _ _ _ hr)
  · refine j_iload_n (pc := 102) d_Nb_dead_102 rfl ?_
    refine j_if_ne (pc := 103) (tgt := 111) d_Nb_dead_103 hr (fun hr => ?_) (fun hr => ?_)
    · refine j_iload (pc := 111) d_Nb_dead_111 rfl ?_
      exact j_iret (pc := 113) d_Nb_dead_113 rfl hr
    · refine j_iload (pc := 106) d_Nb_dead_106 rfl ?_
      refine j_goto (pc := 108) (tgt := 113) d_Nb_dead_108 ?_
      exact j_iret (pc := 113) d_Nb_dead_113 rfl hr
theorem t_Nb_dead {G : mG} (h : mH) (v0 v1 : Int) (r : mR) (hr : f_Nb_dead h v0 v1 = some r) : mJM G M_Nb_dead [(2, v0), (0, v1)] h r := by
  refine mJM_of (L := [(2, v0), (0, v1), (9, 0), (9, 0), (9, 0), (9, 0), (9, 0), (9, 0)]) rfl rfl rfl (Nat.le_of_ble_eq_true rfl) ?_
  unfold f_Nb_dead at hr
  refine j_aload_n (pc := 0) d_Nb_dead_0 rfl ?_
  obtain ⟨ha, hr⟩ := chk_some hr
  refine j_callG (pc := 1) (stk := [(2, v0)]) (as := [(2, v0)]) (P := (fun v9 => [])) (tg := 3) (My := M_Nb_needGraph) (mRunV (as := []) (st := []) d_Nb_dead_1 (mc_Nb_needGraph (by decide)) rfl (mv_Nb_needGraph tb_ml_Nb_260) rfl (Nat.le_of_ble_eq_true rfl) ha) (fun v => rfl) rfl hr (fun r1 h1 => t_Nb_needGraph _ _ _ h1) (fun x2 h1 hr => ?_)
  refine j_iload_n (pc := 4) d_Nb_dead_4 rfl ?_
  refine j_if_eq (pc := 5) (tgt := 24) d_Nb_dead_5 hr (fun hr => ?_) (fun hr => ?_)
  · exact mJ_weak (ls' := [(2, v0), (0, v1), (9, 0), (9, 0), (9, 0), (9, 0), (9, 0), (9, 0)]) (mwk_s (mwk_s (mwk_s (mwk_s (mwk_s (mwk_s (mwk_s (mwk_s mwk_n)))))))) (t_Nb_dead_J24  hr)
  · refine j_iload_n (pc := 8) d_Nb_dead_8 rfl ?_
    refine j_iconst (pc := 9) d_Nb_dead_9 ?_
    refine j_icmp_eq (pc := 10) (tgt := 24) d_Nb_dead_10 hr (fun hr => ?_) (fun hr => ?_)
    · exact mJ_weak (ls' := [(2, v0), (0, v1), (9, 0), (9, 0), (9, 0), (9, 0), (9, 0), (9, 0)]) (mwk_s (mwk_s (mwk_s (mwk_s (mwk_s (mwk_s (mwk_s (mwk_s mwk_n)))))))) (t_Nb_dead_J24  hr)
    · exact j_throwW (pc := 13) (x9 := 7) (text := "what is 0 or 1") (k := 22) d_Nb_dead_13 d_Nb_dead_16 d_Nb_dead_17 d_Nb_dead_20 d_Nb_dead_23 rfl (by decide +kernel) tb_cl_Nb_109 tb_in_java_lang_IllegalArgumentException (by decide +kernel) rfl (Nat.le_of_ble_eq_true rfl) hr
def M_Graph_oneWaysFrom : mM := ("NineBars$Graph", ⟨"NineBars$Graph", "oneWaysFrom", "(I)I"⟩, prog_6_method_12_code, 4, some .int, [], 5)
theorem tb_co_Graph_oneWaysFrom : mTB (Cond.code ⟨"NineBars$Graph", "oneWaysFrom", "(I)I"⟩ prog_6_method_12_code 4 (some .int)) := tbq5 110 (by decide +kernel) rfl
theorem mc_Graph_oneWaysFrom {M : mM} (hd : 5 < mDp M) : mCal M M_Graph_oneWaysFrom 1 := ⟨tb_co_Graph_oneWaysFrom, tb_in_NineBars_Graph, ⟨by decide +kernel, by decide +kernel⟩, by decide +kernel, hd, by decide⟩
theorem d_Graph_oneWaysFrom_0 : decode prog_6_method_12_code 0 = .ok (.iconst 0, 1) := by decide +kernel
theorem d_Graph_oneWaysFrom_1 : decode prog_6_method_12_code 1 = .ok (.istore_n 2, 1) := by decide +kernel
theorem d_Graph_oneWaysFrom_2 : decode prog_6_method_12_code 2 = .ok (.iconst 0, 1) := by decide +kernel
theorem d_Graph_oneWaysFrom_3 : decode prog_6_method_12_code 3 = .ok (.istore_n 3, 1) := by decide +kernel
theorem d_Graph_oneWaysFrom_4 : decode prog_6_method_12_code 4 = .ok (.iload_n 3, 1) := by decide +kernel
theorem d_Graph_oneWaysFrom_5 : decode prog_6_method_12_code 5 = .ok (.aload_n 0, 1) := by decide +kernel
theorem d_Graph_oneWaysFrom_6 : decode prog_6_method_12_code 6 = .ok (.getfield 70, 3) := by decide +kernel
theorem d_Graph_oneWaysFrom_9 : decode prog_6_method_12_code 9 = .ok (.if_icmp .ge 39, 3) := by decide +kernel
theorem d_Graph_oneWaysFrom_48 : decode prog_6_method_12_code 48 = .ok (.iload_n 2, 1) := by decide +kernel
theorem d_Graph_oneWaysFrom_49 : decode prog_6_method_12_code 49 = .ok (.ireturn, 1) := by decide +kernel
theorem d_Graph_oneWaysFrom_12 : decode prog_6_method_12_code 12 = .ok (.aload_n 0, 1) := by decide +kernel
theorem d_Graph_oneWaysFrom_13 : decode prog_6_method_12_code 13 = .ok (.iload_n 1, 1) := by decide +kernel
theorem d_Graph_oneWaysFrom_14 : decode prog_6_method_12_code 14 = .ok (.iload_n 3, 1) := by decide +kernel
theorem d_Graph_oneWaysFrom_15 : decode prog_6_method_12_code 15 = .ok (.invokevirtual 110, 3) := by decide +kernel
theorem tb_ml_Graph_110 : mTB (Cond.methodLink "NineBars$Graph" 110 ⟨"NineBars$Graph", "goesFrom", "(II)Z"⟩) := tbq5 111 (by decide +kernel) rfl
theorem d_Graph_oneWaysFrom_18 : decode prog_6_method_12_code 18 = .ok (.ifCond .eq 24, 3) := by decide +kernel
theorem d_Graph_oneWaysFrom_42 : decode prog_6_method_12_code 42 = .ok (.iinc 3 1, 3) := by decide +kernel
theorem d_Graph_oneWaysFrom_45 : decode prog_6_method_12_code 45 = .ok (.goto (-41), 3) := by decide +kernel
theorem d_Graph_oneWaysFrom_21 : decode prog_6_method_12_code 21 = .ok (.aload_n 0, 1) := by decide +kernel
theorem d_Graph_oneWaysFrom_22 : decode prog_6_method_12_code 22 = .ok (.iload_n 1, 1) := by decide +kernel
theorem d_Graph_oneWaysFrom_23 : decode prog_6_method_12_code 23 = .ok (.aload_n 0, 1) := by decide +kernel
theorem d_Graph_oneWaysFrom_24 : decode prog_6_method_12_code 24 = .ok (.getfield 18, 3) := by decide +kernel
theorem d_Graph_oneWaysFrom_27 : decode prog_6_method_12_code 27 = .ok (.iload_n 3, 1) := by decide +kernel
theorem d_Graph_oneWaysFrom_28 : decode prog_6_method_12_code 28 = .ok (.iaload, 1) := by decide +kernel
theorem d_Graph_oneWaysFrom_29 : decode prog_6_method_12_code 29 = .ok (.iadd, 1) := by decide +kernel
theorem d_Graph_oneWaysFrom_30 : decode prog_6_method_12_code 30 = .ok (.iload_n 3, 1) := by decide +kernel
theorem d_Graph_oneWaysFrom_31 : decode prog_6_method_12_code 31 = .ok (.iconst 1, 1) := by decide +kernel
theorem d_Graph_oneWaysFrom_32 : decode prog_6_method_12_code 32 = .ok (.ixor, 1) := by decide +kernel
theorem d_Graph_oneWaysFrom_33 : decode prog_6_method_12_code 33 = .ok (.invokevirtual 110, 3) := by decide +kernel
theorem d_Graph_oneWaysFrom_36 : decode prog_6_method_12_code 36 = .ok (.ifCond .ne 6, 3) := by decide +kernel
theorem d_Graph_oneWaysFrom_39 : decode prog_6_method_12_code 39 = .ok (.iinc 2 1, 3) := by decide +kernel
theorem t_Graph_oneWaysFrom_J42 {G : mG} {r : mR} {v0 v1 v2 v3 : Int} {h : mH} {R4 : mH → Int → Int → Option mR} (hR4 : ∀ (h : mH) (w2 w3 : Int) , R4 h w2 w3 = some r → mJ G M_Graph_oneWaysFrom 4 [(2, v0), (0, v1), (0, w2), (0, w3)] [] h r) (hr : f_Graph_oneWaysFrom_J42 R4 v2 v3 h = some r) : mJ G M_Graph_oneWaysFrom 42 [(2, v0), (0, v1), (0, v2), (0, v3)] [] h r := by
  unfold f_Graph_oneWaysFrom_J42 at hr
  refine j_iincW (pc := 42) (L := fun x1 => [(2, v0), (0, v1), (0, v2), (0, x1)]) d_Graph_oneWaysFrom_42 rfl (fun _ => rfl) hr (fun x1 hr => ?_)
  refine j_goto (pc := 45) (tgt := 4) d_Graph_oneWaysFrom_45 ?_
  exact mJ_weak (ls' := [(2, v0), (0, v1), (0, v2), (0, x1)]) (mwk_s (mwk_s (mwk_s (mwk_s mwk_n)))) (hR4 h _ _ hr)
theorem t_Graph_oneWaysFrom_L4 {G : mG} {r : mR} {v0 v1 : Int}  : ∀ (n : Nat) (h : mH) (v2 v3 : Int), f_Graph_oneWaysFrom_L4 v0 v1 n h v2 v3 = some r → mJ G M_Graph_oneWaysFrom 4 [(2, v0), (0, v1), (0, v2), (0, v3)] [] h r := by
  intro n
  induction n with
  | zero =>
    intro h v2 v3 hr
    rw [f_Graph_oneWaysFrom_L4] at hr
    cases hr
  | succ n hR4 =>
    intro h v2 v3 hr
    rw [f_Graph_oneWaysFrom_L4] at hr
    refine j_iload_n (pc := 4) d_Graph_oneWaysFrom_4 rfl ?_
    refine j_aload_n (pc := 5) d_Graph_oneWaysFrom_5 rfl ?_
    refine j_getf (pc := 6) d_Graph_oneWaysFrom_6 (fd_Graph_70 rfl) hr (fun hr => ?_)
    refine j_icmp_ge (pc := 9) (tgt := 48) d_Graph_oneWaysFrom_9 hr (fun hr => ?_) (fun hr => ?_)
    · refine j_iload_n (pc := 48) d_Graph_oneWaysFrom_48 rfl ?_
      exact j_iret (pc := 49) d_Graph_oneWaysFrom_49 rfl hr
    · refine j_aload_n (pc := 12) d_Graph_oneWaysFrom_12 rfl ?_
      refine j_iload_n (pc := 13) d_Graph_oneWaysFrom_13 rfl ?_
      refine j_iload_n (pc := 14) d_Graph_oneWaysFrom_14 rfl ?_
      obtain ⟨ha, hr⟩ := chk_some hr
      refine j_callG (pc := 15) (stk := [(0, v3), (0, v1), (2, v0)]) (as := [(2, v0), (0, v1), (0, v3)]) (P := (fun v9 => ((0 : Nat), v9) :: [])) (tg := 0) (My := M_Graph_goesFrom) (mRunV (as := [(0, v1), (0, v3)]) (st := []) d_Graph_oneWaysFrom_15 (mc_Graph_goesFrom (by decide)) rfl (mv_Graph_goesFrom tb_ml_Graph_110) rfl (Nat.le_of_ble_eq_true rfl) ha) (fun v => rfl) rfl hr (fun r1 h1 => t_Graph_goesFrom _ _ _ _ _ h1) (fun x2 h1 hr => ?_)
      refine j_if_eq (pc := 18) (tgt := 42) d_Graph_oneWaysFrom_18 hr (fun hr => ?_) (fun hr => ?_)
      · exact mJ_weak (ls' := [(2, v0), (0, v1), (0, v2), (0, v3)]) (mwk_s (mwk_s (mwk_s (mwk_s mwk_n)))) (t_Graph_oneWaysFrom_J42 hR4 hr)
      · refine j_aload_n (pc := 21) d_Graph_oneWaysFrom_21 rfl ?_
        refine j_iload_n (pc := 22) d_Graph_oneWaysFrom_22 rfl ?_
        refine j_aload_n (pc := 23) d_Graph_oneWaysFrom_23 rfl ?_
        refine j_getf (pc := 24) d_Graph_oneWaysFrom_24 (fd_Graph_18 rfl) hr (fun hr => ?_)
        refine j_iload_n (pc := 27) d_Graph_oneWaysFrom_27 rfl ?_
        refine j_iaload (pc := 28) d_Graph_oneWaysFrom_28 hr (fun hr => ?_)
        refine j_iadd (pc := 29) d_Graph_oneWaysFrom_29 ?_
        refine j_iload_n (pc := 30) d_Graph_oneWaysFrom_30 rfl ?_
        refine j_iconst (pc := 31) d_Graph_oneWaysFrom_31 ?_
        refine j_ixor (pc := 32) d_Graph_oneWaysFrom_32 ?_
        obtain ⟨ha, hr⟩ := chk_some hr
        refine j_callG (pc := 33) (stk := [(0, qxor v3 1), (0, w32 (v1 + (hpV h1 (hpV h1 v0 5) v3))), (2, v0)]) (as := [(2, v0), (0, w32 (v1 + (hpV h1 (hpV h1 v0 5) v3))), (0, qxor v3 1)]) (P := (fun v9 => ((0 : Nat), v9) :: [])) (tg := 0) (My := M_Graph_goesFrom) (mRunV (as := [(0, w32 (v1 + (hpV h1 (hpV h1 v0 5) v3))), (0, qxor v3 1)]) (st := []) d_Graph_oneWaysFrom_33 (mc_Graph_goesFrom (by decide)) rfl (mv_Graph_goesFrom tb_ml_Graph_110) rfl (Nat.le_of_ble_eq_true rfl) ha) (fun v => rfl) rfl hr (fun r1 h1 => t_Graph_goesFrom _ _ _ _ _ h1) (fun x4 h3 hr => ?_)
        refine j_if_ne (pc := 36) (tgt := 42) d_Graph_oneWaysFrom_36 hr (fun hr => ?_) (fun hr => ?_)
        · exact mJ_weak (ls' := [(2, v0), (0, v1), (0, v2), (0, v3)]) (mwk_s (mwk_s (mwk_s (mwk_s mwk_n)))) (t_Graph_oneWaysFrom_J42 hR4 hr)
        · refine j_iincW (pc := 39) (L := fun x5 => [(2, v0), (0, v1), (0, x5), (0, v3)]) d_Graph_oneWaysFrom_39 rfl (fun _ => rfl) hr (fun x5 hr => ?_)
          exact mJ_weak (ls' := [(2, v0), (0, v1), (0, x5), (0, v3)]) (mwk_s (mwk_s (mwk_s (mwk_s mwk_n)))) (t_Graph_oneWaysFrom_J42 hR4 hr)
theorem t_Graph_oneWaysFrom {G : mG} (h : mH) (v0 v1 : Int) (r : mR) (hr : f_Graph_oneWaysFrom h v0 v1 = some r) : mJM G M_Graph_oneWaysFrom [(2, v0), (0, v1)] h r := by
  refine mJM_of (L := [(2, v0), (0, v1), (9, 0), (9, 0)]) rfl rfl rfl (Nat.le_of_ble_eq_true rfl) ?_
  unfold f_Graph_oneWaysFrom at hr
  refine j_iconst (pc := 0) d_Graph_oneWaysFrom_0 ?_
  refine j_istore_n (pc := 1) (ls' := [(2, v0), (0, v1), (0, 0), (9, 0)]) d_Graph_oneWaysFrom_1 rfl ?_
  refine j_iconst (pc := 2) d_Graph_oneWaysFrom_2 ?_
  refine j_istore_n (pc := 3) (ls' := [(2, v0), (0, v1), (0, 0), (0, 0)]) d_Graph_oneWaysFrom_3 rfl ?_
  refine mJ_weak (ls' := [(2, v0), (0, v1), (0, 0), (0, 0)]) (mwk_s (mwk_s (mwk_s (mwk_s mwk_n)))) (t_Graph_oneWaysFrom_L4  _ _ _ _ hr)
def M_Nb_oneWays : mM := ("NineBars", ⟨"NineBars", "oneWays", "()I"⟩, prog_1_method_25_code, 4, some .int, [], 13)
theorem tb_co_Nb_oneWays : mTB (Cond.code ⟨"NineBars", "oneWays", "()I"⟩ prog_1_method_25_code 4 (some .int)) := tbq5 106 (by decide +kernel) rfl
theorem mc_Nb_oneWays {M : mM} (hd : 13 < mDp M) : mCal M M_Nb_oneWays 0 := ⟨tb_co_Nb_oneWays, tb_in_NineBars, ⟨by decide +kernel, by decide +kernel⟩, by decide +kernel, hd, by decide⟩
theorem d_Nb_oneWays_0 : decode prog_1_method_25_code 0 = .ok (.aload_n 0, 1) := by decide +kernel
theorem d_Nb_oneWays_1 : decode prog_1_method_25_code 1 = .ok (.invokevirtual 260, 3) := by decide +kernel
theorem d_Nb_oneWays_4 : decode prog_1_method_25_code 4 = .ok (.aload_n 0, 1) := by decide +kernel
theorem d_Nb_oneWays_5 : decode prog_1_method_25_code 5 = .ok (.invokevirtual 255, 3) := by decide +kernel
theorem d_Nb_oneWays_8 : decode prog_1_method_25_code 8 = .ok (.astore_n 1, 1) := by decide +kernel
theorem d_Nb_oneWays_9 : decode prog_1_method_25_code 9 = .ok (.iconst 0, 1) := by decide +kernel
theorem d_Nb_oneWays_10 : decode prog_1_method_25_code 10 = .ok (.istore_n 2, 1) := by decide +kernel
theorem d_Nb_oneWays_11 : decode prog_1_method_25_code 11 = .ok (.iconst 0, 1) := by decide +kernel
theorem d_Nb_oneWays_12 : decode prog_1_method_25_code 12 = .ok (.istore_n 3, 1) := by decide +kernel
theorem d_Nb_oneWays_13 : decode prog_1_method_25_code 13 = .ok (.iload_n 3, 1) := by decide +kernel
theorem d_Nb_oneWays_14 : decode prog_1_method_25_code 14 = .ok (.aload_n 1, 1) := by decide +kernel
theorem d_Nb_oneWays_15 : decode prog_1_method_25_code 15 = .ok (.getfield 259, 3) := by decide +kernel
theorem d_Nb_oneWays_18 : decode prog_1_method_25_code 18 = .ok (.if_icmp .ge 25, 3) := by decide +kernel
theorem d_Nb_oneWays_43 : decode prog_1_method_25_code 43 = .ok (.iload_n 2, 1) := by decide +kernel
theorem d_Nb_oneWays_44 : decode prog_1_method_25_code 44 = .ok (.ireturn, 1) := by decide +kernel
theorem d_Nb_oneWays_21 : decode prog_1_method_25_code 21 = .ok (.iload_n 2, 1) := by decide +kernel
theorem d_Nb_oneWays_22 : decode prog_1_method_25_code 22 = .ok (.aload_n 0, 1) := by decide +kernel
theorem d_Nb_oneWays_23 : decode prog_1_method_25_code 23 = .ok (.getfield 48, 3) := by decide +kernel
theorem d_Nb_oneWays_26 : decode prog_1_method_25_code 26 = .ok (.aload_n 1, 1) := by decide +kernel
theorem d_Nb_oneWays_27 : decode prog_1_method_25_code 27 = .ok (.getfield 295, 3) := by decide +kernel
theorem d_Nb_oneWays_30 : decode prog_1_method_25_code 30 = .ok (.iload_n 3, 1) := by decide +kernel
theorem d_Nb_oneWays_31 : decode prog_1_method_25_code 31 = .ok (.iaload, 1) := by decide +kernel
theorem d_Nb_oneWays_32 : decode prog_1_method_25_code 32 = .ok (.invokevirtual 298, 3) := by decide +kernel
theorem tb_ml_Nb_298 : mTB (Cond.methodLink "NineBars" 298 ⟨"NineBars$Graph", "oneWaysFrom", "(I)I"⟩) := tbq5 107 (by decide +kernel) rfl
theorem tb_im_Graph_oneWaysFrom : mTB (Cond.instanceMethod ⟨"NineBars$Graph", "oneWaysFrom", "(I)I"⟩) := tbq5 108 (by decide +kernel) rfl
theorem tb_se_Graph_oneWaysFrom : mTB (Cond.selects "NineBars$Graph" ⟨"NineBars$Graph", "oneWaysFrom", "(I)I"⟩ ⟨"NineBars$Graph", "oneWaysFrom", "(I)I"⟩) := tbq5 109 (by decide +kernel) rfl
theorem mv_Graph_oneWaysFrom {M : mM} {idx : Nat} (h : mTB (Cond.methodLink (mO M) idx ⟨"NineBars$Graph", "oneWaysFrom", "(I)I"⟩)) : mCaV M M_Graph_oneWaysFrom idx 4 := ⟨h, tb_im_Graph_oneWaysFrom, tb_se_Graph_oneWaysFrom, by decide, TX4, 11, rfl⟩
theorem d_Nb_oneWays_35 : decode prog_1_method_25_code 35 = .ok (.iadd, 1) := by decide +kernel
theorem d_Nb_oneWays_36 : decode prog_1_method_25_code 36 = .ok (.istore_n 2, 1) := by decide +kernel
theorem d_Nb_oneWays_37 : decode prog_1_method_25_code 37 = .ok (.iinc 3 1, 3) := by decide +kernel
theorem d_Nb_oneWays_40 : decode prog_1_method_25_code 40 = .ok (.goto (-27), 3) := by decide +kernel
theorem t_Nb_oneWays_L13 {G : mG} {r : mR} {v0 v1 : Int}  : ∀ (n : Nat) (h : mH) (v2 v3 : Int), f_Nb_oneWays_L13 v0 v1 n h v2 v3 = some r → mJ G M_Nb_oneWays 13 [(2, v0), (2, v1), (0, v2), (0, v3)] [] h r := by
  intro n
  induction n with
  | zero =>
    intro h v2 v3 hr
    rw [f_Nb_oneWays_L13] at hr
    cases hr
  | succ n hR13 =>
    intro h v2 v3 hr
    rw [f_Nb_oneWays_L13] at hr
    refine j_iload_n (pc := 13) d_Nb_oneWays_13 rfl ?_
    refine j_aload_n (pc := 14) d_Nb_oneWays_14 rfl ?_
    refine j_getf (pc := 15) d_Nb_oneWays_15 (fd_Nb_259 rfl) hr (fun hr => ?_)
    refine j_icmp_ge (pc := 18) (tgt := 43) d_Nb_oneWays_18 hr (fun hr => ?_) (fun hr => ?_)
    · refine j_iload_n (pc := 43) d_Nb_oneWays_43 rfl ?_
      exact j_iret (pc := 44) d_Nb_oneWays_44 rfl hr
    · refine j_iload_n (pc := 21) d_Nb_oneWays_21 rfl ?_
      refine j_aload_n (pc := 22) d_Nb_oneWays_22 rfl ?_
      refine j_getf (pc := 23) d_Nb_oneWays_23 (fd_Nb_48 rfl) hr (fun hr => ?_)
      refine j_aload_n (pc := 26) d_Nb_oneWays_26 rfl ?_
      refine j_getf (pc := 27) d_Nb_oneWays_27 (fd_Nb_295 rfl) hr (fun hr => ?_)
      refine j_iload_n (pc := 30) d_Nb_oneWays_30 rfl ?_
      refine j_iaload (pc := 31) d_Nb_oneWays_31 hr (fun hr => ?_)
      obtain ⟨ha, hr⟩ := chk_some hr
      refine j_callG (pc := 32) (stk := [(0, hpV h (hpV h v1 6) v3), (2, hpV h v0 10), (0, v2)]) (as := [(2, hpV h v0 10), (0, hpV h (hpV h v1 6) v3)]) (P := (fun v9 => ((0 : Nat), v9) :: [(0, v2)])) (tg := 0) (My := M_Graph_oneWaysFrom) (mRunV (as := [(0, hpV h (hpV h v1 6) v3)]) (st := [(0, v2)]) d_Nb_oneWays_32 (mc_Graph_oneWaysFrom (by decide)) rfl (mv_Graph_oneWaysFrom tb_ml_Nb_298) rfl (Nat.le_of_ble_eq_true rfl) ha) (fun v => rfl) rfl hr (fun r1 h1 => t_Graph_oneWaysFrom _ _ _ _ h1) (fun x2 h1 hr => ?_)
      refine j_iadd (pc := 35) d_Nb_oneWays_35 ?_
      refine j_istoreW_n (pc := 36) (L := fun x3 => [(2, v0), (2, v1), (0, x3), (0, v3)]) d_Nb_oneWays_36 (fun _ => rfl) hr (fun x3 hr => ?_)
      refine j_iincW (pc := 37) (L := fun x4 => [(2, v0), (2, v1), (0, x3), (0, x4)]) d_Nb_oneWays_37 rfl (fun _ => rfl) hr (fun x4 hr => ?_)
      refine j_goto (pc := 40) (tgt := 13) d_Nb_oneWays_40 ?_
      exact mJ_weak (ls' := [(2, v0), (2, v1), (0, x3), (0, x4)]) (mwk_s (mwk_s (mwk_s (mwk_s mwk_n)))) (hR13 h1 _ _ hr)
theorem t_Nb_oneWays {G : mG} (h : mH) (v0 : Int) (r : mR) (hr : f_Nb_oneWays h v0 = some r) : mJM G M_Nb_oneWays [(2, v0)] h r := by
  refine mJM_of (L := [(2, v0), (9, 0), (9, 0), (9, 0)]) rfl rfl rfl (Nat.le_of_ble_eq_true rfl) ?_
  unfold f_Nb_oneWays at hr
  refine j_aload_n (pc := 0) d_Nb_oneWays_0 rfl ?_
  obtain ⟨ha, hr⟩ := chk_some hr
  refine j_callG (pc := 1) (stk := [(2, v0)]) (as := [(2, v0)]) (P := (fun v9 => [])) (tg := 3) (My := M_Nb_needGraph) (mRunV (as := []) (st := []) d_Nb_oneWays_1 (mc_Nb_needGraph (by decide)) rfl (mv_Nb_needGraph tb_ml_Nb_260) rfl (Nat.le_of_ble_eq_true rfl) ha) (fun v => rfl) rfl hr (fun r1 h1 => t_Nb_needGraph _ _ _ h1) (fun x2 h1 hr => ?_)
  refine j_aload_n (pc := 4) d_Nb_oneWays_4 rfl ?_
  obtain ⟨ha, hr⟩ := chk_some hr
  refine j_callG (pc := 5) (stk := [(2, v0)]) (as := [(2, v0)]) (P := (fun v9 => ((2 : Nat), v9) :: [])) (tg := 2) (My := M_Nb_fromNow) (mRunV (as := []) (st := []) d_Nb_oneWays_5 (mc_Nb_fromNow (by decide)) rfl (mv_Nb_fromNow tb_ml_Nb_255) rfl (Nat.le_of_ble_eq_true rfl) ha) (fun v => rfl) rfl hr (fun r1 h1 => t_Nb_fromNow _ _ _ h1) (fun x4 h3 hr => ?_)
  refine j_astore_n (pc := 8) (ls' := [(2, v0), (2, x4), (9, 0), (9, 0)]) d_Nb_oneWays_8 rfl ?_
  refine j_iconst (pc := 9) d_Nb_oneWays_9 ?_
  refine j_istore_n (pc := 10) (ls' := [(2, v0), (2, x4), (0, 0), (9, 0)]) d_Nb_oneWays_10 rfl ?_
  refine j_iconst (pc := 11) d_Nb_oneWays_11 ?_
  refine j_istore_n (pc := 12) (ls' := [(2, v0), (2, x4), (0, 0), (0, 0)]) d_Nb_oneWays_12 rfl ?_
  refine mJ_weak (ls' := [(2, v0), (2, x4), (0, 0), (0, 0)]) (mwk_s (mwk_s (mwk_s (mwk_s mwk_n)))) (t_Nb_oneWays_L13  _ _ _ _ hr)
def M_Paths_fewestOwn : mM := ("NineBars$Paths", ⟨"NineBars$Paths", "fewestOwn", "(LNineBars$Graph;II)I"⟩, prog_9_method_14_code, 9, some .int, [], 5)
theorem tb_co_Paths_fewestOwn : mTB (Cond.code ⟨"NineBars$Paths", "fewestOwn", "(LNineBars$Graph;II)I"⟩ prog_9_method_14_code 9 (some .int)) := tbq5 122 (by decide +kernel) rfl
theorem mc_Paths_fewestOwn {M : mM} (hd : 5 < mDp M) : mCal M M_Paths_fewestOwn 3 := ⟨tb_co_Paths_fewestOwn, tb_in_NineBars_Paths, ⟨by decide +kernel, by decide +kernel⟩, by decide +kernel, hd, by decide⟩
theorem d_Paths_fewestOwn_0 : decode prog_9_method_14_code 0 = .ok (.iconst 3, 1) := by decide +kernel
theorem d_Paths_fewestOwn_1 : decode prog_9_method_14_code 1 = .ok (.iconst 2, 1) := by decide +kernel
theorem d_Paths_fewestOwn_2 : decode prog_9_method_14_code 2 = .ok (.iload_n 3, 1) := by decide +kernel
theorem d_Paths_fewestOwn_3 : decode prog_9_method_14_code 3 = .ok (.imul, 1) := by decide +kernel
theorem d_Paths_fewestOwn_4 : decode prog_9_method_14_code 4 = .ok (.ishl, 1) := by decide +kernel
theorem d_Paths_fewestOwn_5 : decode prog_9_method_14_code 5 = .ok (.istore 4, 2) := by decide +kernel
theorem d_Paths_fewestOwn_7 : decode prog_9_method_14_code 7 = .ok (.aload_n 0, 1) := by decide +kernel
theorem d_Paths_fewestOwn_8 : decode prog_9_method_14_code 8 = .ok (.aload_n 1, 1) := by decide +kernel
theorem d_Paths_fewestOwn_9 : decode prog_9_method_14_code 9 = .ok (.iload_n 2, 1) := by decide +kernel
theorem d_Paths_fewestOwn_10 : decode prog_9_method_14_code 10 = .ok (.invokevirtual 43, 3) := by decide +kernel
theorem d_Paths_fewestOwn_13 : decode prog_9_method_14_code 13 = .ok (.iconst 0, 1) := by decide +kernel
theorem d_Paths_fewestOwn_14 : decode prog_9_method_14_code 14 = .ok (.istore 5, 2) := by decide +kernel
theorem d_Paths_fewestOwn_16 : decode prog_9_method_14_code 16 = .ok (.iconst 0, 1) := by decide +kernel
theorem d_Paths_fewestOwn_17 : decode prog_9_method_14_code 17 = .ok (.istore 6, 2) := by decide +kernel
theorem d_Paths_fewestOwn_19 : decode prog_9_method_14_code 19 = .ok (.iload 6, 2) := by decide +kernel
theorem d_Paths_fewestOwn_21 : decode prog_9_method_14_code 21 = .ok (.aload_n 1, 1) := by decide +kernel
theorem d_Paths_fewestOwn_22 : decode prog_9_method_14_code 22 = .ok (.getfield 47, 3) := by decide +kernel
theorem d_Paths_fewestOwn_25 : decode prog_9_method_14_code 25 = .ok (.if_icmp .gt 154, 3) := by decide +kernel
theorem d_Paths_fewestOwn_179 : decode prog_9_method_14_code 179 = .ok (.iconst (-1), 1) := by decide +kernel
theorem d_Paths_fewestOwn_180 : decode prog_9_method_14_code 180 = .ok (.ireturn, 1) := by decide +kernel
theorem d_Paths_fewestOwn_28 : decode prog_9_method_14_code 28 = .ok (.iload 5, 2) := by decide +kernel
theorem d_Paths_fewestOwn_30 : decode prog_9_method_14_code 30 = .ok (.aload_n 0, 1) := by decide +kernel
theorem d_Paths_fewestOwn_31 : decode prog_9_method_14_code 31 = .ok (.getfield 50, 3) := by decide +kernel
theorem d_Paths_fewestOwn_34 : decode prog_9_method_14_code 34 = .ok (.if_icmp .ge 145, 3) := by decide +kernel
theorem d_Paths_fewestOwn_37 : decode prog_9_method_14_code 37 = .ok (.iload 5, 2) := by decide +kernel
theorem d_Paths_fewestOwn_39 : decode prog_9_method_14_code 39 = .ok (.istore 7, 2) := by decide +kernel
theorem d_Paths_fewestOwn_41 : decode prog_9_method_14_code 41 = .ok (.iload 7, 2) := by decide +kernel
theorem d_Paths_fewestOwn_43 : decode prog_9_method_14_code 43 = .ok (.aload_n 1, 1) := by decide +kernel
theorem d_Paths_fewestOwn_44 : decode prog_9_method_14_code 44 = .ok (.getfield 47, 3) := by decide +kernel
theorem d_Paths_fewestOwn_47 : decode prog_9_method_14_code 47 = .ok (.if_icmp .ge 48, 3) := by decide +kernel
theorem d_Paths_fewestOwn_50 : decode prog_9_method_14_code 50 = .ok (.iload 7, 2) := by decide +kernel
theorem d_Paths_fewestOwn_52 : decode prog_9_method_14_code 52 = .ok (.aload_n 0, 1) := by decide +kernel
theorem d_Paths_fewestOwn_53 : decode prog_9_method_14_code 53 = .ok (.getfield 50, 3) := by decide +kernel
theorem d_Paths_fewestOwn_56 : decode prog_9_method_14_code 56 = .ok (.if_icmp .ge 39, 3) := by decide +kernel
theorem d_Paths_fewestOwn_59 : decode prog_9_method_14_code 59 = .ok (.aload_n 0, 1) := by decide +kernel
theorem d_Paths_fewestOwn_60 : decode prog_9_method_14_code 60 = .ok (.aload_n 1, 1) := by decide +kernel
theorem d_Paths_fewestOwn_61 : decode prog_9_method_14_code 61 = .ok (.aload_n 0, 1) := by decide +kernel
theorem d_Paths_fewestOwn_62 : decode prog_9_method_14_code 62 = .ok (.getfield 25, 3) := by decide +kernel
theorem d_Paths_fewestOwn_65 : decode prog_9_method_14_code 65 = .ok (.iload 7, 2) := by decide +kernel
theorem d_Paths_fewestOwn_67 : decode prog_9_method_14_code 67 = .ok (.iaload, 1) := by decide +kernel
theorem d_Paths_fewestOwn_68 : decode prog_9_method_14_code 68 = .ok (.aload_n 1, 1) := by decide +kernel
theorem d_Paths_fewestOwn_69 : decode prog_9_method_14_code 69 = .ok (.aload_n 0, 1) := by decide +kernel
theorem d_Paths_fewestOwn_70 : decode prog_9_method_14_code 70 = .ok (.getfield 25, 3) := by decide +kernel
theorem d_Paths_fewestOwn_73 : decode prog_9_method_14_code 73 = .ok (.iload 7, 2) := by decide +kernel
theorem d_Paths_fewestOwn_75 : decode prog_9_method_14_code 75 = .ok (.iaload, 1) := by decide +kernel
theorem d_Paths_fewestOwn_76 : decode prog_9_method_14_code 76 = .ok (.invokevirtual 95, 3) := by decide +kernel
theorem tb_ml_Paths_95 : mTB (Cond.methodLink "NineBars$Paths" 95 ⟨"NineBars$Graph", "stepsFrom", "(I)I"⟩) := tbq5 123 (by decide +kernel) rfl
theorem d_Paths_fewestOwn_79 : decode prog_9_method_14_code 79 = .ok (.iload 4, 2) := by decide +kernel
theorem d_Paths_fewestOwn_81 : decode prog_9_method_14_code 81 = .ok (.iconst (-1), 1) := by decide +kernel
theorem d_Paths_fewestOwn_82 : decode prog_9_method_14_code 82 = .ok (.ixor, 1) := by decide +kernel
theorem d_Paths_fewestOwn_83 : decode prog_9_method_14_code 83 = .ok (.iand, 1) := by decide +kernel
theorem d_Paths_fewestOwn_84 : decode prog_9_method_14_code 84 = .ok (.iload 6, 2) := by decide +kernel
theorem d_Paths_fewestOwn_86 : decode prog_9_method_14_code 86 = .ok (.invokevirtual 65, 3) := by decide +kernel
theorem d_Paths_fewestOwn_89 : decode prog_9_method_14_code 89 = .ok (.iinc 7 1, 3) := by decide +kernel
theorem d_Paths_fewestOwn_92 : decode prog_9_method_14_code 92 = .ok (.goto (-51), 3) := by decide +kernel
theorem d_Paths_fewestOwn_95 : decode prog_9_method_14_code 95 = .ok (.aload_n 0, 1) := by decide +kernel
theorem d_Paths_fewestOwn_96 : decode prog_9_method_14_code 96 = .ok (.aload_n 1, 1) := by decide +kernel
theorem tb_fl_Paths_98 : mTN (Cond.fieldLinkNest "NineBars$Paths" 98 "NineBars$Graph" "openStand" "I" "NineBars") := tbqn1 209 (by decide +kernel) rfl
theorem fd_Paths_98 {M : mM} (h : mO M = "NineBars$Paths") : mFld M 98 4 4 0 := ⟨_, _, _, tyX4, rfl, by decide, by decide, rfl, uw_4, tyX4_ok, nmX4, by rw [h]; exact Or.inr ⟨_, tb_fl_Paths_98⟩⟩
theorem d_Paths_fewestOwn_97 : decode prog_9_method_14_code 97 = .ok (.getfield 98, 3) := by decide +kernel
theorem d_Paths_fewestOwn_100 : decode prog_9_method_14_code 100 = .ok (.invokevirtual 53, 3) := by decide +kernel
theorem d_Paths_fewestOwn_103 : decode prog_9_method_14_code 103 = .ok (.iconst (-1), 1) := by decide +kernel
theorem d_Paths_fewestOwn_104 : decode prog_9_method_14_code 104 = .ok (.if_icmp .eq 12, 3) := by decide +kernel
theorem d_Paths_fewestOwn_116 : decode prog_9_method_14_code 116 = .ok (.aload_n 0, 1) := by decide +kernel
theorem d_Paths_fewestOwn_117 : decode prog_9_method_14_code 117 = .ok (.getfield 50, 3) := by decide +kernel
theorem d_Paths_fewestOwn_120 : decode prog_9_method_14_code 120 = .ok (.istore 7, 2) := by decide +kernel
theorem d_Paths_fewestOwn_122 : decode prog_9_method_14_code 122 = .ok (.iload 5, 2) := by decide +kernel
theorem d_Paths_fewestOwn_124 : decode prog_9_method_14_code 124 = .ok (.istore 8, 2) := by decide +kernel
theorem d_Paths_fewestOwn_126 : decode prog_9_method_14_code 126 = .ok (.iload 8, 2) := by decide +kernel
theorem d_Paths_fewestOwn_128 : decode prog_9_method_14_code 128 = .ok (.iload 7, 2) := by decide +kernel
theorem d_Paths_fewestOwn_130 : decode prog_9_method_14_code 130 = .ok (.if_icmp .ge 39, 3) := by decide +kernel
theorem d_Paths_fewestOwn_133 : decode prog_9_method_14_code 133 = .ok (.aload_n 0, 1) := by decide +kernel
theorem d_Paths_fewestOwn_134 : decode prog_9_method_14_code 134 = .ok (.aload_n 1, 1) := by decide +kernel
theorem d_Paths_fewestOwn_135 : decode prog_9_method_14_code 135 = .ok (.aload_n 0, 1) := by decide +kernel
theorem d_Paths_fewestOwn_136 : decode prog_9_method_14_code 136 = .ok (.getfield 25, 3) := by decide +kernel
theorem d_Paths_fewestOwn_139 : decode prog_9_method_14_code 139 = .ok (.iload 8, 2) := by decide +kernel
theorem d_Paths_fewestOwn_141 : decode prog_9_method_14_code 141 = .ok (.iaload, 1) := by decide +kernel
theorem d_Paths_fewestOwn_142 : decode prog_9_method_14_code 142 = .ok (.aload_n 1, 1) := by decide +kernel
theorem d_Paths_fewestOwn_143 : decode prog_9_method_14_code 143 = .ok (.aload_n 0, 1) := by decide +kernel
theorem d_Paths_fewestOwn_144 : decode prog_9_method_14_code 144 = .ok (.getfield 25, 3) := by decide +kernel
theorem d_Paths_fewestOwn_147 : decode prog_9_method_14_code 147 = .ok (.iload 8, 2) := by decide +kernel
theorem d_Paths_fewestOwn_149 : decode prog_9_method_14_code 149 = .ok (.iaload, 1) := by decide +kernel
theorem d_Paths_fewestOwn_150 : decode prog_9_method_14_code 150 = .ok (.invokevirtual 95, 3) := by decide +kernel
theorem d_Paths_fewestOwn_153 : decode prog_9_method_14_code 153 = .ok (.iload 4, 2) := by decide +kernel
theorem d_Paths_fewestOwn_155 : decode prog_9_method_14_code 155 = .ok (.iand, 1) := by decide +kernel
theorem d_Paths_fewestOwn_156 : decode prog_9_method_14_code 156 = .ok (.iload 6, 2) := by decide +kernel
theorem d_Paths_fewestOwn_158 : decode prog_9_method_14_code 158 = .ok (.iconst 1, 1) := by decide +kernel
theorem d_Paths_fewestOwn_159 : decode prog_9_method_14_code 159 = .ok (.iadd, 1) := by decide +kernel
theorem d_Paths_fewestOwn_160 : decode prog_9_method_14_code 160 = .ok (.invokevirtual 65, 3) := by decide +kernel
theorem d_Paths_fewestOwn_163 : decode prog_9_method_14_code 163 = .ok (.iinc 8 1, 3) := by decide +kernel
theorem d_Paths_fewestOwn_166 : decode prog_9_method_14_code 166 = .ok (.goto (-40), 3) := by decide +kernel
theorem d_Paths_fewestOwn_169 : decode prog_9_method_14_code 169 = .ok (.iload 7, 2) := by decide +kernel
theorem d_Paths_fewestOwn_171 : decode prog_9_method_14_code 171 = .ok (.istore 5, 2) := by decide +kernel
theorem d_Paths_fewestOwn_173 : decode prog_9_method_14_code 173 = .ok (.iinc 6 1, 3) := by decide +kernel
theorem d_Paths_fewestOwn_176 : decode prog_9_method_14_code 176 = .ok (.goto (-157), 3) := by decide +kernel
theorem d_Paths_fewestOwn_107 : decode prog_9_method_14_code 107 = .ok (.aload_n 0, 1) := by decide +kernel
theorem d_Paths_fewestOwn_108 : decode prog_9_method_14_code 108 = .ok (.aload_n 1, 1) := by decide +kernel
theorem d_Paths_fewestOwn_109 : decode prog_9_method_14_code 109 = .ok (.getfield 98, 3) := by decide +kernel
theorem d_Paths_fewestOwn_112 : decode prog_9_method_14_code 112 = .ok (.invokevirtual 53, 3) := by decide +kernel
theorem d_Paths_fewestOwn_115 : decode prog_9_method_14_code 115 = .ok (.ireturn, 1) := by decide +kernel
theorem t_Paths_fewestOwn_L41 {G : mG} {r : mR} {v0 v1 v4 v5 v6 : Int} {K95 : mH → Option mR} (hK95 : ∀ (h : mH) , K95 h  = some r → mJ G M_Paths_fewestOwn 95 [(2, v0), (2, v1), (9, 0), (9, 0), (0, v4), (0, v5), (0, v6), (9, 0), (9, 0)] [] h r) : ∀ (n : Nat) (h : mH) (v7 : Int), f_Paths_fewestOwn_L41 K95 v0 v1 v4 v6 n h v7 = some r → mJ G M_Paths_fewestOwn 41 [(2, v0), (2, v1), (9, 0), (9, 0), (0, v4), (0, v5), (0, v6), (0, v7), (9, 0)] [] h r := by
  intro n
  induction n with
  | zero =>
    intro h v7 hr
    rw [f_Paths_fewestOwn_L41] at hr
    cases hr
  | succ n hR41 =>
    intro h v7 hr
    rw [f_Paths_fewestOwn_L41] at hr
    refine j_iload (pc := 41) d_Paths_fewestOwn_41 rfl ?_
    refine j_aload_n (pc := 43) d_Paths_fewestOwn_43 rfl ?_
    refine j_getf (pc := 44) d_Paths_fewestOwn_44 (fd_Paths_47 rfl) hr (fun hr => ?_)
    refine j_icmp_ge (pc := 47) (tgt := 95) d_Paths_fewestOwn_47 hr (fun hr => ?_) (fun hr => ?_)
    · exact mJ_weak (ls' := [(2, v0), (2, v1), (9, 0), (9, 0), (0, v4), (0, v5), (0, v6), (9, 0), (9, 0)]) (mwk_s (mwk_s (mwk_s (mwk_s (mwk_s (mwk_s (mwk_s (mwk_d (mwk_s mwk_n))))))))) (hK95 h  hr)
    · refine j_iload (pc := 50) d_Paths_fewestOwn_50 rfl ?_
      refine j_aload_n (pc := 52) d_Paths_fewestOwn_52 rfl ?_
      refine j_getf (pc := 53) d_Paths_fewestOwn_53 (fd_Paths_50 rfl) hr (fun hr => ?_)
      refine j_icmp_ge (pc := 56) (tgt := 95) d_Paths_fewestOwn_56 hr (fun hr => ?_) (fun hr => ?_)
      · exact mJ_weak (ls' := [(2, v0), (2, v1), (9, 0), (9, 0), (0, v4), (0, v5), (0, v6), (9, 0), (9, 0)]) (mwk_s (mwk_s (mwk_s (mwk_s (mwk_s (mwk_s (mwk_s (mwk_d (mwk_s mwk_n))))))))) (hK95 h  hr)
      · refine j_aload_n (pc := 59) d_Paths_fewestOwn_59 rfl ?_
        refine j_aload_n (pc := 60) d_Paths_fewestOwn_60 rfl ?_
        refine j_aload_n (pc := 61) d_Paths_fewestOwn_61 rfl ?_
        refine j_getf (pc := 62) d_Paths_fewestOwn_62 (fd_Paths_25 rfl) hr (fun hr => ?_)
        refine j_iload (pc := 65) d_Paths_fewestOwn_65 rfl ?_
        refine j_iaload (pc := 67) d_Paths_fewestOwn_67 hr (fun hr => ?_)
        refine j_aload_n (pc := 68) d_Paths_fewestOwn_68 rfl ?_
        refine j_aload_n (pc := 69) d_Paths_fewestOwn_69 rfl ?_
        refine j_getf (pc := 70) d_Paths_fewestOwn_70 (fd_Paths_25 rfl) hr (fun hr => ?_)
        refine j_iload (pc := 73) d_Paths_fewestOwn_73 rfl ?_
        refine j_iaload (pc := 75) d_Paths_fewestOwn_75 hr (fun hr => ?_)
        obtain ⟨ha, hr⟩ := chk_some hr
        refine j_callG (pc := 76) (stk := [(0, hpV h (hpV h v0 6) v7), (2, v1), (0, hpV h (hpV h v0 6) v7), (2, v1), (2, v0)]) (as := [(2, v1), (0, hpV h (hpV h v0 6) v7)]) (P := (fun v9 => ((0 : Nat), v9) :: [(0, hpV h (hpV h v0 6) v7), (2, v1), (2, v0)])) (tg := 0) (My := M_Graph_stepsFrom) (mRunV (as := [(0, hpV h (hpV h v0 6) v7)]) (st := [(0, hpV h (hpV h v0 6) v7), (2, v1), (2, v0)]) d_Paths_fewestOwn_76 (mc_Graph_stepsFrom (by decide)) rfl (mv_Graph_stepsFrom tb_ml_Paths_95) rfl (Nat.le_of_ble_eq_true rfl) ha) (fun v => rfl) rfl hr (fun r1 h1 => t_Graph_stepsFrom _ _ _ _ h1) (fun x2 h1 hr => ?_)
        refine j_iload (pc := 79) d_Paths_fewestOwn_79 rfl ?_
        refine j_iconst (pc := 81) d_Paths_fewestOwn_81 ?_
        refine j_ixor (pc := 82) d_Paths_fewestOwn_82 ?_
        refine j_iand (pc := 83) d_Paths_fewestOwn_83 ?_
        refine j_iload (pc := 84) d_Paths_fewestOwn_84 rfl ?_
        obtain ⟨ha, hr⟩ := chk_some hr
        refine j_callG (pc := 86) (stk := [(0, v6), (0, qand x2 (qxor v4 ((-1)))), (0, hpV h (hpV h v0 6) v7), (2, v1), (2, v0)]) (as := [(2, v0), (2, v1), (0, hpV h (hpV h v0 6) v7), (0, qand x2 (qxor v4 ((-1)))), (0, v6)]) (P := (fun v9 => [])) (tg := 3) (My := M_Paths_visit) (mRunV (as := [(2, v1), (0, hpV h (hpV h v0 6) v7), (0, qand x2 (qxor v4 ((-1)))), (0, v6)]) (st := []) d_Paths_fewestOwn_86 (mc_Paths_visit (by decide)) rfl (mv_Paths_visit tb_ml_Paths_65) rfl (Nat.le_of_ble_eq_true rfl) ha) (fun v => rfl) rfl hr (fun r1 h1 => t_Paths_visit _ _ _ _ _ _ _ h1) (fun x4 h3 hr => ?_)
        refine j_iincW (pc := 89) (L := fun x5 => [(2, v0), (2, v1), (9, 0), (9, 0), (0, v4), (0, v5), (0, v6), (0, x5), (9, 0)]) d_Paths_fewestOwn_89 rfl (fun _ => rfl) hr (fun x5 hr => ?_)
        refine j_goto (pc := 92) (tgt := 41) d_Paths_fewestOwn_92 ?_
        exact mJ_weak (ls' := [(2, v0), (2, v1), (9, 0), (9, 0), (0, v4), (0, v5), (0, v6), (0, x5), (9, 0)]) (mwk_s (mwk_s (mwk_s (mwk_s (mwk_s (mwk_s (mwk_s (mwk_s (mwk_s mwk_n))))))))) (hR41 h3 _ hr)
theorem t_Paths_fewestOwn_L126 {G : mG} {r : mR} {v0 v1 v4 v6 v7 : Int} {K169 : mH → Option mR} (hK169 : ∀ (h : mH) , K169 h  = some r → mJ G M_Paths_fewestOwn 169 [(2, v0), (2, v1), (9, 0), (9, 0), (0, v4), (9, 0), (0, v6), (0, v7), (9, 0)] [] h r) : ∀ (n : Nat) (h : mH) (v8 : Int), f_Paths_fewestOwn_L126 K169 v0 v1 v4 v6 v7 n h v8 = some r → mJ G M_Paths_fewestOwn 126 [(2, v0), (2, v1), (9, 0), (9, 0), (0, v4), (9, 0), (0, v6), (0, v7), (0, v8)] [] h r := by
  intro n
  induction n with
  | zero =>
    intro h v8 hr
    rw [f_Paths_fewestOwn_L126] at hr
    cases hr
  | succ n hR126 =>
    intro h v8 hr
    rw [f_Paths_fewestOwn_L126] at hr
    refine j_iload (pc := 126) d_Paths_fewestOwn_126 rfl ?_
    refine j_iload (pc := 128) d_Paths_fewestOwn_128 rfl ?_
    refine j_icmp_ge (pc := 130) (tgt := 169) d_Paths_fewestOwn_130 hr (fun hr => ?_) (fun hr => ?_)
    · exact mJ_weak (ls' := [(2, v0), (2, v1), (9, 0), (9, 0), (0, v4), (9, 0), (0, v6), (0, v7), (9, 0)]) (mwk_s (mwk_s (mwk_s (mwk_s (mwk_s (mwk_s (mwk_s (mwk_s (mwk_d mwk_n))))))))) (hK169 h  hr)
    · refine j_aload_n (pc := 133) d_Paths_fewestOwn_133 rfl ?_
      refine j_aload_n (pc := 134) d_Paths_fewestOwn_134 rfl ?_
      refine j_aload_n (pc := 135) d_Paths_fewestOwn_135 rfl ?_
      refine j_getf (pc := 136) d_Paths_fewestOwn_136 (fd_Paths_25 rfl) hr (fun hr => ?_)
      refine j_iload (pc := 139) d_Paths_fewestOwn_139 rfl ?_
      refine j_iaload (pc := 141) d_Paths_fewestOwn_141 hr (fun hr => ?_)
      refine j_aload_n (pc := 142) d_Paths_fewestOwn_142 rfl ?_
      refine j_aload_n (pc := 143) d_Paths_fewestOwn_143 rfl ?_
      refine j_getf (pc := 144) d_Paths_fewestOwn_144 (fd_Paths_25 rfl) hr (fun hr => ?_)
      refine j_iload (pc := 147) d_Paths_fewestOwn_147 rfl ?_
      refine j_iaload (pc := 149) d_Paths_fewestOwn_149 hr (fun hr => ?_)
      obtain ⟨ha, hr⟩ := chk_some hr
      refine j_callG (pc := 150) (stk := [(0, hpV h (hpV h v0 6) v8), (2, v1), (0, hpV h (hpV h v0 6) v8), (2, v1), (2, v0)]) (as := [(2, v1), (0, hpV h (hpV h v0 6) v8)]) (P := (fun v9 => ((0 : Nat), v9) :: [(0, hpV h (hpV h v0 6) v8), (2, v1), (2, v0)])) (tg := 0) (My := M_Graph_stepsFrom) (mRunV (as := [(0, hpV h (hpV h v0 6) v8)]) (st := [(0, hpV h (hpV h v0 6) v8), (2, v1), (2, v0)]) d_Paths_fewestOwn_150 (mc_Graph_stepsFrom (by decide)) rfl (mv_Graph_stepsFrom tb_ml_Paths_95) rfl (Nat.le_of_ble_eq_true rfl) ha) (fun v => rfl) rfl hr (fun r1 h1 => t_Graph_stepsFrom _ _ _ _ h1) (fun x2 h1 hr => ?_)
      refine j_iload (pc := 153) d_Paths_fewestOwn_153 rfl ?_
      refine j_iand (pc := 155) d_Paths_fewestOwn_155 ?_
      refine j_iload (pc := 156) d_Paths_fewestOwn_156 rfl ?_
      refine j_iconst (pc := 158) d_Paths_fewestOwn_158 ?_
      refine j_iadd (pc := 159) d_Paths_fewestOwn_159 ?_
      obtain ⟨ha, hr⟩ := chk_some hr
      refine j_callG (pc := 160) (stk := [(0, w32 (v6 + 1)), (0, qand x2 v4), (0, hpV h (hpV h v0 6) v8), (2, v1), (2, v0)]) (as := [(2, v0), (2, v1), (0, hpV h (hpV h v0 6) v8), (0, qand x2 v4), (0, w32 (v6 + 1))]) (P := (fun v9 => [])) (tg := 3) (My := M_Paths_visit) (mRunV (as := [(2, v1), (0, hpV h (hpV h v0 6) v8), (0, qand x2 v4), (0, w32 (v6 + 1))]) (st := []) d_Paths_fewestOwn_160 (mc_Paths_visit (by decide)) rfl (mv_Paths_visit tb_ml_Paths_65) rfl (Nat.le_of_ble_eq_true rfl) ha) (fun v => rfl) rfl hr (fun r1 h1 => t_Paths_visit _ _ _ _ _ _ _ h1) (fun x4 h3 hr => ?_)
      refine j_iincW (pc := 163) (L := fun x5 => [(2, v0), (2, v1), (9, 0), (9, 0), (0, v4), (9, 0), (0, v6), (0, v7), (0, x5)]) d_Paths_fewestOwn_163 rfl (fun _ => rfl) hr (fun x5 hr => ?_)
      refine j_goto (pc := 166) (tgt := 126) d_Paths_fewestOwn_166 ?_
      exact mJ_weak (ls' := [(2, v0), (2, v1), (9, 0), (9, 0), (0, v4), (9, 0), (0, v6), (0, v7), (0, x5)]) (mwk_s (mwk_s (mwk_s (mwk_s (mwk_s (mwk_s (mwk_s (mwk_s (mwk_s mwk_n))))))))) (hR126 h3 _ hr)
theorem t_Paths_fewestOwn_J95 {G : mG} {r : mR} {v0 v1 v4 v5 v6 : Int} {h : mH} {K107 : mH → Option mR} {R19 : mH → Int → Int → Option mR} (hK107 : ∀ (h : mH) , K107 h  = some r → mJ G M_Paths_fewestOwn 107 [(2, v0), (2, v1), (9, 0), (9, 0), (9, 0), (9, 0), (9, 0), (9, 0), (9, 0)] [] h r) (hR19 : ∀ (h : mH) (w5 w6 : Int) , R19 h w5 w6 = some r → mJ G M_Paths_fewestOwn 19 [(2, v0), (2, v1), (9, 0), (9, 0), (0, v4), (0, w5), (0, w6), (9, 0), (9, 0)] [] h r) (hr : f_Paths_fewestOwn_J95 K107 R19 v0 v1 v4 v5 v6 h = some r) : mJ G M_Paths_fewestOwn 95 [(2, v0), (2, v1), (9, 0), (9, 0), (0, v4), (0, v5), (0, v6), (9, 0), (9, 0)] [] h r := by
  unfold f_Paths_fewestOwn_J95 at hr
  refine j_aload_n (pc := 95) d_Paths_fewestOwn_95 rfl ?_
  refine j_aload_n (pc := 96) d_Paths_fewestOwn_96 rfl ?_
  refine j_getf (pc := 97) d_Paths_fewestOwn_97 (fd_Paths_98 rfl) hr (fun hr => ?_)
  obtain ⟨ha, hr⟩ := chk_some hr
  refine j_callG (pc := 100) (stk := [(0, hpV h v1 4), (2, v0)]) (as := [(2, v0), (0, hpV h v1 4)]) (P := (fun v9 => ((0 : Nat), v9) :: [])) (tg := 0) (My := M_Paths_farOf) (mRunV (as := [(0, hpV h v1 4)]) (st := []) d_Paths_fewestOwn_100 (mc_Paths_farOf (by decide)) rfl (mv_Paths_farOf tb_ml_Paths_53) rfl (Nat.le_of_ble_eq_true rfl) ha) (fun v => rfl) rfl hr (fun r1 h1 => t_Paths_farOf _ _ _ _ h1) (fun x2 h1 hr => ?_)
  refine j_iconst (pc := 103) d_Paths_fewestOwn_103 ?_
  refine j_icmp_eq (pc := 104) (tgt := 116) d_Paths_fewestOwn_104 hr (fun hr => ?_) (fun hr => ?_)
  · refine j_aload_n (pc := 116) d_Paths_fewestOwn_116 rfl ?_
    refine j_getf (pc := 117) d_Paths_fewestOwn_117 (fd_Paths_50 rfl) hr (fun hr => ?_)
    refine j_istoreW (pc := 120) (L := fun x3 => [(2, v0), (2, v1), (9, 0), (9, 0), (0, v4), (0, v5), (0, v6), (0, x3), (9, 0)]) d_Paths_fewestOwn_120 (fun _ => rfl) hr (fun x3 hr => ?_)
    refine j_iload (pc := 122) d_Paths_fewestOwn_122 rfl ?_
    refine j_istore (pc := 124) (ls' := [(2, v0), (2, v1), (9, 0), (9, 0), (0, v4), (0, v5), (0, v6), (0, x3), (0, v5)]) d_Paths_fewestOwn_124 rfl ?_
    refine mJ_weak (ls' := [(2, v0), (2, v1), (9, 0), (9, 0), (0, v4), (9, 0), (0, v6), (0, x3), (0, v5)]) (mwk_s (mwk_s (mwk_s (mwk_s (mwk_s (mwk_d (mwk_s (mwk_s (mwk_s mwk_n))))))))) (t_Paths_fewestOwn_L126 (fun h4  hr => ?_) _ _ _ hr)
    · refine j_iload (pc := 169) d_Paths_fewestOwn_169 rfl ?_
      refine j_istore (pc := 171) (ls' := [(2, v0), (2, v1), (9, 0), (9, 0), (0, v4), (0, x3), (0, v6), (0, x3), (9, 0)]) d_Paths_fewestOwn_171 rfl ?_
      refine j_iincW (pc := 173) (L := fun x5 => [(2, v0), (2, v1), (9, 0), (9, 0), (0, v4), (0, x3), (0, x5), (0, x3), (9, 0)]) d_Paths_fewestOwn_173 rfl (fun _ => rfl) hr (fun x5 hr => ?_)
      refine j_goto (pc := 176) (tgt := 19) d_Paths_fewestOwn_176 ?_
      exact mJ_weak (ls' := [(2, v0), (2, v1), (9, 0), (9, 0), (0, v4), (0, x3), (0, x5), (9, 0), (9, 0)]) (mwk_s (mwk_s (mwk_s (mwk_s (mwk_s (mwk_s (mwk_s (mwk_d (mwk_s mwk_n))))))))) (hR19 h4 _ _ hr)
  · exact mJ_weak (ls' := [(2, v0), (2, v1), (9, 0), (9, 0), (9, 0), (9, 0), (9, 0), (9, 0), (9, 0)]) (mwk_s (mwk_s (mwk_s (mwk_s (mwk_d (mwk_d (mwk_d (mwk_s (mwk_s mwk_n))))))))) (hK107 h1  hr)
theorem t_Paths_fewestOwn_L19 {G : mG} {r : mR} {v0 v1 v4 : Int} {K107 : mH → Option mR} (hK107 : ∀ (h : mH) , K107 h  = some r → mJ G M_Paths_fewestOwn 107 [(2, v0), (2, v1), (9, 0), (9, 0), (9, 0), (9, 0), (9, 0), (9, 0), (9, 0)] [] h r) : ∀ (n : Nat) (h : mH) (v5 v6 : Int), f_Paths_fewestOwn_L19 K107 v0 v1 v4 n h v5 v6 = some r → mJ G M_Paths_fewestOwn 19 [(2, v0), (2, v1), (9, 0), (9, 0), (0, v4), (0, v5), (0, v6), (9, 0), (9, 0)] [] h r := by
  intro n
  induction n with
  | zero =>
    intro h v5 v6 hr
    rw [f_Paths_fewestOwn_L19] at hr
    cases hr
  | succ n hR19 =>
    intro h v5 v6 hr
    rw [f_Paths_fewestOwn_L19] at hr
    refine j_iload (pc := 19) d_Paths_fewestOwn_19 rfl ?_
    refine j_aload_n (pc := 21) d_Paths_fewestOwn_21 rfl ?_
    refine j_getf (pc := 22) d_Paths_fewestOwn_22 (fd_Paths_47 rfl) hr (fun hr => ?_)
    refine j_icmp_gt (pc := 25) (tgt := 179) d_Paths_fewestOwn_25 hr (fun hr => ?_) (fun hr => ?_)
    · refine j_iconst (pc := 179) d_Paths_fewestOwn_179 ?_
      exact j_iret (pc := 180) d_Paths_fewestOwn_180 rfl hr
    · refine j_iload (pc := 28) d_Paths_fewestOwn_28 rfl ?_
      refine j_aload_n (pc := 30) d_Paths_fewestOwn_30 rfl ?_
      refine j_getf (pc := 31) d_Paths_fewestOwn_31 (fd_Paths_50 rfl) hr (fun hr => ?_)
      refine j_icmp_ge (pc := 34) (tgt := 179) d_Paths_fewestOwn_34 hr (fun hr => ?_) (fun hr => ?_)
      · refine j_iconst (pc := 179) d_Paths_fewestOwn_179 ?_
        exact j_iret (pc := 180) d_Paths_fewestOwn_180 rfl hr
      · refine j_iload (pc := 37) d_Paths_fewestOwn_37 rfl ?_
        refine j_istore (pc := 39) (ls' := [(2, v0), (2, v1), (9, 0), (9, 0), (0, v4), (0, v5), (0, v6), (0, v5), (9, 0)]) d_Paths_fewestOwn_39 rfl ?_
        refine mJ_weak (ls' := [(2, v0), (2, v1), (9, 0), (9, 0), (0, v4), (0, v5), (0, v6), (0, v5), (9, 0)]) (mwk_s (mwk_s (mwk_s (mwk_s (mwk_s (mwk_s (mwk_s (mwk_s (mwk_s mwk_n))))))))) (t_Paths_fewestOwn_L41 (fun h1  hr => ?_) _ _ _ hr)
        · exact mJ_weak (ls' := [(2, v0), (2, v1), (9, 0), (9, 0), (0, v4), (0, v5), (0, v6), (9, 0), (9, 0)]) (mwk_s (mwk_s (mwk_s (mwk_s (mwk_s (mwk_s (mwk_s (mwk_s (mwk_s mwk_n))))))))) (t_Paths_fewestOwn_J95 hK107 hR19 hr)
theorem t_Paths_fewestOwn {G : mG} (h : mH) (v0 v1 v2 v3 : Int) (r : mR) (hr : f_Paths_fewestOwn h v0 v1 v2 v3 = some r) : mJM G M_Paths_fewestOwn [(2, v0), (2, v1), (0, v2), (0, v3)] h r := by
  refine mJM_of (L := [(2, v0), (2, v1), (0, v2), (0, v3), (9, 0), (9, 0), (9, 0), (9, 0), (9, 0)]) rfl rfl rfl (Nat.le_of_ble_eq_true rfl) ?_
  unfold f_Paths_fewestOwn at hr
  refine j_iconst (pc := 0) d_Paths_fewestOwn_0 ?_
  refine j_iconst (pc := 1) d_Paths_fewestOwn_1 ?_
  refine j_iload_n (pc := 2) d_Paths_fewestOwn_2 rfl ?_
  refine j_imul (pc := 3) d_Paths_fewestOwn_3 ?_
  refine j_ishl (pc := 4) d_Paths_fewestOwn_4 ?_
  refine j_istoreW (pc := 5) (L := fun x1 => [(2, v0), (2, v1), (0, v2), (0, v3), (0, x1), (9, 0), (9, 0), (9, 0), (9, 0)]) d_Paths_fewestOwn_5 (fun _ => rfl) hr (fun x1 hr => ?_)
  refine j_aload_n (pc := 7) d_Paths_fewestOwn_7 rfl ?_
  refine j_aload_n (pc := 8) d_Paths_fewestOwn_8 rfl ?_
  refine j_iload_n (pc := 9) d_Paths_fewestOwn_9 rfl ?_
  obtain ⟨ha, hr⟩ := chk_some hr
  refine j_callG (pc := 10) (stk := [(0, v2), (2, v1), (2, v0)]) (as := [(2, v0), (2, v1), (0, v2)]) (P := (fun v9 => [])) (tg := 3) (My := M_Paths_begin) (mRunV (as := [(2, v1), (0, v2)]) (st := []) d_Paths_fewestOwn_10 (mc_Paths_begin (by decide)) rfl (mv_Paths_begin tb_ml_Paths_43) rfl (Nat.le_of_ble_eq_true rfl) ha) (fun v => rfl) rfl hr (fun r1 h1 => t_Paths_begin _ _ _ _ _ h1) (fun x3 h2 hr => ?_)
  refine j_iconst (pc := 13) d_Paths_fewestOwn_13 ?_
  refine j_istore (pc := 14) (ls' := [(2, v0), (2, v1), (0, v2), (0, v3), (0, x1), (0, 0), (9, 0), (9, 0), (9, 0)]) d_Paths_fewestOwn_14 rfl ?_
  refine j_iconst (pc := 16) d_Paths_fewestOwn_16 ?_
  refine j_istore (pc := 17) (ls' := [(2, v0), (2, v1), (0, v2), (0, v3), (0, x1), (0, 0), (0, 0), (9, 0), (9, 0)]) d_Paths_fewestOwn_17 rfl ?_
  refine mJ_weak (ls' := [(2, v0), (2, v1), (9, 0), (9, 0), (0, x1), (0, 0), (0, 0), (9, 0), (9, 0)]) (mwk_s (mwk_s (mwk_d (mwk_d (mwk_s (mwk_s (mwk_s (mwk_s (mwk_s mwk_n))))))))) (t_Paths_fewestOwn_L19 (fun h4  hr => ?_) _ _ _ _ hr)
  · refine j_aload_n (pc := 107) d_Paths_fewestOwn_107 rfl ?_
    refine j_aload_n (pc := 108) d_Paths_fewestOwn_108 rfl ?_
    refine j_getf (pc := 109) d_Paths_fewestOwn_109 (fd_Paths_98 rfl) hr (fun hr => ?_)
    obtain ⟨ha, hr⟩ := chk_some hr
    refine j_callG (pc := 112) (stk := [(0, hpV h4 v1 4), (2, v0)]) (as := [(2, v0), (0, hpV h4 v1 4)]) (P := (fun v9 => ((0 : Nat), v9) :: [])) (tg := 0) (My := M_Paths_farOf) (mRunV (as := [(0, hpV h4 v1 4)]) (st := []) d_Paths_fewestOwn_112 (mc_Paths_farOf (by decide)) rfl (mv_Paths_farOf tb_ml_Paths_53) rfl (Nat.le_of_ble_eq_true rfl) ha) (fun v => rfl) rfl hr (fun r1 h1 => t_Paths_farOf _ _ _ _ h1) (fun x6 h5 hr => ?_)
    exact j_iret (pc := 115) d_Paths_fewestOwn_115 rfl hr
def M_Nb_fewestOf : mM := ("NineBars", ⟨"NineBars", "fewestOf", "(I)I"⟩, prog_1_method_26_code, 2, some .int, [], 13)
theorem tb_co_Nb_fewestOf : mTB (Cond.code ⟨"NineBars", "fewestOf", "(I)I"⟩ prog_1_method_26_code 2 (some .int)) := tbq5 118 (by decide +kernel) rfl
theorem mc_Nb_fewestOf {M : mM} (hd : 13 < mDp M) : mCal M M_Nb_fewestOf 1 := ⟨tb_co_Nb_fewestOf, tb_in_NineBars, ⟨by decide +kernel, by decide +kernel⟩, by decide +kernel, hd, by decide⟩
theorem d_Nb_fewestOf_0 : decode prog_1_method_26_code 0 = .ok (.aload_n 0, 1) := by decide +kernel
theorem d_Nb_fewestOf_1 : decode prog_1_method_26_code 1 = .ok (.iload_n 1, 1) := by decide +kernel
theorem d_Nb_fewestOf_2 : decode prog_1_method_26_code 2 = .ok (.invokevirtual 142, 3) := by decide +kernel
theorem d_Nb_fewestOf_5 : decode prog_1_method_26_code 5 = .ok (.aload_n 0, 1) := by decide +kernel
theorem d_Nb_fewestOf_6 : decode prog_1_method_26_code 6 = .ok (.invokevirtual 260, 3) := by decide +kernel
theorem d_Nb_fewestOf_9 : decode prog_1_method_26_code 9 = .ok (.aload_n 0, 1) := by decide +kernel
theorem d_Nb_fewestOf_10 : decode prog_1_method_26_code 10 = .ok (.getfield 64, 3) := by decide +kernel
theorem d_Nb_fewestOf_13 : decode prog_1_method_26_code 13 = .ok (.aload_n 0, 1) := by decide +kernel
theorem d_Nb_fewestOf_14 : decode prog_1_method_26_code 14 = .ok (.getfield 48, 3) := by decide +kernel
theorem d_Nb_fewestOf_17 : decode prog_1_method_26_code 17 = .ok (.aload_n 0, 1) := by decide +kernel
theorem d_Nb_fewestOf_18 : decode prog_1_method_26_code 18 = .ok (.getfield 27, 3) := by decide +kernel
theorem d_Nb_fewestOf_21 : decode prog_1_method_26_code 21 = .ok (.aload_n 0, 1) := by decide +kernel
theorem d_Nb_fewestOf_22 : decode prog_1_method_26_code 22 = .ok (.getfield 27, 3) := by decide +kernel
theorem d_Nb_fewestOf_25 : decode prog_1_method_26_code 25 = .ok (.getfield 149, 3) := by decide +kernel
theorem d_Nb_fewestOf_28 : decode prog_1_method_26_code 28 = .ok (.invokevirtual 198, 3) := by decide +kernel
theorem d_Nb_fewestOf_31 : decode prog_1_method_26_code 31 = .ok (.iload_n 1, 1) := by decide +kernel
theorem d_Nb_fewestOf_32 : decode prog_1_method_26_code 32 = .ok (.invokevirtual 301, 3) := by decide +kernel
theorem tb_ml_Nb_301 : mTB (Cond.methodLink "NineBars" 301 ⟨"NineBars$Paths", "fewestOwn", "(LNineBars$Graph;II)I"⟩) := tbq5 119 (by decide +kernel) rfl
theorem tb_im_Paths_fewestOwn : mTB (Cond.instanceMethod ⟨"NineBars$Paths", "fewestOwn", "(LNineBars$Graph;II)I"⟩) := tbq5 120 (by decide +kernel) rfl
theorem tb_se_Paths_fewestOwn : mTB (Cond.selects "NineBars$Paths" ⟨"NineBars$Paths", "fewestOwn", "(LNineBars$Graph;II)I"⟩ ⟨"NineBars$Paths", "fewestOwn", "(LNineBars$Graph;II)I"⟩) := tbq5 121 (by decide +kernel) rfl
theorem mv_Paths_fewestOwn {M : mM} {idx : Nat} (h : mTB (Cond.methodLink (mO M) idx ⟨"NineBars$Paths", "fewestOwn", "(LNineBars$Graph;II)I"⟩)) : mCaV M M_Paths_fewestOwn idx 7 := ⟨h, tb_im_Paths_fewestOwn, tb_se_Paths_fewestOwn, by decide, TX7, 7, rfl⟩
theorem d_Nb_fewestOf_35 : decode prog_1_method_26_code 35 = .ok (.ireturn, 1) := by decide +kernel
theorem t_Nb_fewestOf {G : mG} (h : mH) (v0 v1 : Int) (r : mR) (hr : f_Nb_fewestOf h v0 v1 = some r) : mJM G M_Nb_fewestOf [(2, v0), (0, v1)] h r := by
  refine mJM_of (L := [(2, v0), (0, v1)]) rfl rfl rfl (Nat.le_of_ble_eq_true rfl) ?_
  unfold f_Nb_fewestOf at hr
  refine j_aload_n (pc := 0) d_Nb_fewestOf_0 rfl ?_
  refine j_iload_n (pc := 1) d_Nb_fewestOf_1 rfl ?_
  obtain ⟨ha, hr⟩ := chk_some hr
  refine j_callG (pc := 2) (stk := [(0, v1), (2, v0)]) (as := [(2, v0), (0, v1)]) (P := (fun v9 => [])) (tg := 3) (My := M_Nb_needBar) (mRunV (as := [(0, v1)]) (st := []) d_Nb_fewestOf_2 (mc_Nb_needBar (by decide)) rfl (mv_Nb_needBar tb_ml_Nb_142) rfl (Nat.le_of_ble_eq_true rfl) ha) (fun v => rfl) rfl hr (fun r1 h1 => t_Nb_needBar _ _ _ _ h1) (fun x2 h1 hr => ?_)
  refine j_aload_n (pc := 5) d_Nb_fewestOf_5 rfl ?_
  obtain ⟨ha, hr⟩ := chk_some hr
  refine j_callG (pc := 6) (stk := [(2, v0)]) (as := [(2, v0)]) (P := (fun v9 => [])) (tg := 3) (My := M_Nb_needGraph) (mRunV (as := []) (st := []) d_Nb_fewestOf_6 (mc_Nb_needGraph (by decide)) rfl (mv_Nb_needGraph tb_ml_Nb_260) rfl (Nat.le_of_ble_eq_true rfl) ha) (fun v => rfl) rfl hr (fun r1 h1 => t_Nb_needGraph _ _ _ h1) (fun x4 h3 hr => ?_)
  refine j_aload_n (pc := 9) d_Nb_fewestOf_9 rfl ?_
  refine j_getf (pc := 10) d_Nb_fewestOf_10 (fd_Nb_64 rfl) hr (fun hr => ?_)
  refine j_aload_n (pc := 13) d_Nb_fewestOf_13 rfl ?_
  refine j_getf (pc := 14) d_Nb_fewestOf_14 (fd_Nb_48 rfl) hr (fun hr => ?_)
  refine j_aload_n (pc := 17) d_Nb_fewestOf_17 rfl ?_
  refine j_getf (pc := 18) d_Nb_fewestOf_18 (fd_Nb_27 rfl) hr (fun hr => ?_)
  refine j_aload_n (pc := 21) d_Nb_fewestOf_21 rfl ?_
  refine j_getf (pc := 22) d_Nb_fewestOf_22 (fd_Nb_27 rfl) hr (fun hr => ?_)
  refine j_getf (pc := 25) d_Nb_fewestOf_25 (fd_Nb_149 rfl) hr (fun hr => ?_)
  obtain ⟨ha, hr⟩ := chk_some hr
  refine j_callG (pc := 28) (stk := [(2, hpV h3 (hpV h3 v0 6) 9), (2, hpV h3 v0 6), (2, hpV h3 v0 10), (2, hpV h3 v0 13)]) (as := [(2, hpV h3 v0 6), (2, hpV h3 (hpV h3 v0 6) 9)]) (P := (fun v9 => ((0 : Nat), v9) :: [(2, hpV h3 v0 10), (2, hpV h3 v0 13)])) (tg := 0) (My := M_Box_standOf) (mRunV (as := [(2, hpV h3 (hpV h3 v0 6) 9)]) (st := [(2, hpV h3 v0 10), (2, hpV h3 v0 13)]) d_Nb_fewestOf_28 (mc_Box_standOf (by decide)) rfl (mv_Box_standOf tb_ml_Nb_198) rfl (Nat.le_of_ble_eq_true rfl) ha) (fun v => rfl) rfl hr (fun r1 h1 => t_Box_standOf _ _ _ _ h1) (fun x6 h5 hr => ?_)
  refine j_iload_n (pc := 31) d_Nb_fewestOf_31 rfl ?_
  obtain ⟨ha, hr⟩ := chk_some hr
  refine j_callG (pc := 32) (stk := [(0, v1), (0, x6), (2, hpV h3 v0 10), (2, hpV h3 v0 13)]) (as := [(2, hpV h3 v0 13), (2, hpV h3 v0 10), (0, x6), (0, v1)]) (P := (fun v9 => ((0 : Nat), v9) :: [])) (tg := 0) (My := M_Paths_fewestOwn) (mRunV (as := [(2, hpV h3 v0 10), (0, x6), (0, v1)]) (st := []) d_Nb_fewestOf_32 (mc_Paths_fewestOwn (by decide)) rfl (mv_Paths_fewestOwn tb_ml_Nb_301) rfl (Nat.le_of_ble_eq_true rfl) ha) (fun v => rfl) rfl hr (fun r1 h1 => t_Paths_fewestOwn _ _ _ _ _ _ h1) (fun x8 h7 hr => ?_)
  exact j_iret (pc := 35) d_Nb_fewestOf_35 rfl hr
