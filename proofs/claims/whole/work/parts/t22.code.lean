def M_Nb_needBar : mM := ("NineBars", ⟨"NineBars", "needBar", "(I)V"⟩, prog_1_method_48_code, 2, none, [], 1)
theorem tb_co_Nb_needBar : mTB (Cond.code ⟨"NineBars", "needBar", "(I)V"⟩ prog_1_method_48_code 2 (none)) := tbq4 114 (by decide +kernel) rfl
theorem mc_Nb_needBar {M : mM} (hd : 1 < mDp M) : mCal M M_Nb_needBar 1 := ⟨tb_co_Nb_needBar, tb_in_NineBars, ⟨by decide +kernel, by decide +kernel⟩, by decide +kernel, hd, by decide⟩
theorem d_Nb_needBar_0 : decode prog_1_method_48_code 0 = .ok (.iload_n 1, 1) := by decide +kernel
theorem d_Nb_needBar_1 : decode prog_1_method_48_code 1 = .ok (.ifCond .lt 14, 3) := by decide +kernel
theorem d_Nb_needBar_15 : decode prog_1_method_48_code 15 = .ok (.new 171, 3) := by decide +kernel
theorem d_Nb_needBar_18 : decode prog_1_method_48_code 18 = .ok (.dup, 1) := by decide +kernel
theorem d_Nb_needBar_19 : decode prog_1_method_48_code 19 = .ok (.ldc_w 440, 3) := by decide +kernel
theorem d_Nb_needBar_22 : decode prog_1_method_48_code 22 = .ok (.invokespecial 175, 3) := by decide +kernel
theorem d_Nb_needBar_25 : decode prog_1_method_48_code 25 = .ok (.athrow, 1) := by decide +kernel
theorem tb_cl_Nb_171 : mTB (Cond.classLink "NineBars" 171 "java/util/NoSuchElementException") := tbq4 115 (by decide +kernel) rfl
theorem tb_in_java_util_NoSuchElementException : mTB (Cond.initialized "java/util/NoSuchElementException") := tbq1 23 (by decide +kernel) rfl
theorem d_Nb_needBar_4 : decode prog_1_method_48_code 4 = .ok (.iload_n 1, 1) := by decide +kernel
theorem d_Nb_needBar_5 : decode prog_1_method_48_code 5 = .ok (.aload_n 0, 1) := by decide +kernel
theorem d_Nb_needBar_6 : decode prog_1_method_48_code 6 = .ok (.getfield 27, 3) := by decide +kernel
theorem tb_fl_Nb_222 : mTN (Cond.fieldLinkNest "NineBars" 222 "NineBars$Box" "bars" "I" "NineBars") := tbqn1 86 (by decide +kernel) rfl
theorem fd_Nb_222 {M : mM} (h : mO M = "NineBars") : mFld M 222 0 2 0 := ⟨_, _, _, tyX0, rfl, by decide, by decide, rfl, uw_0, tyX0_ok, nmX0, by rw [h]; exact Or.inr ⟨_, tb_fl_Nb_222⟩⟩
theorem d_Nb_needBar_9 : decode prog_1_method_48_code 9 = .ok (.getfield 222, 3) := by decide +kernel
theorem d_Nb_needBar_12 : decode prog_1_method_48_code 12 = .ok (.if_icmp .lt 14, 3) := by decide +kernel
theorem d_Nb_needBar_26 : decode prog_1_method_48_code 26 = .ok (.return_, 1) := by decide +kernel
theorem t_Nb_needBar {G : mG} (h : mH) (v0 v1 : Int) (r : mR) (hr : f_Nb_needBar h v0 v1 = some r) : mJM G M_Nb_needBar [(2, v0), (0, v1)] h r := by
  refine mJM_of (L := [(2, v0), (0, v1)]) rfl rfl rfl (Nat.le_of_ble_eq_true rfl) ?_
  unfold f_Nb_needBar at hr
  refine j_iload_n (pc := 0) d_Nb_needBar_0 rfl ?_
  refine j_if_lt (pc := 1) (tgt := 15) d_Nb_needBar_1 hr (fun hr => ?_) (fun hr => ?_)
  · exact j_throwW (pc := 15) (x9 := 13) (text := "no such bar") (k := 11) d_Nb_needBar_15 d_Nb_needBar_18 d_Nb_needBar_19 d_Nb_needBar_22 d_Nb_needBar_25 rfl (by decide +kernel) tb_cl_Nb_171 tb_in_java_util_NoSuchElementException (by decide +kernel) rfl (Nat.le_of_ble_eq_true rfl) hr
  · refine j_iload_n (pc := 4) d_Nb_needBar_4 rfl ?_
    refine j_aload_n (pc := 5) d_Nb_needBar_5 rfl ?_
    refine j_getf (pc := 6) d_Nb_needBar_6 (fd_Nb_27 rfl) hr (fun hr => ?_)
    refine j_getf (pc := 9) d_Nb_needBar_9 (fd_Nb_222 rfl) hr (fun hr => ?_)
    refine j_icmp_lt (pc := 12) (tgt := 26) d_Nb_needBar_12 hr (fun hr => ?_) (fun hr => ?_)
    · exact j_vret (pc := 26) d_Nb_needBar_26 rfl hr
    · exact j_throwW (pc := 15) (x9 := 13) (text := "no such bar") (k := 11) d_Nb_needBar_15 d_Nb_needBar_18 d_Nb_needBar_19 d_Nb_needBar_22 d_Nb_needBar_25 rfl (by decide +kernel) tb_cl_Nb_171 tb_in_java_util_NoSuchElementException (by decide +kernel) rfl (Nat.le_of_ble_eq_true rfl) hr
def M_Box_isWorn : mM := ("NineBars$Box", ⟨"NineBars$Box", "isWorn", "(I)Z"⟩, prog_2_method_16_code, 2, some .boolean, [], 1)
theorem tb_co_Box_isWorn : mTB (Cond.code ⟨"NineBars$Box", "isWorn", "(I)Z"⟩ prog_2_method_16_code 2 (some .boolean)) := tbq3 37 (by decide +kernel) rfl
theorem mc_Box_isWorn {M : mM} (hd : 1 < mDp M) : mCal M M_Box_isWorn 1 := ⟨tb_co_Box_isWorn, tb_in_NineBars_Box, ⟨by decide +kernel, by decide +kernel⟩, by decide +kernel, hd, by decide⟩
theorem d_Box_isWorn_0 : decode prog_2_method_16_code 0 = .ok (.iload_n 1, 1) := by decide +kernel
theorem d_Box_isWorn_1 : decode prog_2_method_16_code 1 = .ok (.ifCond .lt 35, 3) := by decide +kernel
theorem d_Box_isWorn_36 : decode prog_2_method_16_code 36 = .ok (.iconst 0, 1) := by decide +kernel
theorem d_Box_isWorn_37 : decode prog_2_method_16_code 37 = .ok (.ireturn, 1) := by decide +kernel
theorem d_Box_isWorn_4 : decode prog_2_method_16_code 4 = .ok (.iload_n 1, 1) := by decide +kernel
theorem d_Box_isWorn_5 : decode prog_2_method_16_code 5 = .ok (.aload_n 0, 1) := by decide +kernel
theorem d_Box_isWorn_6 : decode prog_2_method_16_code 6 = .ok (.getfield 52, 3) := by decide +kernel
theorem d_Box_isWorn_9 : decode prog_2_method_16_code 9 = .ok (.if_icmp .ge 27, 3) := by decide +kernel
theorem d_Box_isWorn_12 : decode prog_2_method_16_code 12 = .ok (.aload_n 0, 1) := by decide +kernel
theorem d_Box_isWorn_13 : decode prog_2_method_16_code 13 = .ok (.getfield 61, 3) := by decide +kernel
theorem d_Box_isWorn_16 : decode prog_2_method_16_code 16 = .ok (.ifCond .le 20, 3) := by decide +kernel
theorem d_Box_isWorn_19 : decode prog_2_method_16_code 19 = .ok (.aload_n 0, 1) := by decide +kernel
theorem d_Box_isWorn_20 : decode prog_2_method_16_code 20 = .ok (.getfield 24, 3) := by decide +kernel
theorem d_Box_isWorn_23 : decode prog_2_method_16_code 23 = .ok (.iload_n 1, 1) := by decide +kernel
theorem d_Box_isWorn_24 : decode prog_2_method_16_code 24 = .ok (.iaload, 1) := by decide +kernel
theorem d_Box_isWorn_25 : decode prog_2_method_16_code 25 = .ok (.aload_n 0, 1) := by decide +kernel
theorem d_Box_isWorn_26 : decode prog_2_method_16_code 26 = .ok (.getfield 61, 3) := by decide +kernel
theorem d_Box_isWorn_29 : decode prog_2_method_16_code 29 = .ok (.if_icmp .lt 7, 3) := by decide +kernel
theorem d_Box_isWorn_32 : decode prog_2_method_16_code 32 = .ok (.iconst 1, 1) := by decide +kernel
theorem d_Box_isWorn_33 : decode prog_2_method_16_code 33 = .ok (.goto 4, 3) := by decide +kernel
theorem t_Box_isWorn_J36 {G : mG} {r : mR} {h : mH}  (hr : f_Box_isWorn_J36 h = some r) : mJ G M_Box_isWorn 36 [(9, 0), (9, 0)] [] h r := by
  unfold f_Box_isWorn_J36 at hr
  refine j_iconst (pc := 36) d_Box_isWorn_36 ?_
  exact j_zret (pc := 37) d_Box_isWorn_37 rfl hr
theorem t_Box_isWorn {G : mG} (h : mH) (v0 v1 : Int) (r : mR) (hr : f_Box_isWorn h v0 v1 = some r) : mJM G M_Box_isWorn [(2, v0), (0, v1)] h r := by
  refine mJM_of (L := [(2, v0), (0, v1)]) rfl rfl rfl (Nat.le_of_ble_eq_true rfl) ?_
  unfold f_Box_isWorn at hr
  refine j_iload_n (pc := 0) d_Box_isWorn_0 rfl ?_
  refine j_if_lt (pc := 1) (tgt := 36) d_Box_isWorn_1 hr (fun hr => ?_) (fun hr => ?_)
  · exact mJ_weak (ls' := [(9, 0), (9, 0)]) (mwk_d (mwk_d mwk_n)) (t_Box_isWorn_J36  hr)
  · refine j_iload_n (pc := 4) d_Box_isWorn_4 rfl ?_
    refine j_aload_n (pc := 5) d_Box_isWorn_5 rfl ?_
    refine j_getf (pc := 6) d_Box_isWorn_6 (fd_Box_52 rfl) hr (fun hr => ?_)
    refine j_icmp_ge (pc := 9) (tgt := 36) d_Box_isWorn_9 hr (fun hr => ?_) (fun hr => ?_)
    · exact mJ_weak (ls' := [(9, 0), (9, 0)]) (mwk_d (mwk_d mwk_n)) (t_Box_isWorn_J36  hr)
    · refine j_aload_n (pc := 12) d_Box_isWorn_12 rfl ?_
      refine j_getf (pc := 13) d_Box_isWorn_13 (fd_Box_61 rfl) hr (fun hr => ?_)
      refine j_if_le (pc := 16) (tgt := 36) d_Box_isWorn_16 hr (fun hr => ?_) (fun hr => ?_)
      · exact mJ_weak (ls' := [(9, 0), (9, 0)]) (mwk_d (mwk_d mwk_n)) (t_Box_isWorn_J36  hr)
      · refine j_aload_n (pc := 19) d_Box_isWorn_19 rfl ?_
        refine j_getf (pc := 20) d_Box_isWorn_20 (fd_Box_24 rfl) hr (fun hr => ?_)
        refine j_iload_n (pc := 23) d_Box_isWorn_23 rfl ?_
        refine j_iaload (pc := 24) d_Box_isWorn_24 hr (fun hr => ?_)
        refine j_aload_n (pc := 25) d_Box_isWorn_25 rfl ?_
        refine j_getf (pc := 26) d_Box_isWorn_26 (fd_Box_61 rfl) hr (fun hr => ?_)
        refine j_icmp_lt (pc := 29) (tgt := 36) d_Box_isWorn_29 hr (fun hr => ?_) (fun hr => ?_)
        · exact mJ_weak (ls' := [(9, 0), (9, 0)]) (mwk_d (mwk_d mwk_n)) (t_Box_isWorn_J36  hr)
        · refine j_iconst (pc := 32) d_Box_isWorn_32 ?_
          refine j_goto (pc := 33) (tgt := 37) d_Box_isWorn_33 ?_
          exact j_zret (pc := 37) d_Box_isWorn_37 rfl hr
def M_Box_rulesOf : mM := ("NineBars$Box", ⟨"NineBars$Box", "rulesOf", "(I)I"⟩, prog_2_method_8_code, 4, some .int, [], 1)
theorem tb_co_Box_rulesOf : mTB (Cond.code ⟨"NineBars$Box", "rulesOf", "(I)I"⟩ prog_2_method_8_code 4 (some .int)) := tbq4 135 (by decide +kernel) rfl
theorem mc_Box_rulesOf {M : mM} (hd : 1 < mDp M) : mCal M M_Box_rulesOf 1 := ⟨tb_co_Box_rulesOf, tb_in_NineBars_Box, ⟨by decide +kernel, by decide +kernel⟩, by decide +kernel, hd, by decide⟩
theorem d_Box_rulesOf_0 : decode prog_2_method_8_code 0 = .ok (.iconst 0, 1) := by decide +kernel
theorem d_Box_rulesOf_1 : decode prog_2_method_8_code 1 = .ok (.istore_n 2, 1) := by decide +kernel
theorem d_Box_rulesOf_2 : decode prog_2_method_8_code 2 = .ok (.iconst 0, 1) := by decide +kernel
theorem d_Box_rulesOf_3 : decode prog_2_method_8_code 3 = .ok (.istore_n 3, 1) := by decide +kernel
theorem d_Box_rulesOf_4 : decode prog_2_method_8_code 4 = .ok (.iload_n 3, 1) := by decide +kernel
theorem d_Box_rulesOf_5 : decode prog_2_method_8_code 5 = .ok (.aload_n 0, 1) := by decide +kernel
theorem d_Box_rulesOf_6 : decode prog_2_method_8_code 6 = .ok (.getfield 55, 3) := by decide +kernel
theorem d_Box_rulesOf_9 : decode prog_2_method_8_code 9 = .ok (.if_icmp .ge 27, 3) := by decide +kernel
theorem d_Box_rulesOf_36 : decode prog_2_method_8_code 36 = .ok (.iload_n 2, 1) := by decide +kernel
theorem d_Box_rulesOf_37 : decode prog_2_method_8_code 37 = .ok (.ireturn, 1) := by decide +kernel
theorem d_Box_rulesOf_12 : decode prog_2_method_8_code 12 = .ok (.iload_n 2, 1) := by decide +kernel
theorem d_Box_rulesOf_13 : decode prog_2_method_8_code 13 = .ok (.aload_n 0, 1) := by decide +kernel
theorem d_Box_rulesOf_14 : decode prog_2_method_8_code 14 = .ok (.getfield 27, 3) := by decide +kernel
theorem d_Box_rulesOf_17 : decode prog_2_method_8_code 17 = .ok (.iload_n 3, 1) := by decide +kernel
theorem d_Box_rulesOf_18 : decode prog_2_method_8_code 18 = .ok (.iaload, 1) := by decide +kernel
theorem d_Box_rulesOf_19 : decode prog_2_method_8_code 19 = .ok (.iload_n 1, 1) := by decide +kernel
theorem d_Box_rulesOf_20 : decode prog_2_method_8_code 20 = .ok (.if_icmp .ne 7, 3) := by decide +kernel
theorem d_Box_rulesOf_27 : decode prog_2_method_8_code 27 = .ok (.iconst 0, 1) := by decide +kernel
theorem d_Box_rulesOf_28 : decode prog_2_method_8_code 28 = .ok (.iadd, 1) := by decide +kernel
theorem d_Box_rulesOf_29 : decode prog_2_method_8_code 29 = .ok (.istore_n 2, 1) := by decide +kernel
theorem d_Box_rulesOf_30 : decode prog_2_method_8_code 30 = .ok (.iinc 3 1, 3) := by decide +kernel
theorem d_Box_rulesOf_33 : decode prog_2_method_8_code 33 = .ok (.goto (-29), 3) := by decide +kernel
theorem d_Box_rulesOf_23 : decode prog_2_method_8_code 23 = .ok (.iconst 1, 1) := by decide +kernel
theorem d_Box_rulesOf_24 : decode prog_2_method_8_code 24 = .ok (.goto 4, 3) := by decide +kernel
theorem t_Box_rulesOf_J28 {G : mG} {r : mR} {v0 v1 v3 s0 s1 : Int} {h : mH} {R4 : mH → Int → Int → Option mR} (hR4 : ∀ (h : mH) (w2 w3 : Int) , R4 h w2 w3 = some r → mJ G M_Box_rulesOf 4 [(2, v0), (0, v1), (0, w2), (0, w3)] [] h r) (hr : f_Box_rulesOf_J28 R4 v3 s0 s1 h = some r) : mJ G M_Box_rulesOf 28 [(2, v0), (0, v1), (9, 0), (0, v3)] [(0, s1), (0, s0)] h r := by
  unfold f_Box_rulesOf_J28 at hr
  refine j_iadd (pc := 28) d_Box_rulesOf_28 ?_
  refine j_istoreW_n (pc := 29) (L := fun x1 => [(2, v0), (0, v1), (0, x1), (0, v3)]) d_Box_rulesOf_29 (fun _ => rfl) hr (fun x1 hr => ?_)
  refine j_iincW (pc := 30) (L := fun x2 => [(2, v0), (0, v1), (0, x1), (0, x2)]) d_Box_rulesOf_30 rfl (fun _ => rfl) hr (fun x2 hr => ?_)
  refine j_goto (pc := 33) (tgt := 4) d_Box_rulesOf_33 ?_
  exact mJ_weak (ls' := [(2, v0), (0, v1), (0, x1), (0, x2)]) (mwk_s (mwk_s (mwk_s (mwk_s mwk_n)))) (hR4 h _ _ hr)
theorem t_Box_rulesOf_L4 {G : mG} {r : mR} {v0 v1 : Int}  : ∀ (n : Nat) (h : mH) (v2 v3 : Int), f_Box_rulesOf_L4 v0 v1 n h v2 v3 = some r → mJ G M_Box_rulesOf 4 [(2, v0), (0, v1), (0, v2), (0, v3)] [] h r := by
  intro n
  induction n with
  | zero =>
    intro h v2 v3 hr
    rw [f_Box_rulesOf_L4] at hr
    cases hr
  | succ n hR4 =>
    intro h v2 v3 hr
    rw [f_Box_rulesOf_L4] at hr
    refine j_iload_n (pc := 4) d_Box_rulesOf_4 rfl ?_
    refine j_aload_n (pc := 5) d_Box_rulesOf_5 rfl ?_
    refine j_getf (pc := 6) d_Box_rulesOf_6 (fd_Box_55 rfl) hr (fun hr => ?_)
    refine j_icmp_ge (pc := 9) (tgt := 36) d_Box_rulesOf_9 hr (fun hr => ?_) (fun hr => ?_)
    · refine j_iload_n (pc := 36) d_Box_rulesOf_36 rfl ?_
      exact j_iret (pc := 37) d_Box_rulesOf_37 rfl hr
    · refine j_iload_n (pc := 12) d_Box_rulesOf_12 rfl ?_
      refine j_aload_n (pc := 13) d_Box_rulesOf_13 rfl ?_
      refine j_getf (pc := 14) d_Box_rulesOf_14 (fd_Box_27 rfl) hr (fun hr => ?_)
      refine j_iload_n (pc := 17) d_Box_rulesOf_17 rfl ?_
      refine j_iaload (pc := 18) d_Box_rulesOf_18 hr (fun hr => ?_)
      refine j_iload_n (pc := 19) d_Box_rulesOf_19 rfl ?_
      refine j_icmp_ne (pc := 20) (tgt := 27) d_Box_rulesOf_20 hr (fun hr => ?_) (fun hr => ?_)
      · refine j_iconst (pc := 27) d_Box_rulesOf_27 ?_
        exact mJ_weak (ls' := [(2, v0), (0, v1), (9, 0), (0, v3)]) (mwk_s (mwk_s (mwk_d (mwk_s mwk_n)))) (t_Box_rulesOf_J28 hR4 hr)
      · refine j_iconst (pc := 23) d_Box_rulesOf_23 ?_
        refine j_goto (pc := 24) (tgt := 28) d_Box_rulesOf_24 ?_
        exact mJ_weak (ls' := [(2, v0), (0, v1), (9, 0), (0, v3)]) (mwk_s (mwk_s (mwk_d (mwk_s mwk_n)))) (t_Box_rulesOf_J28 hR4 hr)
theorem t_Box_rulesOf {G : mG} (h : mH) (v0 v1 : Int) (r : mR) (hr : f_Box_rulesOf h v0 v1 = some r) : mJM G M_Box_rulesOf [(2, v0), (0, v1)] h r := by
  refine mJM_of (L := [(2, v0), (0, v1), (9, 0), (9, 0)]) rfl rfl rfl (Nat.le_of_ble_eq_true rfl) ?_
  unfold f_Box_rulesOf at hr
  refine j_iconst (pc := 0) d_Box_rulesOf_0 ?_
  refine j_istore_n (pc := 1) (ls' := [(2, v0), (0, v1), (0, 0), (9, 0)]) d_Box_rulesOf_1 rfl ?_
  refine j_iconst (pc := 2) d_Box_rulesOf_2 ?_
  refine j_istore_n (pc := 3) (ls' := [(2, v0), (0, v1), (0, 0), (0, 0)]) d_Box_rulesOf_3 rfl ?_
  refine mJ_weak (ls' := [(2, v0), (0, v1), (0, 0), (0, 0)]) (mwk_s (mwk_s (mwk_s (mwk_s mwk_n)))) (t_Box_rulesOf_L4  _ _ _ _ hr)
def M_Nb_bar : mM := ("NineBars", ⟨"NineBars", "bar", "(II)I"⟩, prog_1_method_5_code, 3, some .int, [], 3)
theorem tb_co_Nb_bar : mTB (Cond.code ⟨"NineBars", "bar", "(II)I"⟩ prog_1_method_5_code 3 (some .int)) := tbq4 110 (by decide +kernel) rfl
theorem mc_Nb_bar {M : mM} (hd : 3 < mDp M) : mCal M M_Nb_bar 2 := ⟨tb_co_Nb_bar, tb_in_NineBars, ⟨by decide +kernel, by decide +kernel⟩, by decide +kernel, hd, by decide⟩
theorem d_Nb_bar_0 : decode prog_1_method_5_code 0 = .ok (.aload_n 0, 1) := by decide +kernel
theorem d_Nb_bar_1 : decode prog_1_method_5_code 1 = .ok (.iload_n 1, 1) := by decide +kernel
theorem d_Nb_bar_2 : decode prog_1_method_5_code 2 = .ok (.invokevirtual 142, 3) := by decide +kernel
theorem tb_ml_Nb_142 : mTB (Cond.methodLink "NineBars" 142 ⟨"NineBars", "needBar", "(I)V"⟩) := tbq4 111 (by decide +kernel) rfl
theorem tb_im_Nb_needBar : mTB (Cond.instanceMethod ⟨"NineBars", "needBar", "(I)V"⟩) := tbq4 113 (by decide +kernel) rfl
theorem tb_se_Nb_needBar : mTB (Cond.selects "NineBars" ⟨"NineBars", "needBar", "(I)V"⟩ ⟨"NineBars", "needBar", "(I)V"⟩) := tbqp 20 (by decide +kernel) rfl
theorem mv_Nb_needBar {M : mM} {idx : Nat} (h : mTB (Cond.methodLink (mO M) idx ⟨"NineBars", "needBar", "(I)V"⟩)) : mCaV M M_Nb_needBar idx 10 := ⟨h, tb_im_Nb_needBar, tb_se_Nb_needBar, by decide, TX10, 19, rfl⟩
theorem d_Nb_bar_5 : decode prog_1_method_5_code 5 = .ok (.iload_n 2, 1) := by decide +kernel
theorem d_Nb_bar_6 : decode prog_1_method_5_code 6 = .ok (.tableswitch 104 0 5 #[38, 48, 58, 68, 78, 95], 38) := by decide +kernel
theorem d_Nb_bar_44 : decode prog_1_method_5_code 44 = .ok (.aload_n 0, 1) := by decide +kernel
theorem d_Nb_bar_45 : decode prog_1_method_5_code 45 = .ok (.getfield 27, 3) := by decide +kernel
theorem tb_fl_Nb_145 : mTN (Cond.fieldLinkNest "NineBars" 145 "NineBars$Box" "places" "[I" "NineBars") := tbqn1 100 (by decide +kernel) rfl
theorem fd_Nb_145 {M : mM} (h : mO M = "NineBars") : mFld M 145 0 6 2 := ⟨_, _, _, tyX0, rfl, by decide, by decide, rfl, uw_0, tyX0_ok, nmX0, by rw [h]; exact Or.inr ⟨_, tb_fl_Nb_145⟩⟩
theorem d_Nb_bar_48 : decode prog_1_method_5_code 48 = .ok (.getfield 145, 3) := by decide +kernel
theorem d_Nb_bar_51 : decode prog_1_method_5_code 51 = .ok (.iload_n 1, 1) := by decide +kernel
theorem d_Nb_bar_52 : decode prog_1_method_5_code 52 = .ok (.iaload, 1) := by decide +kernel
theorem d_Nb_bar_53 : decode prog_1_method_5_code 53 = .ok (.ireturn, 1) := by decide +kernel
theorem d_Nb_bar_54 : decode prog_1_method_5_code 54 = .ok (.aload_n 0, 1) := by decide +kernel
theorem d_Nb_bar_55 : decode prog_1_method_5_code 55 = .ok (.getfield 27, 3) := by decide +kernel
theorem tb_fl_Nb_149 : mTN (Cond.fieldLinkNest "NineBars" 149 "NineBars$Box" "at" "[I" "NineBars") := tbqn1 108 (by decide +kernel) rfl
theorem fd_Nb_149 {M : mM} (h : mO M = "NineBars") : mFld M 149 0 9 2 := ⟨_, _, _, tyX0, rfl, by decide, by decide, rfl, uw_0, tyX0_ok, nmX0, by rw [h]; exact Or.inr ⟨_, tb_fl_Nb_149⟩⟩
theorem d_Nb_bar_58 : decode prog_1_method_5_code 58 = .ok (.getfield 149, 3) := by decide +kernel
theorem d_Nb_bar_61 : decode prog_1_method_5_code 61 = .ok (.iload_n 1, 1) := by decide +kernel
theorem d_Nb_bar_62 : decode prog_1_method_5_code 62 = .ok (.iaload, 1) := by decide +kernel
theorem d_Nb_bar_63 : decode prog_1_method_5_code 63 = .ok (.ireturn, 1) := by decide +kernel
theorem d_Nb_bar_64 : decode prog_1_method_5_code 64 = .ok (.aload_n 0, 1) := by decide +kernel
theorem d_Nb_bar_65 : decode prog_1_method_5_code 65 = .ok (.getfield 27, 3) := by decide +kernel
theorem tb_fl_Nb_152 : mTN (Cond.fieldLinkNest "NineBars" 152 "NineBars$Box" "opens" "[I" "NineBars") := tbqn1 105 (by decide +kernel) rfl
theorem fd_Nb_152 {M : mM} (h : mO M = "NineBars") : mFld M 152 0 8 2 := ⟨_, _, _, tyX0, rfl, by decide, by decide, rfl, uw_0, tyX0_ok, nmX0, by rw [h]; exact Or.inr ⟨_, tb_fl_Nb_152⟩⟩
theorem d_Nb_bar_68 : decode prog_1_method_5_code 68 = .ok (.getfield 152, 3) := by decide +kernel
theorem d_Nb_bar_71 : decode prog_1_method_5_code 71 = .ok (.iload_n 1, 1) := by decide +kernel
theorem d_Nb_bar_72 : decode prog_1_method_5_code 72 = .ok (.iaload, 1) := by decide +kernel
theorem d_Nb_bar_73 : decode prog_1_method_5_code 73 = .ok (.ireturn, 1) := by decide +kernel
theorem d_Nb_bar_74 : decode prog_1_method_5_code 74 = .ok (.aload_n 0, 1) := by decide +kernel
theorem d_Nb_bar_75 : decode prog_1_method_5_code 75 = .ok (.getfield 27, 3) := by decide +kernel
theorem tb_fl_Nb_155 : mTN (Cond.fieldLinkNest "NineBars" 155 "NineBars$Box" "made" "[I" "NineBars") := tbqn1 110 (by decide +kernel) rfl
theorem fd_Nb_155 {M : mM} (h : mO M = "NineBars") : mFld M 155 0 10 2 := ⟨_, _, _, tyX0, rfl, by decide, by decide, rfl, uw_0, tyX0_ok, nmX0, by rw [h]; exact Or.inr ⟨_, tb_fl_Nb_155⟩⟩
theorem d_Nb_bar_78 : decode prog_1_method_5_code 78 = .ok (.getfield 155, 3) := by decide +kernel
theorem d_Nb_bar_81 : decode prog_1_method_5_code 81 = .ok (.iload_n 1, 1) := by decide +kernel
theorem d_Nb_bar_82 : decode prog_1_method_5_code 82 = .ok (.iaload, 1) := by decide +kernel
theorem d_Nb_bar_83 : decode prog_1_method_5_code 83 = .ok (.ireturn, 1) := by decide +kernel
theorem d_Nb_bar_84 : decode prog_1_method_5_code 84 = .ok (.aload_n 0, 1) := by decide +kernel
theorem d_Nb_bar_85 : decode prog_1_method_5_code 85 = .ok (.getfield 27, 3) := by decide +kernel
theorem d_Nb_bar_88 : decode prog_1_method_5_code 88 = .ok (.iload_n 1, 1) := by decide +kernel
theorem d_Nb_bar_89 : decode prog_1_method_5_code 89 = .ok (.invokevirtual 158, 3) := by decide +kernel
theorem tb_ml_Nb_158 : mTB (Cond.methodLink "NineBars" 158 ⟨"NineBars$Box", "isWorn", "(I)Z"⟩) := tbq4 131 (by decide +kernel) rfl
theorem tb_im_Box_isWorn : mTB (Cond.instanceMethod ⟨"NineBars$Box", "isWorn", "(I)Z"⟩) := tbq3 35 (by decide +kernel) rfl
theorem tb_se_Box_isWorn : mTB (Cond.selects "NineBars$Box" ⟨"NineBars$Box", "isWorn", "(I)Z"⟩ ⟨"NineBars$Box", "isWorn", "(I)Z"⟩) := tbq3 36 (by decide +kernel) rfl
theorem mv_Box_isWorn {M : mM} {idx : Nat} (h : mTB (Cond.methodLink (mO M) idx ⟨"NineBars$Box", "isWorn", "(I)Z"⟩)) : mCaV M M_Box_isWorn idx 0 := ⟨h, tb_im_Box_isWorn, tb_se_Box_isWorn, by decide, TX0, 18, rfl⟩
theorem d_Nb_bar_92 : decode prog_1_method_5_code 92 = .ok (.ifCond .eq 7, 3) := by decide +kernel
theorem d_Nb_bar_99 : decode prog_1_method_5_code 99 = .ok (.iconst 0, 1) := by decide +kernel
theorem d_Nb_bar_100 : decode prog_1_method_5_code 100 = .ok (.ireturn, 1) := by decide +kernel
theorem d_Nb_bar_95 : decode prog_1_method_5_code 95 = .ok (.iconst 1, 1) := by decide +kernel
theorem d_Nb_bar_96 : decode prog_1_method_5_code 96 = .ok (.goto 4, 3) := by decide +kernel
theorem d_Nb_bar_101 : decode prog_1_method_5_code 101 = .ok (.aload_n 0, 1) := by decide +kernel
theorem d_Nb_bar_102 : decode prog_1_method_5_code 102 = .ok (.getfield 27, 3) := by decide +kernel
theorem d_Nb_bar_105 : decode prog_1_method_5_code 105 = .ok (.iload_n 1, 1) := by decide +kernel
theorem d_Nb_bar_106 : decode prog_1_method_5_code 106 = .ok (.invokevirtual 162, 3) := by decide +kernel
theorem tb_ml_Nb_162 : mTB (Cond.methodLink "NineBars" 162 ⟨"NineBars$Box", "rulesOf", "(I)I"⟩) := tbq4 132 (by decide +kernel) rfl
theorem tb_im_Box_rulesOf : mTB (Cond.instanceMethod ⟨"NineBars$Box", "rulesOf", "(I)I"⟩) := tbq4 133 (by decide +kernel) rfl
theorem tb_se_Box_rulesOf : mTB (Cond.selects "NineBars$Box" ⟨"NineBars$Box", "rulesOf", "(I)I"⟩ ⟨"NineBars$Box", "rulesOf", "(I)I"⟩) := tbq4 134 (by decide +kernel) rfl
theorem mv_Box_rulesOf {M : mM} {idx : Nat} (h : mTB (Cond.methodLink (mO M) idx ⟨"NineBars$Box", "rulesOf", "(I)I"⟩)) : mCaV M M_Box_rulesOf idx 0 := ⟨h, tb_im_Box_rulesOf, tb_se_Box_rulesOf, by decide, TX0, 18, rfl⟩
theorem d_Nb_bar_109 : decode prog_1_method_5_code 109 = .ok (.ireturn, 1) := by decide +kernel
theorem d_Nb_bar_110 : decode prog_1_method_5_code 110 = .ok (.new 109, 3) := by decide +kernel
theorem d_Nb_bar_113 : decode prog_1_method_5_code 113 = .ok (.dup, 1) := by decide +kernel
theorem d_Nb_bar_114 : decode prog_1_method_5_code 114 = .ok (.ldc 166, 2) := by decide +kernel
theorem d_Nb_bar_116 : decode prog_1_method_5_code 116 = .ok (.invokespecial 113, 3) := by decide +kernel
theorem d_Nb_bar_119 : decode prog_1_method_5_code 119 = .ok (.athrow, 1) := by decide +kernel
theorem t_Nb_bar_J44 {G : mG} {r : mR} {v0 v1 : Int} {h : mH}  (hr : f_Nb_bar_J44 v0 v1 h = some r) : mJ G M_Nb_bar 44 [(2, v0), (0, v1), (9, 0)] [] h r := by
  unfold f_Nb_bar_J44 at hr
  refine j_aload_n (pc := 44) d_Nb_bar_44 rfl ?_
  refine j_getf (pc := 45) d_Nb_bar_45 (fd_Nb_27 rfl) hr (fun hr => ?_)
  refine j_getf (pc := 48) d_Nb_bar_48 (fd_Nb_145 rfl) hr (fun hr => ?_)
  refine j_iload_n (pc := 51) d_Nb_bar_51 rfl ?_
  refine j_iaload (pc := 52) d_Nb_bar_52 hr (fun hr => ?_)
  exact j_iret (pc := 53) d_Nb_bar_53 rfl hr
theorem t_Nb_bar_J54 {G : mG} {r : mR} {v0 v1 : Int} {h : mH}  (hr : f_Nb_bar_J54 v0 v1 h = some r) : mJ G M_Nb_bar 54 [(2, v0), (0, v1), (9, 0)] [] h r := by
  unfold f_Nb_bar_J54 at hr
  refine j_aload_n (pc := 54) d_Nb_bar_54 rfl ?_
  refine j_getf (pc := 55) d_Nb_bar_55 (fd_Nb_27 rfl) hr (fun hr => ?_)
  refine j_getf (pc := 58) d_Nb_bar_58 (fd_Nb_149 rfl) hr (fun hr => ?_)
  refine j_iload_n (pc := 61) d_Nb_bar_61 rfl ?_
  refine j_iaload (pc := 62) d_Nb_bar_62 hr (fun hr => ?_)
  exact j_iret (pc := 63) d_Nb_bar_63 rfl hr
theorem t_Nb_bar_J64 {G : mG} {r : mR} {v0 v1 : Int} {h : mH}  (hr : f_Nb_bar_J64 v0 v1 h = some r) : mJ G M_Nb_bar 64 [(2, v0), (0, v1), (9, 0)] [] h r := by
  unfold f_Nb_bar_J64 at hr
  refine j_aload_n (pc := 64) d_Nb_bar_64 rfl ?_
  refine j_getf (pc := 65) d_Nb_bar_65 (fd_Nb_27 rfl) hr (fun hr => ?_)
  refine j_getf (pc := 68) d_Nb_bar_68 (fd_Nb_152 rfl) hr (fun hr => ?_)
  refine j_iload_n (pc := 71) d_Nb_bar_71 rfl ?_
  refine j_iaload (pc := 72) d_Nb_bar_72 hr (fun hr => ?_)
  exact j_iret (pc := 73) d_Nb_bar_73 rfl hr
theorem t_Nb_bar_J74 {G : mG} {r : mR} {v0 v1 : Int} {h : mH}  (hr : f_Nb_bar_J74 v0 v1 h = some r) : mJ G M_Nb_bar 74 [(2, v0), (0, v1), (9, 0)] [] h r := by
  unfold f_Nb_bar_J74 at hr
  refine j_aload_n (pc := 74) d_Nb_bar_74 rfl ?_
  refine j_getf (pc := 75) d_Nb_bar_75 (fd_Nb_27 rfl) hr (fun hr => ?_)
  refine j_getf (pc := 78) d_Nb_bar_78 (fd_Nb_155 rfl) hr (fun hr => ?_)
  refine j_iload_n (pc := 81) d_Nb_bar_81 rfl ?_
  refine j_iaload (pc := 82) d_Nb_bar_82 hr (fun hr => ?_)
  exact j_iret (pc := 83) d_Nb_bar_83 rfl hr
theorem t_Nb_bar_J84 {G : mG} {r : mR} {v0 v1 : Int} {h : mH}  (hr : f_Nb_bar_J84 v0 v1 h = some r) : mJ G M_Nb_bar 84 [(2, v0), (0, v1), (9, 0)] [] h r := by
  unfold f_Nb_bar_J84 at hr
  refine j_aload_n (pc := 84) d_Nb_bar_84 rfl ?_
  refine j_getf (pc := 85) d_Nb_bar_85 (fd_Nb_27 rfl) hr (fun hr => ?_)
  refine j_iload_n (pc := 88) d_Nb_bar_88 rfl ?_
  obtain ⟨ha, hr⟩ := chk_some hr
  refine j_callG (pc := 89) (stk := [(0, v1), (2, hpV h v0 6)]) (as := [(2, hpV h v0 6), (0, v1)]) (P := (fun v9 => ((0 : Nat), v9) :: [])) (tg := 0) (My := M_Box_isWorn) (mRunV (as := [(0, v1)]) (st := []) d_Nb_bar_89 (mc_Box_isWorn (by decide)) rfl (mv_Box_isWorn tb_ml_Nb_158) rfl (Nat.le_of_ble_eq_true rfl) ha) (fun v => rfl) rfl hr (fun r1 h1 => t_Box_isWorn _ _ _ _ h1) (fun x2 h1 hr => ?_)
  refine j_if_eq (pc := 92) (tgt := 99) d_Nb_bar_92 hr (fun hr => ?_) (fun hr => ?_)
  · refine j_iconst (pc := 99) d_Nb_bar_99 ?_
    exact j_iret (pc := 100) d_Nb_bar_100 rfl hr
  · refine j_iconst (pc := 95) d_Nb_bar_95 ?_
    refine j_goto (pc := 96) (tgt := 100) d_Nb_bar_96 ?_
    exact j_iret (pc := 100) d_Nb_bar_100 rfl hr
theorem t_Nb_bar_J101 {G : mG} {r : mR} {v0 v1 : Int} {h : mH}  (hr : f_Nb_bar_J101 v0 v1 h = some r) : mJ G M_Nb_bar 101 [(2, v0), (0, v1), (9, 0)] [] h r := by
  unfold f_Nb_bar_J101 at hr
  refine j_aload_n (pc := 101) d_Nb_bar_101 rfl ?_
  refine j_getf (pc := 102) d_Nb_bar_102 (fd_Nb_27 rfl) hr (fun hr => ?_)
  refine j_iload_n (pc := 105) d_Nb_bar_105 rfl ?_
  obtain ⟨ha, hr⟩ := chk_some hr
  refine j_callG (pc := 106) (stk := [(0, v1), (2, hpV h v0 6)]) (as := [(2, hpV h v0 6), (0, v1)]) (P := (fun v9 => ((0 : Nat), v9) :: [])) (tg := 0) (My := M_Box_rulesOf) (mRunV (as := [(0, v1)]) (st := []) d_Nb_bar_106 (mc_Box_rulesOf (by decide)) rfl (mv_Box_rulesOf tb_ml_Nb_162) rfl (Nat.le_of_ble_eq_true rfl) ha) (fun v => rfl) rfl hr (fun r1 h1 => t_Box_rulesOf _ _ _ _ h1) (fun x2 h1 hr => ?_)
  exact j_iret (pc := 109) d_Nb_bar_109 rfl hr
theorem t_Nb_bar {G : mG} (h : mH) (v0 v1 v2 : Int) (r : mR) (hr : f_Nb_bar h v0 v1 v2 = some r) : mJM G M_Nb_bar [(2, v0), (0, v1), (0, v2)] h r := by
  refine mJM_of (L := [(2, v0), (0, v1), (0, v2)]) rfl rfl rfl (Nat.le_of_ble_eq_true rfl) ?_
  unfold f_Nb_bar at hr
  refine j_aload_n (pc := 0) d_Nb_bar_0 rfl ?_
  refine j_iload_n (pc := 1) d_Nb_bar_1 rfl ?_
  obtain ⟨ha, hr⟩ := chk_some hr
  refine j_callG (pc := 2) (stk := [(0, v1), (2, v0)]) (as := [(2, v0), (0, v1)]) (P := (fun v9 => [])) (tg := 3) (My := M_Nb_needBar) (mRunV (as := [(0, v1)]) (st := []) d_Nb_bar_2 (mc_Nb_needBar (by decide)) rfl (mv_Nb_needBar tb_ml_Nb_142) rfl (Nat.le_of_ble_eq_true rfl) ha) (fun v => rfl) rfl hr (fun r1 h1 => t_Nb_needBar _ _ _ _ h1) (fun x2 h1 hr => ?_)
  refine j_iload_n (pc := 5) d_Nb_bar_5 rfl ?_
  refine j_tabK (pc := 6) (c := 0) (tgt := 44) d_Nb_bar_6 (by decide) (by decide) rfl (by decide) hr (fun hr => ?_) (fun q0 hr => ?_)
  · exact mJ_weak (ls' := [(2, v0), (0, v1), (9, 0)]) (mwk_s (mwk_s (mwk_d mwk_n))) (t_Nb_bar_J44  hr)
  refine j_tabK (pc := 6) (c := 1) (tgt := 54) d_Nb_bar_6 (by decide) (by decide) rfl (by decide) hr (fun hr => ?_) (fun q1 hr => ?_)
  · exact mJ_weak (ls' := [(2, v0), (0, v1), (9, 0)]) (mwk_s (mwk_s (mwk_d mwk_n))) (t_Nb_bar_J54  hr)
  refine j_tabK (pc := 6) (c := 2) (tgt := 64) d_Nb_bar_6 (by decide) (by decide) rfl (by decide) hr (fun hr => ?_) (fun q2 hr => ?_)
  · exact mJ_weak (ls' := [(2, v0), (0, v1), (9, 0)]) (mwk_s (mwk_s (mwk_d mwk_n))) (t_Nb_bar_J64  hr)
  refine j_tabK (pc := 6) (c := 3) (tgt := 74) d_Nb_bar_6 (by decide) (by decide) rfl (by decide) hr (fun hr => ?_) (fun q3 hr => ?_)
  · exact mJ_weak (ls' := [(2, v0), (0, v1), (9, 0)]) (mwk_s (mwk_s (mwk_d mwk_n))) (t_Nb_bar_J74  hr)
  refine j_tabK (pc := 6) (c := 4) (tgt := 84) d_Nb_bar_6 (by decide) (by decide) rfl (by decide) hr (fun hr => ?_) (fun q4 hr => ?_)
  · exact mJ_weak (ls' := [(2, v0), (0, v1), (9, 0)]) (mwk_s (mwk_s (mwk_d mwk_n))) (t_Nb_bar_J84  hr)
  refine j_tabK (pc := 6) (c := 5) (tgt := 101) d_Nb_bar_6 (by decide) (by decide) rfl (by decide) hr (fun hr => ?_) (fun q5 hr => ?_)
  · exact mJ_weak (ls' := [(2, v0), (0, v1), (9, 0)]) (mwk_s (mwk_s (mwk_d mwk_n))) (t_Nb_bar_J101  hr)
  refine j_tabOut (pc := 6) (tgt := 110) d_Nb_bar_6 (by omega) (by decide) ?_
  exact j_throw (pc := 110) (x9 := 7) (text := "what is 0 to 5") (k := 12) d_Nb_bar_110 d_Nb_bar_113 d_Nb_bar_114 d_Nb_bar_116 d_Nb_bar_119 rfl (by decide +kernel) tb_cl_Nb_109 tb_in_java_lang_IllegalArgumentException (by decide +kernel) rfl (Nat.le_of_ble_eq_true rfl) hr
def M_Box_digit : mM := ("NineBars$Box", ⟨"NineBars$Box", "digit", "([II)I"⟩, prog_2_method_18_code, 2, some .int, [], 1)
theorem tb_co_Box_digit : mTB (Cond.code ⟨"NineBars$Box", "digit", "([II)I"⟩ prog_2_method_18_code 2 (some .int)) := tbq3 29 (by decide +kernel) rfl
theorem mc_Box_digit {M : mM} (hd : 1 < mDp M) : mCal M M_Box_digit 2 := ⟨tb_co_Box_digit, tb_in_NineBars_Box, ⟨by decide +kernel, by decide +kernel⟩, by decide +kernel, hd, by decide⟩
theorem d_Box_digit_0 : decode prog_2_method_18_code 0 = .ok (.iload_n 1, 1) := by decide +kernel
theorem d_Box_digit_1 : decode prog_2_method_18_code 1 = .ok (.ifCond .lt 15, 3) := by decide +kernel
theorem d_Box_digit_16 : decode prog_2_method_18_code 16 = .ok (.iconst (-1), 1) := by decide +kernel
theorem d_Box_digit_17 : decode prog_2_method_18_code 17 = .ok (.ireturn, 1) := by decide +kernel
theorem d_Box_digit_4 : decode prog_2_method_18_code 4 = .ok (.iload_n 1, 1) := by decide +kernel
theorem d_Box_digit_5 : decode prog_2_method_18_code 5 = .ok (.aload_n 0, 1) := by decide +kernel
theorem d_Box_digit_6 : decode prog_2_method_18_code 6 = .ok (.arraylength, 1) := by decide +kernel
theorem d_Box_digit_7 : decode prog_2_method_18_code 7 = .ok (.if_icmp .ge 9, 3) := by decide +kernel
theorem d_Box_digit_10 : decode prog_2_method_18_code 10 = .ok (.aload_n 0, 1) := by decide +kernel
theorem d_Box_digit_11 : decode prog_2_method_18_code 11 = .ok (.iload_n 1, 1) := by decide +kernel
theorem d_Box_digit_12 : decode prog_2_method_18_code 12 = .ok (.iaload, 1) := by decide +kernel
theorem d_Box_digit_13 : decode prog_2_method_18_code 13 = .ok (.goto 4, 3) := by decide +kernel
theorem t_Box_digit_J16 {G : mG} {r : mR} {h : mH}  (hr : f_Box_digit_J16 h = some r) : mJ G M_Box_digit 16 [(9, 0), (9, 0)] [] h r := by
  unfold f_Box_digit_J16 at hr
  refine j_iconst (pc := 16) d_Box_digit_16 ?_
  exact j_iret (pc := 17) d_Box_digit_17 rfl hr
theorem t_Box_digit {G : mG} (h : mH) (v0 v1 : Int) (r : mR) (hr : f_Box_digit h v0 v1 = some r) : mJM G M_Box_digit [(2, v0), (0, v1)] h r := by
  refine mJM_of (L := [(2, v0), (0, v1)]) rfl rfl rfl (Nat.le_of_ble_eq_true rfl) ?_
  unfold f_Box_digit at hr
  refine j_iload_n (pc := 0) d_Box_digit_0 rfl ?_
  refine j_if_lt (pc := 1) (tgt := 16) d_Box_digit_1 hr (fun hr => ?_) (fun hr => ?_)
  · exact mJ_weak (ls' := [(9, 0), (9, 0)]) (mwk_d (mwk_d mwk_n)) (t_Box_digit_J16  hr)
  · refine j_iload_n (pc := 4) d_Box_digit_4 rfl ?_
    refine j_aload_n (pc := 5) d_Box_digit_5 rfl ?_
    refine j_alen (pc := 6) d_Box_digit_6 hr (fun hr => ?_)
    refine j_icmp_ge (pc := 7) (tgt := 16) d_Box_digit_7 hr (fun hr => ?_) (fun hr => ?_)
    · exact mJ_weak (ls' := [(9, 0), (9, 0)]) (mwk_d (mwk_d mwk_n)) (t_Box_digit_J16  hr)
    · refine j_aload_n (pc := 10) d_Box_digit_10 rfl ?_
      refine j_iload_n (pc := 11) d_Box_digit_11 rfl ?_
      refine j_iaload (pc := 12) d_Box_digit_12 hr (fun hr => ?_)
      refine j_goto (pc := 13) (tgt := 17) d_Box_digit_13 ?_
      exact j_iret (pc := 17) d_Box_digit_17 rfl hr
def M_Box_holdsIn : mM := ("NineBars$Box", ⟨"NineBars$Box", "holdsIn", "(I[I)Z"⟩, prog_2_method_19_code, 6, some .boolean, [], 3)
theorem tb_co_Box_holdsIn : mTB (Cond.code ⟨"NineBars$Box", "holdsIn", "(I[I)Z"⟩ prog_2_method_19_code 6 (some .boolean)) := tbq3 33 (by decide +kernel) rfl
theorem mc_Box_holdsIn {M : mM} (hd : 3 < mDp M) : mCal M M_Box_holdsIn 2 := ⟨tb_co_Box_holdsIn, tb_in_NineBars_Box, ⟨by decide +kernel, by decide +kernel⟩, by decide +kernel, hd, by decide⟩
theorem d_Box_holdsIn_0 : decode prog_2_method_19_code 0 = .ok (.iload_n 1, 1) := by decide +kernel
theorem d_Box_holdsIn_1 : decode prog_2_method_19_code 1 = .ok (.iconst 4, 1) := by decide +kernel
theorem d_Box_holdsIn_2 : decode prog_2_method_19_code 2 = .ok (.imul, 1) := by decide +kernel
theorem d_Box_holdsIn_3 : decode prog_2_method_19_code 3 = .ok (.istore_n 3, 1) := by decide +kernel
theorem d_Box_holdsIn_4 : decode prog_2_method_19_code 4 = .ok (.iload_n 3, 1) := by decide +kernel
theorem d_Box_holdsIn_5 : decode prog_2_method_19_code 5 = .ok (.istore 4, 2) := by decide +kernel
theorem d_Box_holdsIn_7 : decode prog_2_method_19_code 7 = .ok (.iload 4, 2) := by decide +kernel
theorem d_Box_holdsIn_9 : decode prog_2_method_19_code 9 = .ok (.iload_n 3, 1) := by decide +kernel
theorem d_Box_holdsIn_10 : decode prog_2_method_19_code 10 = .ok (.aload_n 0, 1) := by decide +kernel
theorem d_Box_holdsIn_11 : decode prog_2_method_19_code 11 = .ok (.getfield 36, 3) := by decide +kernel
theorem d_Box_holdsIn_14 : decode prog_2_method_19_code 14 = .ok (.iload_n 1, 1) := by decide +kernel
theorem d_Box_holdsIn_15 : decode prog_2_method_19_code 15 = .ok (.iaload, 1) := by decide +kernel
theorem d_Box_holdsIn_16 : decode prog_2_method_19_code 16 = .ok (.iadd, 1) := by decide +kernel
theorem d_Box_holdsIn_17 : decode prog_2_method_19_code 17 = .ok (.if_icmp .ge 60, 3) := by decide +kernel
theorem d_Box_holdsIn_77 : decode prog_2_method_19_code 77 = .ok (.iconst 1, 1) := by decide +kernel
theorem d_Box_holdsIn_78 : decode prog_2_method_19_code 78 = .ok (.ireturn, 1) := by decide +kernel
theorem d_Box_holdsIn_20 : decode prog_2_method_19_code 20 = .ok (.aload_n 2, 1) := by decide +kernel
theorem d_Box_holdsIn_21 : decode prog_2_method_19_code 21 = .ok (.aload_n 0, 1) := by decide +kernel
theorem d_Box_holdsIn_22 : decode prog_2_method_19_code 22 = .ok (.getfield 39, 3) := by decide +kernel
theorem d_Box_holdsIn_25 : decode prog_2_method_19_code 25 = .ok (.iload 4, 2) := by decide +kernel
theorem d_Box_holdsIn_27 : decode prog_2_method_19_code 27 = .ok (.iaload, 1) := by decide +kernel
theorem d_Box_holdsIn_28 : decode prog_2_method_19_code 28 = .ok (.invokestatic 77, 3) := by decide +kernel
theorem tb_ml_Box_77 : mTB (Cond.methodLink "NineBars$Box" 77 ⟨"NineBars$Box", "digit", "([II)I"⟩) := tbq3 27 (by decide +kernel) rfl
theorem tb_sm_Box_digit : mTB (Cond.static ⟨"NineBars$Box", "digit", "([II)I"⟩) := tbq3 28 (by decide +kernel) rfl
theorem d_Box_holdsIn_31 : decode prog_2_method_19_code 31 = .ok (.aload_n 0, 1) := by decide +kernel
theorem d_Box_holdsIn_32 : decode prog_2_method_19_code 32 = .ok (.getfield 42, 3) := by decide +kernel
theorem d_Box_holdsIn_35 : decode prog_2_method_19_code 35 = .ok (.iload 4, 2) := by decide +kernel
theorem d_Box_holdsIn_37 : decode prog_2_method_19_code 37 = .ok (.iaload, 1) := by decide +kernel
theorem d_Box_holdsIn_38 : decode prog_2_method_19_code 38 = .ok (.if_icmp .ne 7, 3) := by decide +kernel
theorem d_Box_holdsIn_45 : decode prog_2_method_19_code 45 = .ok (.iconst 0, 1) := by decide +kernel
theorem d_Box_holdsIn_46 : decode prog_2_method_19_code 46 = .ok (.istore 5, 2) := by decide +kernel
theorem d_Box_holdsIn_48 : decode prog_2_method_19_code 48 = .ok (.iload 5, 2) := by decide +kernel
theorem d_Box_holdsIn_50 : decode prog_2_method_19_code 50 = .ok (.aload_n 0, 1) := by decide +kernel
theorem d_Box_holdsIn_51 : decode prog_2_method_19_code 51 = .ok (.getfield 45, 3) := by decide +kernel
theorem d_Box_holdsIn_54 : decode prog_2_method_19_code 54 = .ok (.iload 4, 2) := by decide +kernel
theorem d_Box_holdsIn_56 : decode prog_2_method_19_code 56 = .ok (.iaload, 1) := by decide +kernel
theorem d_Box_holdsIn_57 : decode prog_2_method_19_code 57 = .ok (.iconst 1, 1) := by decide +kernel
theorem d_Box_holdsIn_58 : decode prog_2_method_19_code 58 = .ok (.if_icmp .ne 7, 3) := by decide +kernel
theorem d_Box_holdsIn_65 : decode prog_2_method_19_code 65 = .ok (.iconst 0, 1) := by decide +kernel
theorem d_Box_holdsIn_66 : decode prog_2_method_19_code 66 = .ok (.if_icmp .ne 5, 3) := by decide +kernel
theorem d_Box_holdsIn_71 : decode prog_2_method_19_code 71 = .ok (.iinc 4 1, 3) := by decide +kernel
theorem d_Box_holdsIn_74 : decode prog_2_method_19_code 74 = .ok (.goto (-67), 3) := by decide +kernel
theorem d_Box_holdsIn_69 : decode prog_2_method_19_code 69 = .ok (.iconst 0, 1) := by decide +kernel
theorem d_Box_holdsIn_70 : decode prog_2_method_19_code 70 = .ok (.ireturn, 1) := by decide +kernel
theorem d_Box_holdsIn_61 : decode prog_2_method_19_code 61 = .ok (.iconst 1, 1) := by decide +kernel
theorem d_Box_holdsIn_62 : decode prog_2_method_19_code 62 = .ok (.goto 4, 3) := by decide +kernel
theorem d_Box_holdsIn_41 : decode prog_2_method_19_code 41 = .ok (.iconst 1, 1) := by decide +kernel
theorem d_Box_holdsIn_42 : decode prog_2_method_19_code 42 = .ok (.goto 4, 3) := by decide +kernel
theorem t_Box_holdsIn_J66 {G : mG} {r : mR} {v0 v1 v2 v3 v4 s0 s1 : Int} {h : mH} {R7 : mH → Int → Option mR} (hR7 : ∀ (h : mH) (w4 : Int) , R7 h w4 = some r → mJ G M_Box_holdsIn 7 [(2, v0), (0, v1), (2, v2), (0, v3), (0, w4), (9, 0)] [] h r) (hr : f_Box_holdsIn_J66 R7 v4 s0 s1 h = some r) : mJ G M_Box_holdsIn 66 [(2, v0), (0, v1), (2, v2), (0, v3), (0, v4), (9, 0)] [(0, s1), (0, s0)] h r := by
  unfold f_Box_holdsIn_J66 at hr
  refine j_icmp_ne (pc := 66) (tgt := 71) d_Box_holdsIn_66 hr (fun hr => ?_) (fun hr => ?_)
  · refine j_iincW (pc := 71) (L := fun x1 => [(2, v0), (0, v1), (2, v2), (0, v3), (0, x1), (9, 0)]) d_Box_holdsIn_71 rfl (fun _ => rfl) hr (fun x1 hr => ?_)
    refine j_goto (pc := 74) (tgt := 7) d_Box_holdsIn_74 ?_
    exact mJ_weak (ls' := [(2, v0), (0, v1), (2, v2), (0, v3), (0, x1), (9, 0)]) (mwk_s (mwk_s (mwk_s (mwk_s (mwk_s (mwk_s mwk_n)))))) (hR7 h _ hr)
  · refine j_iconst (pc := 69) d_Box_holdsIn_69 ?_
    exact j_zret (pc := 70) d_Box_holdsIn_70 rfl hr
theorem t_Box_holdsIn_J46 {G : mG} {r : mR} {v0 v1 v2 v3 v4 s0 : Int} {h : mH} {R7 : mH → Int → Option mR} (hR7 : ∀ (h : mH) (w4 : Int) , R7 h w4 = some r → mJ G M_Box_holdsIn 7 [(2, v0), (0, v1), (2, v2), (0, v3), (0, w4), (9, 0)] [] h r) (hr : f_Box_holdsIn_J46 R7 v0 v4 s0 h = some r) : mJ G M_Box_holdsIn 46 [(2, v0), (0, v1), (2, v2), (0, v3), (0, v4), (9, 0)] [(0, s0)] h r := by
  unfold f_Box_holdsIn_J46 at hr
  refine j_istore (pc := 46) (ls' := [(2, v0), (0, v1), (2, v2), (0, v3), (0, v4), (0, s0)]) d_Box_holdsIn_46 rfl ?_
  refine j_iload (pc := 48) d_Box_holdsIn_48 rfl ?_
  refine j_aload_n (pc := 50) d_Box_holdsIn_50 rfl ?_
  refine j_getf (pc := 51) d_Box_holdsIn_51 (fd_Box_45 rfl) hr (fun hr => ?_)
  refine j_iload (pc := 54) d_Box_holdsIn_54 rfl ?_
  refine j_iaload (pc := 56) d_Box_holdsIn_56 hr (fun hr => ?_)
  refine j_iconst (pc := 57) d_Box_holdsIn_57 ?_
  refine j_icmp_ne (pc := 58) (tgt := 65) d_Box_holdsIn_58 hr (fun hr => ?_) (fun hr => ?_)
  · refine j_iconst (pc := 65) d_Box_holdsIn_65 ?_
    exact mJ_weak (ls' := [(2, v0), (0, v1), (2, v2), (0, v3), (0, v4), (9, 0)]) (mwk_s (mwk_s (mwk_s (mwk_s (mwk_s (mwk_d mwk_n)))))) (t_Box_holdsIn_J66 hR7 hr)
  · refine j_iconst (pc := 61) d_Box_holdsIn_61 ?_
    refine j_goto (pc := 62) (tgt := 66) d_Box_holdsIn_62 ?_
    exact mJ_weak (ls' := [(2, v0), (0, v1), (2, v2), (0, v3), (0, v4), (9, 0)]) (mwk_s (mwk_s (mwk_s (mwk_s (mwk_s (mwk_d mwk_n)))))) (t_Box_holdsIn_J66 hR7 hr)
theorem t_Box_holdsIn_L7 {G : mG} {r : mR} {v0 v1 v2 v3 : Int}  : ∀ (n : Nat) (h : mH) (v4 : Int), f_Box_holdsIn_L7 v0 v1 v2 v3 n h v4 = some r → mJ G M_Box_holdsIn 7 [(2, v0), (0, v1), (2, v2), (0, v3), (0, v4), (9, 0)] [] h r := by
  intro n
  induction n with
  | zero =>
    intro h v4 hr
    rw [f_Box_holdsIn_L7] at hr
    cases hr
  | succ n hR7 =>
    intro h v4 hr
    rw [f_Box_holdsIn_L7] at hr
    refine j_iload (pc := 7) d_Box_holdsIn_7 rfl ?_
    refine j_iload_n (pc := 9) d_Box_holdsIn_9 rfl ?_
    refine j_aload_n (pc := 10) d_Box_holdsIn_10 rfl ?_
    refine j_getf (pc := 11) d_Box_holdsIn_11 (fd_Box_36 rfl) hr (fun hr => ?_)
    refine j_iload_n (pc := 14) d_Box_holdsIn_14 rfl ?_
    refine j_iaload (pc := 15) d_Box_holdsIn_15 hr (fun hr => ?_)
    refine j_iadd (pc := 16) d_Box_holdsIn_16 ?_
    refine j_icmp_ge (pc := 17) (tgt := 77) d_Box_holdsIn_17 hr (fun hr => ?_) (fun hr => ?_)
    · refine j_iconst (pc := 77) d_Box_holdsIn_77 ?_
      exact j_zret (pc := 78) d_Box_holdsIn_78 rfl hr
    · refine j_aload_n (pc := 20) d_Box_holdsIn_20 rfl ?_
      refine j_aload_n (pc := 21) d_Box_holdsIn_21 rfl ?_
      refine j_getf (pc := 22) d_Box_holdsIn_22 (fd_Box_39 rfl) hr (fun hr => ?_)
      refine j_iload (pc := 25) d_Box_holdsIn_25 rfl ?_
      refine j_iaload (pc := 27) d_Box_holdsIn_27 hr (fun hr => ?_)
      refine j_callG (pc := 28) (stk := [(0, hpV h (hpV h v0 15) v4), (2, v2)]) (as := [(2, v2), (0, hpV h (hpV h v0 15) v4)]) (P := (fun v9 => ((0 : Nat), v9) :: [])) (tg := 0) (My := M_Box_digit) (mRunS (as := [(2, v2), (0, hpV h (hpV h v0 15) v4)]) (st := []) d_Box_holdsIn_28 (mc_Box_digit (by decide)) rfl ⟨tb_ml_Box_77, tb_sm_Box_digit⟩ rfl (Nat.le_of_ble_eq_true rfl)) (fun v => rfl) rfl hr (fun r1 h1 => t_Box_digit _ _ _ _ h1) (fun x2 h1 hr => ?_)
      refine j_aload_n (pc := 31) d_Box_holdsIn_31 rfl ?_
      refine j_getf (pc := 32) d_Box_holdsIn_32 (fd_Box_42 rfl) hr (fun hr => ?_)
      refine j_iload (pc := 35) d_Box_holdsIn_35 rfl ?_
      refine j_iaload (pc := 37) d_Box_holdsIn_37 hr (fun hr => ?_)
      refine j_icmp_ne (pc := 38) (tgt := 45) d_Box_holdsIn_38 hr (fun hr => ?_) (fun hr => ?_)
      · refine j_iconst (pc := 45) d_Box_holdsIn_45 ?_
        exact mJ_weak (ls' := [(2, v0), (0, v1), (2, v2), (0, v3), (0, v4), (9, 0)]) (mwk_s (mwk_s (mwk_s (mwk_s (mwk_s (mwk_s mwk_n)))))) (t_Box_holdsIn_J46 hR7 hr)
      · refine j_iconst (pc := 41) d_Box_holdsIn_41 ?_
        refine j_goto (pc := 42) (tgt := 46) d_Box_holdsIn_42 ?_
        exact mJ_weak (ls' := [(2, v0), (0, v1), (2, v2), (0, v3), (0, v4), (9, 0)]) (mwk_s (mwk_s (mwk_s (mwk_s (mwk_s (mwk_s mwk_n)))))) (t_Box_holdsIn_J46 hR7 hr)
theorem t_Box_holdsIn {G : mG} (h : mH) (v0 v1 v2 : Int) (r : mR) (hr : f_Box_holdsIn h v0 v1 v2 = some r) : mJM G M_Box_holdsIn [(2, v0), (0, v1), (2, v2)] h r := by
  refine mJM_of (L := [(2, v0), (0, v1), (2, v2), (9, 0), (9, 0), (9, 0)]) rfl rfl rfl (Nat.le_of_ble_eq_true rfl) ?_
  unfold f_Box_holdsIn at hr
  refine j_iload_n (pc := 0) d_Box_holdsIn_0 rfl ?_
  refine j_iconst (pc := 1) d_Box_holdsIn_1 ?_
  refine j_imul (pc := 2) d_Box_holdsIn_2 ?_
  refine j_istoreW_n (pc := 3) (L := fun x1 => [(2, v0), (0, v1), (2, v2), (0, x1), (9, 0), (9, 0)]) d_Box_holdsIn_3 (fun _ => rfl) hr (fun x1 hr => ?_)
  refine j_iload_n (pc := 4) d_Box_holdsIn_4 rfl ?_
  refine j_istore (pc := 5) (ls' := [(2, v0), (0, v1), (2, v2), (0, x1), (0, x1), (9, 0)]) d_Box_holdsIn_5 rfl ?_
  refine mJ_weak (ls' := [(2, v0), (0, v1), (2, v2), (0, x1), (0, x1), (9, 0)]) (mwk_s (mwk_s (mwk_s (mwk_s (mwk_s (mwk_s mwk_n)))))) (t_Box_holdsIn_L7  _ _ _ hr)
def M_Nb_rule : mM := ("NineBars", ⟨"NineBars", "rule", "(II)I"⟩, prog_1_method_6_code, 3, some .int, [], 5)
theorem tb_co_Nb_rule : mTB (Cond.code ⟨"NineBars", "rule", "(II)I"⟩ prog_1_method_6_code 3 (some .int)) := tbq4 143 (by decide +kernel) rfl
theorem mc_Nb_rule {M : mM} (hd : 5 < mDp M) : mCal M M_Nb_rule 2 := ⟨tb_co_Nb_rule, tb_in_NineBars, ⟨by decide +kernel, by decide +kernel⟩, by decide +kernel, hd, by decide⟩
theorem d_Nb_rule_0 : decode prog_1_method_6_code 0 = .ok (.iload_n 1, 1) := by decide +kernel
theorem d_Nb_rule_1 : decode prog_1_method_6_code 1 = .ok (.ifCond .lt 14, 3) := by decide +kernel
theorem d_Nb_rule_15 : decode prog_1_method_6_code 15 = .ok (.new 171, 3) := by decide +kernel
theorem d_Nb_rule_18 : decode prog_1_method_6_code 18 = .ok (.dup, 1) := by decide +kernel
theorem d_Nb_rule_19 : decode prog_1_method_6_code 19 = .ok (.ldc 173, 2) := by decide +kernel
theorem d_Nb_rule_21 : decode prog_1_method_6_code 21 = .ok (.invokespecial 175, 3) := by decide +kernel
theorem d_Nb_rule_24 : decode prog_1_method_6_code 24 = .ok (.athrow, 1) := by decide +kernel
theorem d_Nb_rule_4 : decode prog_1_method_6_code 4 = .ok (.iload_n 1, 1) := by decide +kernel
theorem d_Nb_rule_5 : decode prog_1_method_6_code 5 = .ok (.aload_n 0, 1) := by decide +kernel
theorem d_Nb_rule_6 : decode prog_1_method_6_code 6 = .ok (.getfield 27, 3) := by decide +kernel
theorem tb_fl_Nb_168 : mTN (Cond.fieldLinkNest "NineBars" 168 "NineBars$Box" "rules" "I" "NineBars") := tbqn1 88 (by decide +kernel) rfl
theorem fd_Nb_168 {M : mM} (h : mO M = "NineBars") : mFld M 168 0 3 0 := ⟨_, _, _, tyX0, rfl, by decide, by decide, rfl, uw_0, tyX0_ok, nmX0, by rw [h]; exact Or.inr ⟨_, tb_fl_Nb_168⟩⟩
theorem d_Nb_rule_9 : decode prog_1_method_6_code 9 = .ok (.getfield 168, 3) := by decide +kernel
theorem d_Nb_rule_12 : decode prog_1_method_6_code 12 = .ok (.if_icmp .lt 13, 3) := by decide +kernel
theorem d_Nb_rule_25 : decode prog_1_method_6_code 25 = .ok (.iload_n 2, 1) := by decide +kernel
theorem d_Nb_rule_26 : decode prog_1_method_6_code 26 = .ok (.tableswitch 98 0 4 #[34, 44, 54, 64, 74], 34) := by decide +kernel
theorem d_Nb_rule_60 : decode prog_1_method_6_code 60 = .ok (.aload_n 0, 1) := by decide +kernel
theorem d_Nb_rule_61 : decode prog_1_method_6_code 61 = .ok (.getfield 27, 3) := by decide +kernel
theorem tb_fl_Nb_176 : mTN (Cond.fieldLinkNest "NineBars" 176 "NineBars$Box" "ruleBars" "[I" "NineBars") := tbqn1 112 (by decide +kernel) rfl
theorem fd_Nb_176 {M : mM} (h : mO M = "NineBars") : mFld M 176 0 11 2 := ⟨_, _, _, tyX0, rfl, by decide, by decide, rfl, uw_0, tyX0_ok, nmX0, by rw [h]; exact Or.inr ⟨_, tb_fl_Nb_176⟩⟩
theorem d_Nb_rule_64 : decode prog_1_method_6_code 64 = .ok (.getfield 176, 3) := by decide +kernel
theorem d_Nb_rule_67 : decode prog_1_method_6_code 67 = .ok (.iload_n 1, 1) := by decide +kernel
theorem d_Nb_rule_68 : decode prog_1_method_6_code 68 = .ok (.iaload, 1) := by decide +kernel
theorem d_Nb_rule_69 : decode prog_1_method_6_code 69 = .ok (.ireturn, 1) := by decide +kernel
theorem d_Nb_rule_70 : decode prog_1_method_6_code 70 = .ok (.aload_n 0, 1) := by decide +kernel
theorem d_Nb_rule_71 : decode prog_1_method_6_code 71 = .ok (.getfield 27, 3) := by decide +kernel
theorem tb_fl_Nb_179 : mTN (Cond.fieldLinkNest "NineBars" 179 "NineBars$Box" "ruleFroms" "[I" "NineBars") := tbqn1 114 (by decide +kernel) rfl
theorem fd_Nb_179 {M : mM} (h : mO M = "NineBars") : mFld M 179 0 12 2 := ⟨_, _, _, tyX0, rfl, by decide, by decide, rfl, uw_0, tyX0_ok, nmX0, by rw [h]; exact Or.inr ⟨_, tb_fl_Nb_179⟩⟩
theorem d_Nb_rule_74 : decode prog_1_method_6_code 74 = .ok (.getfield 179, 3) := by decide +kernel
theorem d_Nb_rule_77 : decode prog_1_method_6_code 77 = .ok (.iload_n 1, 1) := by decide +kernel
theorem d_Nb_rule_78 : decode prog_1_method_6_code 78 = .ok (.iaload, 1) := by decide +kernel
theorem d_Nb_rule_79 : decode prog_1_method_6_code 79 = .ok (.ireturn, 1) := by decide +kernel
theorem d_Nb_rule_80 : decode prog_1_method_6_code 80 = .ok (.aload_n 0, 1) := by decide +kernel
theorem d_Nb_rule_81 : decode prog_1_method_6_code 81 = .ok (.getfield 27, 3) := by decide +kernel
theorem tb_fl_Nb_182 : mTN (Cond.fieldLinkNest "NineBars" 182 "NineBars$Box" "ruleTos" "[I" "NineBars") := tbqn1 116 (by decide +kernel) rfl
theorem fd_Nb_182 {M : mM} (h : mO M = "NineBars") : mFld M 182 0 13 2 := ⟨_, _, _, tyX0, rfl, by decide, by decide, rfl, uw_0, tyX0_ok, nmX0, by rw [h]; exact Or.inr ⟨_, tb_fl_Nb_182⟩⟩
theorem d_Nb_rule_84 : decode prog_1_method_6_code 84 = .ok (.getfield 182, 3) := by decide +kernel
theorem d_Nb_rule_87 : decode prog_1_method_6_code 87 = .ok (.iload_n 1, 1) := by decide +kernel
theorem d_Nb_rule_88 : decode prog_1_method_6_code 88 = .ok (.iaload, 1) := by decide +kernel
theorem d_Nb_rule_89 : decode prog_1_method_6_code 89 = .ok (.ireturn, 1) := by decide +kernel
theorem d_Nb_rule_90 : decode prog_1_method_6_code 90 = .ok (.aload_n 0, 1) := by decide +kernel
theorem d_Nb_rule_91 : decode prog_1_method_6_code 91 = .ok (.getfield 27, 3) := by decide +kernel
theorem tb_fl_Nb_185 : mTN (Cond.fieldLinkNest "NineBars" 185 "NineBars$Box" "ruleFacts" "[I" "NineBars") := tbqn1 118 (by decide +kernel) rfl
theorem fd_Nb_185 {M : mM} (h : mO M = "NineBars") : mFld M 185 0 14 2 := ⟨_, _, _, tyX0, rfl, by decide, by decide, rfl, uw_0, tyX0_ok, nmX0, by rw [h]; exact Or.inr ⟨_, tb_fl_Nb_185⟩⟩
theorem d_Nb_rule_94 : decode prog_1_method_6_code 94 = .ok (.getfield 185, 3) := by decide +kernel
theorem d_Nb_rule_97 : decode prog_1_method_6_code 97 = .ok (.iload_n 1, 1) := by decide +kernel
theorem d_Nb_rule_98 : decode prog_1_method_6_code 98 = .ok (.iaload, 1) := by decide +kernel
theorem d_Nb_rule_99 : decode prog_1_method_6_code 99 = .ok (.ireturn, 1) := by decide +kernel
theorem d_Nb_rule_100 : decode prog_1_method_6_code 100 = .ok (.aload_n 0, 1) := by decide +kernel
theorem d_Nb_rule_101 : decode prog_1_method_6_code 101 = .ok (.getfield 27, 3) := by decide +kernel
theorem d_Nb_rule_104 : decode prog_1_method_6_code 104 = .ok (.iload_n 1, 1) := by decide +kernel
theorem d_Nb_rule_105 : decode prog_1_method_6_code 105 = .ok (.aload_n 0, 1) := by decide +kernel
theorem d_Nb_rule_106 : decode prog_1_method_6_code 106 = .ok (.getfield 27, 3) := by decide +kernel
theorem d_Nb_rule_109 : decode prog_1_method_6_code 109 = .ok (.getfield 149, 3) := by decide +kernel
theorem d_Nb_rule_112 : decode prog_1_method_6_code 112 = .ok (.invokevirtual 188, 3) := by decide +kernel
theorem tb_ml_Nb_188 : mTB (Cond.methodLink "NineBars" 188 ⟨"NineBars$Box", "holdsIn", "(I[I)Z"⟩) := tbq4 145 (by decide +kernel) rfl
theorem tb_im_Box_holdsIn : mTB (Cond.instanceMethod ⟨"NineBars$Box", "holdsIn", "(I[I)Z"⟩) := tbq3 31 (by decide +kernel) rfl
theorem tb_se_Box_holdsIn : mTB (Cond.selects "NineBars$Box" ⟨"NineBars$Box", "holdsIn", "(I[I)Z"⟩ ⟨"NineBars$Box", "holdsIn", "(I[I)Z"⟩) := tbq3 32 (by decide +kernel) rfl
theorem mv_Box_holdsIn {M : mM} {idx : Nat} (h : mTB (Cond.methodLink (mO M) idx ⟨"NineBars$Box", "holdsIn", "(I[I)Z"⟩)) : mCaV M M_Box_holdsIn idx 0 := ⟨h, tb_im_Box_holdsIn, tb_se_Box_holdsIn, by decide, TX0, 18, rfl⟩
theorem d_Nb_rule_115 : decode prog_1_method_6_code 115 = .ok (.ifCond .eq 7, 3) := by decide +kernel
theorem d_Nb_rule_122 : decode prog_1_method_6_code 122 = .ok (.iconst 0, 1) := by decide +kernel
theorem d_Nb_rule_123 : decode prog_1_method_6_code 123 = .ok (.ireturn, 1) := by decide +kernel
theorem d_Nb_rule_118 : decode prog_1_method_6_code 118 = .ok (.iconst 1, 1) := by decide +kernel
theorem d_Nb_rule_119 : decode prog_1_method_6_code 119 = .ok (.goto 4, 3) := by decide +kernel
theorem d_Nb_rule_124 : decode prog_1_method_6_code 124 = .ok (.new 109, 3) := by decide +kernel
theorem d_Nb_rule_127 : decode prog_1_method_6_code 127 = .ok (.dup, 1) := by decide +kernel
theorem d_Nb_rule_128 : decode prog_1_method_6_code 128 = .ok (.ldc 192, 2) := by decide +kernel
theorem d_Nb_rule_130 : decode prog_1_method_6_code 130 = .ok (.invokespecial 113, 3) := by decide +kernel
theorem d_Nb_rule_133 : decode prog_1_method_6_code 133 = .ok (.athrow, 1) := by decide +kernel
theorem t_Nb_rule_J60 {G : mG} {r : mR} {v0 v1 : Int} {h : mH}  (hr : f_Nb_rule_J60 v0 v1 h = some r) : mJ G M_Nb_rule 60 [(2, v0), (0, v1), (9, 0)] [] h r := by
  unfold f_Nb_rule_J60 at hr
  refine j_aload_n (pc := 60) d_Nb_rule_60 rfl ?_
  refine j_getf (pc := 61) d_Nb_rule_61 (fd_Nb_27 rfl) hr (fun hr => ?_)
  refine j_getf (pc := 64) d_Nb_rule_64 (fd_Nb_176 rfl) hr (fun hr => ?_)
  refine j_iload_n (pc := 67) d_Nb_rule_67 rfl ?_
  refine j_iaload (pc := 68) d_Nb_rule_68 hr (fun hr => ?_)
  exact j_iret (pc := 69) d_Nb_rule_69 rfl hr
theorem t_Nb_rule_J70 {G : mG} {r : mR} {v0 v1 : Int} {h : mH}  (hr : f_Nb_rule_J70 v0 v1 h = some r) : mJ G M_Nb_rule 70 [(2, v0), (0, v1), (9, 0)] [] h r := by
  unfold f_Nb_rule_J70 at hr
  refine j_aload_n (pc := 70) d_Nb_rule_70 rfl ?_
  refine j_getf (pc := 71) d_Nb_rule_71 (fd_Nb_27 rfl) hr (fun hr => ?_)
  refine j_getf (pc := 74) d_Nb_rule_74 (fd_Nb_179 rfl) hr (fun hr => ?_)
  refine j_iload_n (pc := 77) d_Nb_rule_77 rfl ?_
  refine j_iaload (pc := 78) d_Nb_rule_78 hr (fun hr => ?_)
  exact j_iret (pc := 79) d_Nb_rule_79 rfl hr
theorem t_Nb_rule_J80 {G : mG} {r : mR} {v0 v1 : Int} {h : mH}  (hr : f_Nb_rule_J80 v0 v1 h = some r) : mJ G M_Nb_rule 80 [(2, v0), (0, v1), (9, 0)] [] h r := by
  unfold f_Nb_rule_J80 at hr
  refine j_aload_n (pc := 80) d_Nb_rule_80 rfl ?_
  refine j_getf (pc := 81) d_Nb_rule_81 (fd_Nb_27 rfl) hr (fun hr => ?_)
  refine j_getf (pc := 84) d_Nb_rule_84 (fd_Nb_182 rfl) hr (fun hr => ?_)
  refine j_iload_n (pc := 87) d_Nb_rule_87 rfl ?_
  refine j_iaload (pc := 88) d_Nb_rule_88 hr (fun hr => ?_)
  exact j_iret (pc := 89) d_Nb_rule_89 rfl hr
theorem t_Nb_rule_J90 {G : mG} {r : mR} {v0 v1 : Int} {h : mH}  (hr : f_Nb_rule_J90 v0 v1 h = some r) : mJ G M_Nb_rule 90 [(2, v0), (0, v1), (9, 0)] [] h r := by
  unfold f_Nb_rule_J90 at hr
  refine j_aload_n (pc := 90) d_Nb_rule_90 rfl ?_
  refine j_getf (pc := 91) d_Nb_rule_91 (fd_Nb_27 rfl) hr (fun hr => ?_)
  refine j_getf (pc := 94) d_Nb_rule_94 (fd_Nb_185 rfl) hr (fun hr => ?_)
  refine j_iload_n (pc := 97) d_Nb_rule_97 rfl ?_
  refine j_iaload (pc := 98) d_Nb_rule_98 hr (fun hr => ?_)
  exact j_iret (pc := 99) d_Nb_rule_99 rfl hr
theorem t_Nb_rule_J100 {G : mG} {r : mR} {v0 v1 : Int} {h : mH}  (hr : f_Nb_rule_J100 v0 v1 h = some r) : mJ G M_Nb_rule 100 [(2, v0), (0, v1), (9, 0)] [] h r := by
  unfold f_Nb_rule_J100 at hr
  refine j_aload_n (pc := 100) d_Nb_rule_100 rfl ?_
  refine j_getf (pc := 101) d_Nb_rule_101 (fd_Nb_27 rfl) hr (fun hr => ?_)
  refine j_iload_n (pc := 104) d_Nb_rule_104 rfl ?_
  refine j_aload_n (pc := 105) d_Nb_rule_105 rfl ?_
  refine j_getf (pc := 106) d_Nb_rule_106 (fd_Nb_27 rfl) hr (fun hr => ?_)
  refine j_getf (pc := 109) d_Nb_rule_109 (fd_Nb_149 rfl) hr (fun hr => ?_)
  obtain ⟨ha, hr⟩ := chk_some hr
  refine j_callG (pc := 112) (stk := [(2, hpV h (hpV h v0 6) 9), (0, v1), (2, hpV h v0 6)]) (as := [(2, hpV h v0 6), (0, v1), (2, hpV h (hpV h v0 6) 9)]) (P := (fun v9 => ((0 : Nat), v9) :: [])) (tg := 0) (My := M_Box_holdsIn) (mRunV (as := [(0, v1), (2, hpV h (hpV h v0 6) 9)]) (st := []) d_Nb_rule_112 (mc_Box_holdsIn (by decide)) rfl (mv_Box_holdsIn tb_ml_Nb_188) rfl (Nat.le_of_ble_eq_true rfl) ha) (fun v => rfl) rfl hr (fun r1 h1 => t_Box_holdsIn _ _ _ _ _ h1) (fun x2 h1 hr => ?_)
  refine j_if_eq (pc := 115) (tgt := 122) d_Nb_rule_115 hr (fun hr => ?_) (fun hr => ?_)
  · refine j_iconst (pc := 122) d_Nb_rule_122 ?_
    exact j_iret (pc := 123) d_Nb_rule_123 rfl hr
  · refine j_iconst (pc := 118) d_Nb_rule_118 ?_
    refine j_goto (pc := 119) (tgt := 123) d_Nb_rule_119 ?_
    exact j_iret (pc := 123) d_Nb_rule_123 rfl hr
theorem t_Nb_rule {G : mG} (h : mH) (v0 v1 v2 : Int) (r : mR) (hr : f_Nb_rule h v0 v1 v2 = some r) : mJM G M_Nb_rule [(2, v0), (0, v1), (0, v2)] h r := by
  refine mJM_of (L := [(2, v0), (0, v1), (0, v2)]) rfl rfl rfl (Nat.le_of_ble_eq_true rfl) ?_
  unfold f_Nb_rule at hr
  refine j_iload_n (pc := 0) d_Nb_rule_0 rfl ?_
  refine j_if_lt (pc := 1) (tgt := 15) d_Nb_rule_1 hr (fun hr => ?_) (fun hr => ?_)
  · exact j_throw (pc := 15) (x9 := 13) (text := "no such rule") (k := 13) d_Nb_rule_15 d_Nb_rule_18 d_Nb_rule_19 d_Nb_rule_21 d_Nb_rule_24 rfl (by decide +kernel) tb_cl_Nb_171 tb_in_java_util_NoSuchElementException (by decide +kernel) rfl (Nat.le_of_ble_eq_true rfl) hr
  · refine j_iload_n (pc := 4) d_Nb_rule_4 rfl ?_
    refine j_aload_n (pc := 5) d_Nb_rule_5 rfl ?_
    refine j_getf (pc := 6) d_Nb_rule_6 (fd_Nb_27 rfl) hr (fun hr => ?_)
    refine j_getf (pc := 9) d_Nb_rule_9 (fd_Nb_168 rfl) hr (fun hr => ?_)
    refine j_icmp_lt (pc := 12) (tgt := 25) d_Nb_rule_12 hr (fun hr => ?_) (fun hr => ?_)
    · refine j_iload_n (pc := 25) d_Nb_rule_25 rfl ?_
      refine j_tabK (pc := 26) (c := 0) (tgt := 60) d_Nb_rule_26 (by decide) (by decide) rfl (by decide) hr (fun hr => ?_) (fun q0 hr => ?_)
      · exact mJ_weak (ls' := [(2, v0), (0, v1), (9, 0)]) (mwk_s (mwk_s (mwk_d mwk_n))) (t_Nb_rule_J60  hr)
      refine j_tabK (pc := 26) (c := 1) (tgt := 70) d_Nb_rule_26 (by decide) (by decide) rfl (by decide) hr (fun hr => ?_) (fun q1 hr => ?_)
      · exact mJ_weak (ls' := [(2, v0), (0, v1), (9, 0)]) (mwk_s (mwk_s (mwk_d mwk_n))) (t_Nb_rule_J70  hr)
      refine j_tabK (pc := 26) (c := 2) (tgt := 80) d_Nb_rule_26 (by decide) (by decide) rfl (by decide) hr (fun hr => ?_) (fun q2 hr => ?_)
      · exact mJ_weak (ls' := [(2, v0), (0, v1), (9, 0)]) (mwk_s (mwk_s (mwk_d mwk_n))) (t_Nb_rule_J80  hr)
      refine j_tabK (pc := 26) (c := 3) (tgt := 90) d_Nb_rule_26 (by decide) (by decide) rfl (by decide) hr (fun hr => ?_) (fun q3 hr => ?_)
      · exact mJ_weak (ls' := [(2, v0), (0, v1), (9, 0)]) (mwk_s (mwk_s (mwk_d mwk_n))) (t_Nb_rule_J90  hr)
      refine j_tabK (pc := 26) (c := 4) (tgt := 100) d_Nb_rule_26 (by decide) (by decide) rfl (by decide) hr (fun hr => ?_) (fun q4 hr => ?_)
      · exact mJ_weak (ls' := [(2, v0), (0, v1), (9, 0)]) (mwk_s (mwk_s (mwk_d mwk_n))) (t_Nb_rule_J100  hr)
      refine j_tabOut (pc := 26) (tgt := 124) d_Nb_rule_26 (by omega) (by decide) ?_
      exact j_throw (pc := 124) (x9 := 7) (text := "what is 0 to 4") (k := 14) d_Nb_rule_124 d_Nb_rule_127 d_Nb_rule_128 d_Nb_rule_130 d_Nb_rule_133 rfl (by decide +kernel) tb_cl_Nb_109 tb_in_java_lang_IllegalArgumentException (by decide +kernel) rfl (Nat.le_of_ble_eq_true rfl) hr
    · exact j_throw (pc := 15) (x9 := 13) (text := "no such rule") (k := 13) d_Nb_rule_15 d_Nb_rule_18 d_Nb_rule_19 d_Nb_rule_21 d_Nb_rule_24 rfl (by decide +kernel) tb_cl_Nb_171 tb_in_java_util_NoSuchElementException (by decide +kernel) rfl (Nat.le_of_ble_eq_true rfl) hr
def M_Box_standCount : mM := ("NineBars$Box", ⟨"NineBars$Box", "standCount", "()I"⟩, prog_2_method_11_code, 3, some .int, [], 1)
theorem tb_co_Box_standCount : mTB (Cond.code ⟨"NineBars$Box", "standCount", "()I"⟩ prog_2_method_11_code 3 (some .int)) := tbq2 238 (by decide +kernel) rfl
theorem mc_Box_standCount {M : mM} (hd : 1 < mDp M) : mCal M M_Box_standCount 0 := ⟨tb_co_Box_standCount, tb_in_NineBars_Box, ⟨by decide +kernel, by decide +kernel⟩, by decide +kernel, hd, by decide⟩
theorem d_Box_standCount_0 : decode prog_2_method_11_code 0 = .ok (.iconst 1, 1) := by decide +kernel
theorem d_Box_standCount_1 : decode prog_2_method_11_code 1 = .ok (.istore_n 1, 1) := by decide +kernel
theorem d_Box_standCount_2 : decode prog_2_method_11_code 2 = .ok (.iconst 0, 1) := by decide +kernel
theorem d_Box_standCount_3 : decode prog_2_method_11_code 3 = .ok (.istore_n 2, 1) := by decide +kernel
theorem d_Box_standCount_4 : decode prog_2_method_11_code 4 = .ok (.iload_n 2, 1) := by decide +kernel
theorem d_Box_standCount_5 : decode prog_2_method_11_code 5 = .ok (.aload_n 0, 1) := by decide +kernel
theorem d_Box_standCount_6 : decode prog_2_method_11_code 6 = .ok (.getfield 52, 3) := by decide +kernel
theorem d_Box_standCount_9 : decode prog_2_method_11_code 9 = .ok (.if_icmp .ge 18, 3) := by decide +kernel
theorem d_Box_standCount_27 : decode prog_2_method_11_code 27 = .ok (.iload_n 1, 1) := by decide +kernel
theorem d_Box_standCount_28 : decode prog_2_method_11_code 28 = .ok (.ireturn, 1) := by decide +kernel
theorem d_Box_standCount_12 : decode prog_2_method_11_code 12 = .ok (.iload_n 1, 1) := by decide +kernel
theorem d_Box_standCount_13 : decode prog_2_method_11_code 13 = .ok (.aload_n 0, 1) := by decide +kernel
theorem d_Box_standCount_14 : decode prog_2_method_11_code 14 = .ok (.getfield 9, 3) := by decide +kernel
theorem d_Box_standCount_17 : decode prog_2_method_11_code 17 = .ok (.iload_n 2, 1) := by decide +kernel
theorem d_Box_standCount_18 : decode prog_2_method_11_code 18 = .ok (.iaload, 1) := by decide +kernel
theorem d_Box_standCount_19 : decode prog_2_method_11_code 19 = .ok (.imul, 1) := by decide +kernel
theorem d_Box_standCount_20 : decode prog_2_method_11_code 20 = .ok (.istore_n 1, 1) := by decide +kernel
theorem d_Box_standCount_21 : decode prog_2_method_11_code 21 = .ok (.iinc 2 1, 3) := by decide +kernel
theorem d_Box_standCount_24 : decode prog_2_method_11_code 24 = .ok (.goto (-20), 3) := by decide +kernel
theorem t_Box_standCount_L4 {G : mG} {r : mR} {v0 : Int}  : ∀ (n : Nat) (h : mH) (v1 v2 : Int), f_Box_standCount_L4 v0 n h v1 v2 = some r → mJ G M_Box_standCount 4 [(2, v0), (0, v1), (0, v2)] [] h r := by
  intro n
  induction n with
  | zero =>
    intro h v1 v2 hr
    rw [f_Box_standCount_L4] at hr
    cases hr
  | succ n hR4 =>
    intro h v1 v2 hr
    rw [f_Box_standCount_L4] at hr
    refine j_iload_n (pc := 4) d_Box_standCount_4 rfl ?_
    refine j_aload_n (pc := 5) d_Box_standCount_5 rfl ?_
    refine j_getf (pc := 6) d_Box_standCount_6 (fd_Box_52 rfl) hr (fun hr => ?_)
    refine j_icmp_ge (pc := 9) (tgt := 27) d_Box_standCount_9 hr (fun hr => ?_) (fun hr => ?_)
    · refine j_iload_n (pc := 27) d_Box_standCount_27 rfl ?_
      exact j_iret (pc := 28) d_Box_standCount_28 rfl hr
    · refine j_iload_n (pc := 12) d_Box_standCount_12 rfl ?_
      refine j_aload_n (pc := 13) d_Box_standCount_13 rfl ?_
      refine j_getf (pc := 14) d_Box_standCount_14 (fd_Box_9 rfl) hr (fun hr => ?_)
      refine j_iload_n (pc := 17) d_Box_standCount_17 rfl ?_
      refine j_iaload (pc := 18) d_Box_standCount_18 hr (fun hr => ?_)
      refine j_imul (pc := 19) d_Box_standCount_19 ?_
      refine j_istoreW_n (pc := 20) (L := fun x1 => [(2, v0), (0, x1), (0, v2)]) d_Box_standCount_20 (fun _ => rfl) hr (fun x1 hr => ?_)
      refine j_iincW (pc := 21) (L := fun x2 => [(2, v0), (0, x1), (0, x2)]) d_Box_standCount_21 rfl (fun _ => rfl) hr (fun x2 hr => ?_)
      refine j_goto (pc := 24) (tgt := 4) d_Box_standCount_24 ?_
      exact mJ_weak (ls' := [(2, v0), (0, x1), (0, x2)]) (mwk_s (mwk_s (mwk_s mwk_n))) (hR4 h _ _ hr)
theorem t_Box_standCount {G : mG} (h : mH) (v0 : Int) (r : mR) (hr : f_Box_standCount h v0 = some r) : mJM G M_Box_standCount [(2, v0)] h r := by
  refine mJM_of (L := [(2, v0), (9, 0), (9, 0)]) rfl rfl rfl (Nat.le_of_ble_eq_true rfl) ?_
  unfold f_Box_standCount at hr
  refine j_iconst (pc := 0) d_Box_standCount_0 ?_
  refine j_istore_n (pc := 1) (ls' := [(2, v0), (0, 1), (9, 0)]) d_Box_standCount_1 rfl ?_
  refine j_iconst (pc := 2) d_Box_standCount_2 ?_
  refine j_istore_n (pc := 3) (ls' := [(2, v0), (0, 1), (0, 0)]) d_Box_standCount_3 rfl ?_
  refine mJ_weak (ls' := [(2, v0), (0, 1), (0, 0)]) (mwk_s (mwk_s (mwk_s mwk_n))) (t_Box_standCount_L4  _ _ _ _ hr)
def M_Nb_isSpent : mM := ("NineBars", ⟨"NineBars", "isSpent", "()Z"⟩, prog_1_method_47_code, 1, some .boolean, [], 3)
theorem tb_co_Nb_isSpent : mTB (Cond.code ⟨"NineBars", "isSpent", "()Z"⟩ prog_1_method_47_code 1 (some .boolean)) := tbq2 234 (by decide +kernel) rfl
theorem mc_Nb_isSpent {M : mM} (hd : 3 < mDp M) : mCal M M_Nb_isSpent 0 := ⟨tb_co_Nb_isSpent, tb_in_NineBars, ⟨by decide +kernel, by decide +kernel⟩, by decide +kernel, hd, by decide⟩
theorem d_Nb_isSpent_0 : decode prog_1_method_47_code 0 = .ok (.aload_n 0, 1) := by decide +kernel
theorem d_Nb_isSpent_1 : decode prog_1_method_47_code 1 = .ok (.getfield 27, 3) := by decide +kernel
theorem d_Nb_isSpent_4 : decode prog_1_method_47_code 4 = .ok (.invokevirtual 327, 3) := by decide +kernel
theorem tb_ml_Nb_327 : mTB (Cond.methodLink "NineBars" 327 ⟨"NineBars$Box", "standCount", "()I"⟩) := tbq2 235 (by decide +kernel) rfl
theorem tb_im_Box_standCount : mTB (Cond.instanceMethod ⟨"NineBars$Box", "standCount", "()I"⟩) := tbq2 236 (by decide +kernel) rfl
theorem tb_se_Box_standCount : mTB (Cond.selects "NineBars$Box" ⟨"NineBars$Box", "standCount", "()I"⟩ ⟨"NineBars$Box", "standCount", "()I"⟩) := tbq2 237 (by decide +kernel) rfl
theorem mv_Box_standCount {M : mM} {idx : Nat} (h : mTB (Cond.methodLink (mO M) idx ⟨"NineBars$Box", "standCount", "()I"⟩)) : mCaV M M_Box_standCount idx 0 := ⟨h, tb_im_Box_standCount, tb_se_Box_standCount, by decide, TX0, 18, rfl⟩
theorem d_Nb_isSpent_7 : decode prog_1_method_47_code 7 = .ok (.sipush 20000, 3) := by decide +kernel
theorem d_Nb_isSpent_10 : decode prog_1_method_47_code 10 = .ok (.if_icmp .le 7, 3) := by decide +kernel
theorem d_Nb_isSpent_17 : decode prog_1_method_47_code 17 = .ok (.iconst 0, 1) := by decide +kernel
theorem d_Nb_isSpent_18 : decode prog_1_method_47_code 18 = .ok (.ireturn, 1) := by decide +kernel
theorem d_Nb_isSpent_13 : decode prog_1_method_47_code 13 = .ok (.iconst 1, 1) := by decide +kernel
theorem d_Nb_isSpent_14 : decode prog_1_method_47_code 14 = .ok (.goto 4, 3) := by decide +kernel
theorem t_Nb_isSpent {G : mG} (h : mH) (v0 : Int) (r : mR) (hr : f_Nb_isSpent h v0 = some r) : mJM G M_Nb_isSpent [(2, v0)] h r := by
  refine mJM_of (L := [(2, v0)]) rfl rfl rfl (Nat.le_of_ble_eq_true rfl) ?_
  unfold f_Nb_isSpent at hr
  refine j_aload_n (pc := 0) d_Nb_isSpent_0 rfl ?_
  refine j_getf (pc := 1) d_Nb_isSpent_1 (fd_Nb_27 rfl) hr (fun hr => ?_)
  obtain ⟨ha, hr⟩ := chk_some hr
  refine j_callG (pc := 4) (stk := [(2, hpV h v0 6)]) (as := [(2, hpV h v0 6)]) (P := (fun v9 => ((0 : Nat), v9) :: [])) (tg := 0) (My := M_Box_standCount) (mRunV (as := []) (st := []) d_Nb_isSpent_4 (mc_Box_standCount (by decide)) rfl (mv_Box_standCount tb_ml_Nb_327) rfl (Nat.le_of_ble_eq_true rfl) ha) (fun v => rfl) rfl hr (fun r1 h1 => t_Box_standCount _ _ _ h1) (fun x2 h1 hr => ?_)
  refine j_sipush (pc := 7) d_Nb_isSpent_7 ?_
  refine j_icmp_le (pc := 10) (tgt := 17) d_Nb_isSpent_10 hr (fun hr => ?_) (fun hr => ?_)
  · refine j_iconst (pc := 17) d_Nb_isSpent_17 ?_
    exact j_zret (pc := 18) d_Nb_isSpent_18 rfl hr
  · refine j_iconst (pc := 13) d_Nb_isSpent_13 ?_
    refine j_goto (pc := 14) (tgt := 18) d_Nb_isSpent_14 ?_
    exact j_zret (pc := 18) d_Nb_isSpent_18 rfl hr
def M_Box_standOf : mM := ("NineBars$Box", ⟨"NineBars$Box", "standOf", "([I)I"⟩, prog_2_method_12_code, 4, some .int, [], 1)
theorem tb_co_Box_standOf : mTB (Cond.code ⟨"NineBars$Box", "standOf", "([I)I"⟩ prog_2_method_12_code 4 (some .int)) := tbq3 2 (by decide +kernel) rfl
theorem mc_Box_standOf {M : mM} (hd : 1 < mDp M) : mCal M M_Box_standOf 1 := ⟨tb_co_Box_standOf, tb_in_NineBars_Box, ⟨by decide +kernel, by decide +kernel⟩, by decide +kernel, hd, by decide⟩
theorem d_Box_standOf_0 : decode prog_2_method_12_code 0 = .ok (.iconst 0, 1) := by decide +kernel
theorem d_Box_standOf_1 : decode prog_2_method_12_code 1 = .ok (.istore_n 2, 1) := by decide +kernel
theorem d_Box_standOf_2 : decode prog_2_method_12_code 2 = .ok (.aload_n 0, 1) := by decide +kernel
theorem d_Box_standOf_3 : decode prog_2_method_12_code 3 = .ok (.getfield 52, 3) := by decide +kernel
theorem d_Box_standOf_6 : decode prog_2_method_12_code 6 = .ok (.iconst 1, 1) := by decide +kernel
theorem d_Box_standOf_7 : decode prog_2_method_12_code 7 = .ok (.isub, 1) := by decide +kernel
theorem d_Box_standOf_8 : decode prog_2_method_12_code 8 = .ok (.istore_n 3, 1) := by decide +kernel
theorem d_Box_standOf_9 : decode prog_2_method_12_code 9 = .ok (.iload_n 3, 1) := by decide +kernel
theorem d_Box_standOf_10 : decode prog_2_method_12_code 10 = .ok (.ifCond .lt 22, 3) := by decide +kernel
theorem d_Box_standOf_32 : decode prog_2_method_12_code 32 = .ok (.iload_n 2, 1) := by decide +kernel
theorem d_Box_standOf_33 : decode prog_2_method_12_code 33 = .ok (.ireturn, 1) := by decide +kernel
theorem d_Box_standOf_13 : decode prog_2_method_12_code 13 = .ok (.iload_n 2, 1) := by decide +kernel
theorem d_Box_standOf_14 : decode prog_2_method_12_code 14 = .ok (.aload_n 0, 1) := by decide +kernel
theorem d_Box_standOf_15 : decode prog_2_method_12_code 15 = .ok (.getfield 9, 3) := by decide +kernel
theorem d_Box_standOf_18 : decode prog_2_method_12_code 18 = .ok (.iload_n 3, 1) := by decide +kernel
theorem d_Box_standOf_19 : decode prog_2_method_12_code 19 = .ok (.iaload, 1) := by decide +kernel
theorem d_Box_standOf_20 : decode prog_2_method_12_code 20 = .ok (.imul, 1) := by decide +kernel
theorem d_Box_standOf_21 : decode prog_2_method_12_code 21 = .ok (.aload_n 1, 1) := by decide +kernel
theorem d_Box_standOf_22 : decode prog_2_method_12_code 22 = .ok (.iload_n 3, 1) := by decide +kernel
theorem d_Box_standOf_23 : decode prog_2_method_12_code 23 = .ok (.iaload, 1) := by decide +kernel
theorem d_Box_standOf_24 : decode prog_2_method_12_code 24 = .ok (.iadd, 1) := by decide +kernel
theorem d_Box_standOf_25 : decode prog_2_method_12_code 25 = .ok (.istore_n 2, 1) := by decide +kernel
theorem d_Box_standOf_26 : decode prog_2_method_12_code 26 = .ok (.iinc 3 (-1), 3) := by decide +kernel
theorem d_Box_standOf_29 : decode prog_2_method_12_code 29 = .ok (.goto (-20), 3) := by decide +kernel
theorem t_Box_standOf_L9 {G : mG} {r : mR} {v0 v1 : Int}  : ∀ (n : Nat) (h : mH) (v2 v3 : Int), f_Box_standOf_L9 v0 v1 n h v2 v3 = some r → mJ G M_Box_standOf 9 [(2, v0), (2, v1), (0, v2), (0, v3)] [] h r := by
  intro n
  induction n with
  | zero =>
    intro h v2 v3 hr
    rw [f_Box_standOf_L9] at hr
    cases hr
  | succ n hR9 =>
    intro h v2 v3 hr
    rw [f_Box_standOf_L9] at hr
    refine j_iload_n (pc := 9) d_Box_standOf_9 rfl ?_
    refine j_if_lt (pc := 10) (tgt := 32) d_Box_standOf_10 hr (fun hr => ?_) (fun hr => ?_)
    · refine j_iload_n (pc := 32) d_Box_standOf_32 rfl ?_
      exact j_iret (pc := 33) d_Box_standOf_33 rfl hr
    · refine j_iload_n (pc := 13) d_Box_standOf_13 rfl ?_
      refine j_aload_n (pc := 14) d_Box_standOf_14 rfl ?_
      refine j_getf (pc := 15) d_Box_standOf_15 (fd_Box_9 rfl) hr (fun hr => ?_)
      refine j_iload_n (pc := 18) d_Box_standOf_18 rfl ?_
      refine j_iaload (pc := 19) d_Box_standOf_19 hr (fun hr => ?_)
      refine j_imul (pc := 20) d_Box_standOf_20 ?_
      refine j_aload_n (pc := 21) d_Box_standOf_21 rfl ?_
      refine j_iload_n (pc := 22) d_Box_standOf_22 rfl ?_
      refine j_iaload (pc := 23) d_Box_standOf_23 hr (fun hr => ?_)
      refine j_iadd (pc := 24) d_Box_standOf_24 ?_
      refine j_istoreW_n (pc := 25) (L := fun x1 => [(2, v0), (2, v1), (0, x1), (0, v3)]) d_Box_standOf_25 (fun _ => rfl) hr (fun x1 hr => ?_)
      refine j_iincW (pc := 26) (L := fun x2 => [(2, v0), (2, v1), (0, x1), (0, x2)]) d_Box_standOf_26 rfl (fun _ => rfl) hr (fun x2 hr => ?_)
      refine j_goto (pc := 29) (tgt := 9) d_Box_standOf_29 ?_
      exact mJ_weak (ls' := [(2, v0), (2, v1), (0, x1), (0, x2)]) (mwk_s (mwk_s (mwk_s (mwk_s mwk_n)))) (hR9 h _ _ hr)
theorem t_Box_standOf {G : mG} (h : mH) (v0 v1 : Int) (r : mR) (hr : f_Box_standOf h v0 v1 = some r) : mJM G M_Box_standOf [(2, v0), (2, v1)] h r := by
  refine mJM_of (L := [(2, v0), (2, v1), (9, 0), (9, 0)]) rfl rfl rfl (Nat.le_of_ble_eq_true rfl) ?_
  unfold f_Box_standOf at hr
  refine j_iconst (pc := 0) d_Box_standOf_0 ?_
  refine j_istore_n (pc := 1) (ls' := [(2, v0), (2, v1), (0, 0), (9, 0)]) d_Box_standOf_1 rfl ?_
  refine j_aload_n (pc := 2) d_Box_standOf_2 rfl ?_
  refine j_getf (pc := 3) d_Box_standOf_3 (fd_Box_52 rfl) hr (fun hr => ?_)
  refine j_iconst (pc := 6) d_Box_standOf_6 ?_
  refine j_isub (pc := 7) d_Box_standOf_7 ?_
  refine j_istoreW_n (pc := 8) (L := fun x1 => [(2, v0), (2, v1), (0, 0), (0, x1)]) d_Box_standOf_8 (fun _ => rfl) hr (fun x1 hr => ?_)
  refine mJ_weak (ls' := [(2, v0), (2, v1), (0, 0), (0, x1)]) (mwk_s (mwk_s (mwk_s (mwk_s mwk_n)))) (t_Box_standOf_L9  _ _ _ _ hr)
def M_Nb_stand : mM := ("NineBars", ⟨"NineBars", "stand", "()I"⟩, prog_1_method_7_code, 1, some .int, [], 5)
theorem tb_co_Nb_stand : mTB (Cond.code ⟨"NineBars", "stand", "()I"⟩ prog_1_method_7_code 1 (some .int)) := tbq2 230 (by decide +kernel) rfl
theorem mc_Nb_stand {M : mM} (hd : 5 < mDp M) : mCal M M_Nb_stand 0 := ⟨tb_co_Nb_stand, tb_in_NineBars, ⟨by decide +kernel, by decide +kernel⟩, by decide +kernel, hd, by decide⟩
theorem d_Nb_stand_0 : decode prog_1_method_7_code 0 = .ok (.aload_n 0, 1) := by decide +kernel
theorem d_Nb_stand_1 : decode prog_1_method_7_code 1 = .ok (.invokevirtual 194, 3) := by decide +kernel
theorem tb_ml_Nb_194 : mTB (Cond.methodLink "NineBars" 194 ⟨"NineBars", "isSpent", "()Z"⟩) := tbq2 231 (by decide +kernel) rfl
theorem tb_im_Nb_isSpent : mTB (Cond.instanceMethod ⟨"NineBars", "isSpent", "()Z"⟩) := tbq2 233 (by decide +kernel) rfl
theorem tb_se_Nb_isSpent : mTB (Cond.selects "NineBars" ⟨"NineBars", "isSpent", "()Z"⟩ ⟨"NineBars", "isSpent", "()Z"⟩) := tbqp 1 (by decide +kernel) rfl
theorem mv_Nb_isSpent {M : mM} {idx : Nat} (h : mTB (Cond.methodLink (mO M) idx ⟨"NineBars", "isSpent", "()Z"⟩)) : mCaV M M_Nb_isSpent idx 10 := ⟨h, tb_im_Nb_isSpent, tb_se_Nb_isSpent, by decide, TX10, 19, rfl⟩
theorem d_Nb_stand_4 : decode prog_1_method_7_code 4 = .ok (.ifCond .eq 9, 3) := by decide +kernel
theorem d_Nb_stand_13 : decode prog_1_method_7_code 13 = .ok (.aload_n 0, 1) := by decide +kernel
theorem d_Nb_stand_14 : decode prog_1_method_7_code 14 = .ok (.getfield 27, 3) := by decide +kernel
theorem d_Nb_stand_17 : decode prog_1_method_7_code 17 = .ok (.aload_n 0, 1) := by decide +kernel
theorem d_Nb_stand_18 : decode prog_1_method_7_code 18 = .ok (.getfield 27, 3) := by decide +kernel
theorem d_Nb_stand_21 : decode prog_1_method_7_code 21 = .ok (.getfield 149, 3) := by decide +kernel
theorem d_Nb_stand_24 : decode prog_1_method_7_code 24 = .ok (.invokevirtual 198, 3) := by decide +kernel
theorem tb_ml_Nb_198 : mTB (Cond.methodLink "NineBars" 198 ⟨"NineBars$Box", "standOf", "([I)I"⟩) := tbq2 239 (by decide +kernel) rfl
theorem tb_im_Box_standOf : mTB (Cond.instanceMethod ⟨"NineBars$Box", "standOf", "([I)I"⟩) := tbq3 0 (by decide +kernel) rfl
theorem tb_se_Box_standOf : mTB (Cond.selects "NineBars$Box" ⟨"NineBars$Box", "standOf", "([I)I"⟩ ⟨"NineBars$Box", "standOf", "([I)I"⟩) := tbq3 1 (by decide +kernel) rfl
theorem mv_Box_standOf {M : mM} {idx : Nat} (h : mTB (Cond.methodLink (mO M) idx ⟨"NineBars$Box", "standOf", "([I)I"⟩)) : mCaV M M_Box_standOf idx 0 := ⟨h, tb_im_Box_standOf, tb_se_Box_standOf, by decide, TX0, 18, rfl⟩
theorem d_Nb_stand_27 : decode prog_1_method_7_code 27 = .ok (.ireturn, 1) := by decide +kernel
theorem d_Nb_stand_7 : decode prog_1_method_7_code 7 = .ok (.sipush (-1000), 3) := by decide +kernel
theorem d_Nb_stand_10 : decode prog_1_method_7_code 10 = .ok (.goto 17, 3) := by decide +kernel
theorem t_Nb_stand {G : mG} (h : mH) (v0 : Int) (r : mR) (hr : f_Nb_stand h v0 = some r) : mJM G M_Nb_stand [(2, v0)] h r := by
  refine mJM_of (L := [(2, v0)]) rfl rfl rfl (Nat.le_of_ble_eq_true rfl) ?_
  unfold f_Nb_stand at hr
  refine j_aload_n (pc := 0) d_Nb_stand_0 rfl ?_
  obtain ⟨ha, hr⟩ := chk_some hr
  refine j_callG (pc := 1) (stk := [(2, v0)]) (as := [(2, v0)]) (P := (fun v9 => ((0 : Nat), v9) :: [])) (tg := 0) (My := M_Nb_isSpent) (mRunV (as := []) (st := []) d_Nb_stand_1 (mc_Nb_isSpent (by decide)) rfl (mv_Nb_isSpent tb_ml_Nb_194) rfl (Nat.le_of_ble_eq_true rfl) ha) (fun v => rfl) rfl hr (fun r1 h1 => t_Nb_isSpent _ _ _ h1) (fun x2 h1 hr => ?_)
  refine j_if_eq (pc := 4) (tgt := 13) d_Nb_stand_4 hr (fun hr => ?_) (fun hr => ?_)
  · refine j_aload_n (pc := 13) d_Nb_stand_13 rfl ?_
    refine j_getf (pc := 14) d_Nb_stand_14 (fd_Nb_27 rfl) hr (fun hr => ?_)
    refine j_aload_n (pc := 17) d_Nb_stand_17 rfl ?_
    refine j_getf (pc := 18) d_Nb_stand_18 (fd_Nb_27 rfl) hr (fun hr => ?_)
    refine j_getf (pc := 21) d_Nb_stand_21 (fd_Nb_149 rfl) hr (fun hr => ?_)
    obtain ⟨ha, hr⟩ := chk_some hr
    refine j_callG (pc := 24) (stk := [(2, hpV h1 (hpV h1 v0 6) 9), (2, hpV h1 v0 6)]) (as := [(2, hpV h1 v0 6), (2, hpV h1 (hpV h1 v0 6) 9)]) (P := (fun v9 => ((0 : Nat), v9) :: [])) (tg := 0) (My := M_Box_standOf) (mRunV (as := [(2, hpV h1 (hpV h1 v0 6) 9)]) (st := []) d_Nb_stand_24 (mc_Box_standOf (by decide)) rfl (mv_Box_standOf tb_ml_Nb_198) rfl (Nat.le_of_ble_eq_true rfl) ha) (fun v => rfl) rfl hr (fun r1 h1 => t_Box_standOf _ _ _ _ h1) (fun x4 h3 hr => ?_)
    exact j_iret (pc := 27) d_Nb_stand_27 rfl hr
  · refine j_sipush (pc := 7) d_Nb_stand_7 ?_
    refine j_goto (pc := 10) (tgt := 27) d_Nb_stand_10 ?_
    exact j_iret (pc := 27) d_Nb_stand_27 rfl hr
def M_Nb_needFew : mM := ("NineBars", ⟨"NineBars", "needFew", "()V"⟩, prog_1_method_50_code, 1, none, [], 5)
theorem tb_co_Nb_needFew : mTB (Cond.code ⟨"NineBars", "needFew", "()V"⟩ prog_1_method_50_code 1 (none)) := tbq4 163 (by decide +kernel) rfl
theorem mc_Nb_needFew {M : mM} (hd : 5 < mDp M) : mCal M M_Nb_needFew 0 := ⟨tb_co_Nb_needFew, tb_in_NineBars, ⟨by decide +kernel, by decide +kernel⟩, by decide +kernel, hd, by decide⟩
theorem d_Nb_needFew_0 : decode prog_1_method_50_code 0 = .ok (.aload_n 0, 1) := by decide +kernel
theorem d_Nb_needFew_1 : decode prog_1_method_50_code 1 = .ok (.invokevirtual 194, 3) := by decide +kernel
theorem d_Nb_needFew_4 : decode prog_1_method_50_code 4 = .ok (.ifCond .eq 14, 3) := by decide +kernel
theorem d_Nb_needFew_18 : decode prog_1_method_50_code 18 = .ok (.return_, 1) := by decide +kernel
theorem d_Nb_needFew_7 : decode prog_1_method_50_code 7 = .ok (.new 247, 3) := by decide +kernel
theorem d_Nb_needFew_10 : decode prog_1_method_50_code 10 = .ok (.dup, 1) := by decide +kernel
theorem d_Nb_needFew_11 : decode prog_1_method_50_code 11 = .ok (.ldc_w 444, 3) := by decide +kernel
theorem d_Nb_needFew_14 : decode prog_1_method_50_code 14 = .ok (.invokespecial 251, 3) := by decide +kernel
theorem d_Nb_needFew_17 : decode prog_1_method_50_code 17 = .ok (.athrow, 1) := by decide +kernel
theorem tb_cl_Nb_247 : mTB (Cond.classLink "NineBars" 247 "java/lang/IllegalStateException") := tbq4 164 (by decide +kernel) rfl
theorem tb_in_java_lang_IllegalStateException : mTB (Cond.initialized "java/lang/IllegalStateException") := tbq1 24 (by decide +kernel) rfl
theorem t_Nb_needFew {G : mG} (h : mH) (v0 : Int) (r : mR) (hr : f_Nb_needFew h v0 = some r) : mJM G M_Nb_needFew [(2, v0)] h r := by
  refine mJM_of (L := [(2, v0)]) rfl rfl rfl (Nat.le_of_ble_eq_true rfl) ?_
  unfold f_Nb_needFew at hr
  refine j_aload_n (pc := 0) d_Nb_needFew_0 rfl ?_
  obtain ⟨ha, hr⟩ := chk_some hr
  refine j_callG (pc := 1) (stk := [(2, v0)]) (as := [(2, v0)]) (P := (fun v9 => ((0 : Nat), v9) :: [])) (tg := 0) (My := M_Nb_isSpent) (mRunV (as := []) (st := []) d_Nb_needFew_1 (mc_Nb_isSpent (by decide)) rfl (mv_Nb_isSpent tb_ml_Nb_194) rfl (Nat.le_of_ble_eq_true rfl) ha) (fun v => rfl) rfl hr (fun r1 h1 => t_Nb_isSpent _ _ _ h1) (fun x2 h1 hr => ?_)
  refine j_if_eq (pc := 4) (tgt := 18) d_Nb_needFew_4 hr (fun hr => ?_) (fun hr => ?_)
  · exact j_vret (pc := 18) d_Nb_needFew_18 rfl hr
  · exact j_throwW (pc := 7) (x9 := 7) (text := "more than 20,000 stands") (k := 16) d_Nb_needFew_7 d_Nb_needFew_10 d_Nb_needFew_11 d_Nb_needFew_14 d_Nb_needFew_17 rfl (by decide +kernel) tb_cl_Nb_247 tb_in_java_lang_IllegalStateException (by decide +kernel) rfl (Nat.le_of_ble_eq_true rfl) hr
def M_Nb_needStand : mM := ("NineBars", ⟨"NineBars", "needStand", "(I)V"⟩, prog_1_method_49_code, 2, none, [], 3)
theorem tb_co_Nb_needStand : mTB (Cond.code ⟨"NineBars", "needStand", "(I)V"⟩ prog_1_method_49_code 2 (none)) := tbq4 158 (by decide +kernel) rfl
theorem mc_Nb_needStand {M : mM} (hd : 3 < mDp M) : mCal M M_Nb_needStand 1 := ⟨tb_co_Nb_needStand, tb_in_NineBars, ⟨by decide +kernel, by decide +kernel⟩, by decide +kernel, hd, by decide⟩
theorem d_Nb_needStand_0 : decode prog_1_method_49_code 0 = .ok (.iload_n 1, 1) := by decide +kernel
theorem d_Nb_needStand_1 : decode prog_1_method_49_code 1 = .ok (.ifCond .lt 14, 3) := by decide +kernel
theorem d_Nb_needStand_15 : decode prog_1_method_49_code 15 = .ok (.new 171, 3) := by decide +kernel
theorem d_Nb_needStand_18 : decode prog_1_method_49_code 18 = .ok (.dup, 1) := by decide +kernel
theorem d_Nb_needStand_19 : decode prog_1_method_49_code 19 = .ok (.ldc_w 442, 3) := by decide +kernel
theorem d_Nb_needStand_22 : decode prog_1_method_49_code 22 = .ok (.invokespecial 175, 3) := by decide +kernel
theorem d_Nb_needStand_25 : decode prog_1_method_49_code 25 = .ok (.athrow, 1) := by decide +kernel
theorem d_Nb_needStand_4 : decode prog_1_method_49_code 4 = .ok (.iload_n 1, 1) := by decide +kernel
theorem d_Nb_needStand_5 : decode prog_1_method_49_code 5 = .ok (.aload_n 0, 1) := by decide +kernel
theorem d_Nb_needStand_6 : decode prog_1_method_49_code 6 = .ok (.getfield 27, 3) := by decide +kernel
theorem d_Nb_needStand_9 : decode prog_1_method_49_code 9 = .ok (.invokevirtual 327, 3) := by decide +kernel
theorem d_Nb_needStand_12 : decode prog_1_method_49_code 12 = .ok (.if_icmp .lt 14, 3) := by decide +kernel
theorem d_Nb_needStand_26 : decode prog_1_method_49_code 26 = .ok (.return_, 1) := by decide +kernel
theorem t_Nb_needStand {G : mG} (h : mH) (v0 v1 : Int) (r : mR) (hr : f_Nb_needStand h v0 v1 = some r) : mJM G M_Nb_needStand [(2, v0), (0, v1)] h r := by
  refine mJM_of (L := [(2, v0), (0, v1)]) rfl rfl rfl (Nat.le_of_ble_eq_true rfl) ?_
  unfold f_Nb_needStand at hr
  refine j_iload_n (pc := 0) d_Nb_needStand_0 rfl ?_
  refine j_if_lt (pc := 1) (tgt := 15) d_Nb_needStand_1 hr (fun hr => ?_) (fun hr => ?_)
  · exact j_throwW (pc := 15) (x9 := 13) (text := "no such stand") (k := 15) d_Nb_needStand_15 d_Nb_needStand_18 d_Nb_needStand_19 d_Nb_needStand_22 d_Nb_needStand_25 rfl (by decide +kernel) tb_cl_Nb_171 tb_in_java_util_NoSuchElementException (by decide +kernel) rfl (Nat.le_of_ble_eq_true rfl) hr
  · refine j_iload_n (pc := 4) d_Nb_needStand_4 rfl ?_
    refine j_aload_n (pc := 5) d_Nb_needStand_5 rfl ?_
    refine j_getf (pc := 6) d_Nb_needStand_6 (fd_Nb_27 rfl) hr (fun hr => ?_)
    obtain ⟨ha, hr⟩ := chk_some hr
    refine j_callG (pc := 9) (stk := [(2, hpV h v0 6), (0, v1)]) (as := [(2, hpV h v0 6)]) (P := (fun v9 => ((0 : Nat), v9) :: [(0, v1)])) (tg := 0) (My := M_Box_standCount) (mRunV (as := []) (st := [(0, v1)]) d_Nb_needStand_9 (mc_Box_standCount (by decide)) rfl (mv_Box_standCount tb_ml_Nb_327) rfl (Nat.le_of_ble_eq_true rfl) ha) (fun v => rfl) rfl hr (fun r1 h1 => t_Box_standCount _ _ _ h1) (fun x2 h1 hr => ?_)
    refine j_icmp_lt (pc := 12) (tgt := 26) d_Nb_needStand_12 hr (fun hr => ?_) (fun hr => ?_)
    · exact j_vret (pc := 26) d_Nb_needStand_26 rfl hr
    · exact j_throwW (pc := 15) (x9 := 13) (text := "no such stand") (k := 15) d_Nb_needStand_15 d_Nb_needStand_18 d_Nb_needStand_19 d_Nb_needStand_22 d_Nb_needStand_25 rfl (by decide +kernel) tb_cl_Nb_171 tb_in_java_util_NoSuchElementException (by decide +kernel) rfl (Nat.le_of_ble_eq_true rfl) hr
def M_Box_placeOf : mM := ("NineBars$Box", ⟨"NineBars$Box", "placeOf", "(II)I"⟩, prog_2_method_13_code, 6, some .int, [], 1)
theorem tb_co_Box_placeOf : mTB (Cond.code ⟨"NineBars$Box", "placeOf", "(II)I"⟩ prog_2_method_13_code 6 (some .int)) := tbq4 183 (by decide +kernel) rfl
theorem mc_Box_placeOf {M : mM} (hd : 1 < mDp M) : mCal M M_Box_placeOf 2 := ⟨tb_co_Box_placeOf, tb_in_NineBars_Box, ⟨by decide +kernel, by decide +kernel⟩, by decide +kernel, hd, by decide⟩
theorem d_Box_placeOf_0 : decode prog_2_method_13_code 0 = .ok (.iload_n 1, 1) := by decide +kernel
theorem d_Box_placeOf_1 : decode prog_2_method_13_code 1 = .ok (.istore_n 3, 1) := by decide +kernel
theorem d_Box_placeOf_2 : decode prog_2_method_13_code 2 = .ok (.iconst 0, 1) := by decide +kernel
theorem d_Box_placeOf_3 : decode prog_2_method_13_code 3 = .ok (.istore 4, 2) := by decide +kernel
theorem d_Box_placeOf_5 : decode prog_2_method_13_code 5 = .ok (.iload 4, 2) := by decide +kernel
theorem d_Box_placeOf_7 : decode prog_2_method_13_code 7 = .ok (.aload_n 0, 1) := by decide +kernel
theorem d_Box_placeOf_8 : decode prog_2_method_13_code 8 = .ok (.getfield 52, 3) := by decide +kernel
theorem d_Box_placeOf_11 : decode prog_2_method_13_code 11 = .ok (.if_icmp .ge 41, 3) := by decide +kernel
theorem d_Box_placeOf_52 : decode prog_2_method_13_code 52 = .ok (.iconst 0, 1) := by decide +kernel
theorem d_Box_placeOf_53 : decode prog_2_method_13_code 53 = .ok (.ireturn, 1) := by decide +kernel
theorem d_Box_placeOf_14 : decode prog_2_method_13_code 14 = .ok (.aload_n 0, 1) := by decide +kernel
theorem d_Box_placeOf_15 : decode prog_2_method_13_code 15 = .ok (.getfield 9, 3) := by decide +kernel
theorem d_Box_placeOf_18 : decode prog_2_method_13_code 18 = .ok (.iload 4, 2) := by decide +kernel
theorem d_Box_placeOf_20 : decode prog_2_method_13_code 20 = .ok (.iaload, 1) := by decide +kernel
theorem d_Box_placeOf_21 : decode prog_2_method_13_code 21 = .ok (.istore 5, 2) := by decide +kernel
theorem d_Box_placeOf_23 : decode prog_2_method_13_code 23 = .ok (.iload 5, 2) := by decide +kernel
theorem d_Box_placeOf_25 : decode prog_2_method_13_code 25 = .ok (.ifCond .gt 5, 3) := by decide +kernel
theorem d_Box_placeOf_30 : decode prog_2_method_13_code 30 = .ok (.iload 4, 2) := by decide +kernel
theorem d_Box_placeOf_32 : decode prog_2_method_13_code 32 = .ok (.iload_n 2, 1) := by decide +kernel
theorem d_Box_placeOf_33 : decode prog_2_method_13_code 33 = .ok (.if_icmp .ne 8, 3) := by decide +kernel
theorem d_Box_placeOf_41 : decode prog_2_method_13_code 41 = .ok (.iload_n 3, 1) := by decide +kernel
theorem d_Box_placeOf_42 : decode prog_2_method_13_code 42 = .ok (.iload 5, 2) := by decide +kernel
theorem d_Box_placeOf_44 : decode prog_2_method_13_code 44 = .ok (.idiv, 1) := by decide +kernel
theorem d_Box_placeOf_45 : decode prog_2_method_13_code 45 = .ok (.istore_n 3, 1) := by decide +kernel
theorem d_Box_placeOf_46 : decode prog_2_method_13_code 46 = .ok (.iinc 4 1, 3) := by decide +kernel
theorem d_Box_placeOf_49 : decode prog_2_method_13_code 49 = .ok (.goto (-44), 3) := by decide +kernel
theorem d_Box_placeOf_36 : decode prog_2_method_13_code 36 = .ok (.iload_n 3, 1) := by decide +kernel
theorem d_Box_placeOf_37 : decode prog_2_method_13_code 37 = .ok (.iload 5, 2) := by decide +kernel
theorem d_Box_placeOf_39 : decode prog_2_method_13_code 39 = .ok (.irem, 1) := by decide +kernel
theorem d_Box_placeOf_40 : decode prog_2_method_13_code 40 = .ok (.ireturn, 1) := by decide +kernel
theorem d_Box_placeOf_28 : decode prog_2_method_13_code 28 = .ok (.iconst 0, 1) := by decide +kernel
theorem d_Box_placeOf_29 : decode prog_2_method_13_code 29 = .ok (.ireturn, 1) := by decide +kernel
theorem t_Box_placeOf_L5 {G : mG} {r : mR} {v0 v2 : Int}  : ∀ (n : Nat) (h : mH) (v3 v4 : Int), f_Box_placeOf_L5 v0 v2 n h v3 v4 = some r → mJ G M_Box_placeOf 5 [(2, v0), (9, 0), (0, v2), (0, v3), (0, v4), (9, 0)] [] h r := by
  intro n
  induction n with
  | zero =>
    intro h v3 v4 hr
    rw [f_Box_placeOf_L5] at hr
    cases hr
  | succ n hR5 =>
    intro h v3 v4 hr
    rw [f_Box_placeOf_L5] at hr
    refine j_iload (pc := 5) d_Box_placeOf_5 rfl ?_
    refine j_aload_n (pc := 7) d_Box_placeOf_7 rfl ?_
    refine j_getf (pc := 8) d_Box_placeOf_8 (fd_Box_52 rfl) hr (fun hr => ?_)
    refine j_icmp_ge (pc := 11) (tgt := 52) d_Box_placeOf_11 hr (fun hr => ?_) (fun hr => ?_)
    · refine j_iconst (pc := 52) d_Box_placeOf_52 ?_
      exact j_iret (pc := 53) d_Box_placeOf_53 rfl hr
    · refine j_aload_n (pc := 14) d_Box_placeOf_14 rfl ?_
      refine j_getf (pc := 15) d_Box_placeOf_15 (fd_Box_9 rfl) hr (fun hr => ?_)
      refine j_iload (pc := 18) d_Box_placeOf_18 rfl ?_
      refine j_iaload (pc := 20) d_Box_placeOf_20 hr (fun hr => ?_)
      refine j_istoreW (pc := 21) (L := fun x1 => [(2, v0), (9, 0), (0, v2), (0, v3), (0, v4), (0, x1)]) d_Box_placeOf_21 (fun _ => rfl) hr (fun x1 hr => ?_)
      refine j_iload (pc := 23) d_Box_placeOf_23 rfl ?_
      refine j_if_gt (pc := 25) (tgt := 30) d_Box_placeOf_25 hr (fun hr => ?_) (fun hr => ?_)
      · refine j_iload (pc := 30) d_Box_placeOf_30 rfl ?_
        refine j_iload_n (pc := 32) d_Box_placeOf_32 rfl ?_
        refine j_icmp_ne (pc := 33) (tgt := 41) d_Box_placeOf_33 hr (fun hr => ?_) (fun hr => ?_)
        · refine j_iload_n (pc := 41) d_Box_placeOf_41 rfl ?_
          refine j_iload (pc := 42) d_Box_placeOf_42 rfl ?_
          refine j_idiv (pc := 44) d_Box_placeOf_44 hr (fun hr => ?_)
          refine j_istoreW_n (pc := 45) (L := fun x2 => [(2, v0), (9, 0), (0, v2), (0, x2), (0, v4), (0, x1)]) d_Box_placeOf_45 (fun _ => rfl) hr (fun x2 hr => ?_)
          refine j_iincW (pc := 46) (L := fun x3 => [(2, v0), (9, 0), (0, v2), (0, x2), (0, x3), (0, x1)]) d_Box_placeOf_46 rfl (fun _ => rfl) hr (fun x3 hr => ?_)
          refine j_goto (pc := 49) (tgt := 5) d_Box_placeOf_49 ?_
          exact mJ_weak (ls' := [(2, v0), (9, 0), (0, v2), (0, x2), (0, x3), (9, 0)]) (mwk_s (mwk_s (mwk_s (mwk_s (mwk_s (mwk_d mwk_n)))))) (hR5 h _ _ hr)
        · refine j_iload_n (pc := 36) d_Box_placeOf_36 rfl ?_
          refine j_iload (pc := 37) d_Box_placeOf_37 rfl ?_
          refine j_irem (pc := 39) d_Box_placeOf_39 hr (fun hr => ?_)
          exact j_iret (pc := 40) d_Box_placeOf_40 rfl hr
      · refine j_iconst (pc := 28) d_Box_placeOf_28 ?_
        exact j_iret (pc := 29) d_Box_placeOf_29 rfl hr
theorem t_Box_placeOf {G : mG} (h : mH) (v0 v1 v2 : Int) (r : mR) (hr : f_Box_placeOf h v0 v1 v2 = some r) : mJM G M_Box_placeOf [(2, v0), (0, v1), (0, v2)] h r := by
  refine mJM_of (L := [(2, v0), (0, v1), (0, v2), (9, 0), (9, 0), (9, 0)]) rfl rfl rfl (Nat.le_of_ble_eq_true rfl) ?_
  unfold f_Box_placeOf at hr
  refine j_iload_n (pc := 0) d_Box_placeOf_0 rfl ?_
  refine j_istore_n (pc := 1) (ls' := [(2, v0), (0, v1), (0, v2), (0, v1), (9, 0), (9, 0)]) d_Box_placeOf_1 rfl ?_
  refine j_iconst (pc := 2) d_Box_placeOf_2 ?_
  refine j_istore (pc := 3) (ls' := [(2, v0), (0, v1), (0, v2), (0, v1), (0, 0), (9, 0)]) d_Box_placeOf_3 rfl ?_
  refine mJ_weak (ls' := [(2, v0), (9, 0), (0, v2), (0, v1), (0, 0), (9, 0)]) (mwk_s (mwk_d (mwk_s (mwk_s (mwk_s (mwk_s mwk_n)))))) (t_Box_placeOf_L5  _ _ _ _ hr)
def M_Nb_placeIn : mM := ("NineBars", ⟨"NineBars", "placeIn", "(II)I"⟩, prog_1_method_8_code, 3, some .int, [], 7)
theorem tb_co_Nb_placeIn : mTB (Cond.code ⟨"NineBars", "placeIn", "(II)I"⟩ prog_1_method_8_code 3 (some .int)) := tbq4 154 (by decide +kernel) rfl
theorem mc_Nb_placeIn {M : mM} (hd : 7 < mDp M) : mCal M M_Nb_placeIn 2 := ⟨tb_co_Nb_placeIn, tb_in_NineBars, ⟨by decide +kernel, by decide +kernel⟩, by decide +kernel, hd, by decide⟩
theorem d_Nb_placeIn_0 : decode prog_1_method_8_code 0 = .ok (.aload_n 0, 1) := by decide +kernel
theorem d_Nb_placeIn_1 : decode prog_1_method_8_code 1 = .ok (.iload_n 2, 1) := by decide +kernel
theorem d_Nb_placeIn_2 : decode prog_1_method_8_code 2 = .ok (.invokevirtual 142, 3) := by decide +kernel
theorem d_Nb_placeIn_5 : decode prog_1_method_8_code 5 = .ok (.aload_n 0, 1) := by decide +kernel
theorem d_Nb_placeIn_6 : decode prog_1_method_8_code 6 = .ok (.iload_n 1, 1) := by decide +kernel
theorem d_Nb_placeIn_7 : decode prog_1_method_8_code 7 = .ok (.invokevirtual 202, 3) := by decide +kernel
theorem tb_ml_Nb_202 : mTB (Cond.methodLink "NineBars" 202 ⟨"NineBars", "needStand", "(I)V"⟩) := tbq4 155 (by decide +kernel) rfl
theorem tb_im_Nb_needStand : mTB (Cond.instanceMethod ⟨"NineBars", "needStand", "(I)V"⟩) := tbq4 157 (by decide +kernel) rfl
theorem tb_se_Nb_needStand : mTB (Cond.selects "NineBars" ⟨"NineBars", "needStand", "(I)V"⟩ ⟨"NineBars", "needStand", "(I)V"⟩) := tbqp 21 (by decide +kernel) rfl
theorem mv_Nb_needStand {M : mM} {idx : Nat} (h : mTB (Cond.methodLink (mO M) idx ⟨"NineBars", "needStand", "(I)V"⟩)) : mCaV M M_Nb_needStand idx 10 := ⟨h, tb_im_Nb_needStand, tb_se_Nb_needStand, by decide, TX10, 19, rfl⟩
theorem d_Nb_placeIn_10 : decode prog_1_method_8_code 10 = .ok (.aload_n 0, 1) := by decide +kernel
theorem d_Nb_placeIn_11 : decode prog_1_method_8_code 11 = .ok (.invokevirtual 205, 3) := by decide +kernel
theorem tb_ml_Nb_205 : mTB (Cond.methodLink "NineBars" 205 ⟨"NineBars", "needFew", "()V"⟩) := tbq4 160 (by decide +kernel) rfl
theorem tb_im_Nb_needFew : mTB (Cond.instanceMethod ⟨"NineBars", "needFew", "()V"⟩) := tbq4 162 (by decide +kernel) rfl
theorem tb_se_Nb_needFew : mTB (Cond.selects "NineBars" ⟨"NineBars", "needFew", "()V"⟩ ⟨"NineBars", "needFew", "()V"⟩) := tbqp 22 (by decide +kernel) rfl
theorem mv_Nb_needFew {M : mM} {idx : Nat} (h : mTB (Cond.methodLink (mO M) idx ⟨"NineBars", "needFew", "()V"⟩)) : mCaV M M_Nb_needFew idx 10 := ⟨h, tb_im_Nb_needFew, tb_se_Nb_needFew, by decide, TX10, 19, rfl⟩
theorem d_Nb_placeIn_14 : decode prog_1_method_8_code 14 = .ok (.aload_n 0, 1) := by decide +kernel
theorem d_Nb_placeIn_15 : decode prog_1_method_8_code 15 = .ok (.getfield 27, 3) := by decide +kernel
theorem d_Nb_placeIn_18 : decode prog_1_method_8_code 18 = .ok (.iload_n 1, 1) := by decide +kernel
theorem d_Nb_placeIn_19 : decode prog_1_method_8_code 19 = .ok (.iload_n 2, 1) := by decide +kernel
theorem d_Nb_placeIn_20 : decode prog_1_method_8_code 20 = .ok (.invokevirtual 208, 3) := by decide +kernel
theorem tb_ml_Nb_208 : mTB (Cond.methodLink "NineBars" 208 ⟨"NineBars$Box", "placeOf", "(II)I"⟩) := tbq4 180 (by decide +kernel) rfl
theorem tb_im_Box_placeOf : mTB (Cond.instanceMethod ⟨"NineBars$Box", "placeOf", "(II)I"⟩) := tbq4 181 (by decide +kernel) rfl
theorem tb_se_Box_placeOf : mTB (Cond.selects "NineBars$Box" ⟨"NineBars$Box", "placeOf", "(II)I"⟩ ⟨"NineBars$Box", "placeOf", "(II)I"⟩) := tbq4 182 (by decide +kernel) rfl
theorem mv_Box_placeOf {M : mM} {idx : Nat} (h : mTB (Cond.methodLink (mO M) idx ⟨"NineBars$Box", "placeOf", "(II)I"⟩)) : mCaV M M_Box_placeOf idx 0 := ⟨h, tb_im_Box_placeOf, tb_se_Box_placeOf, by decide, TX0, 18, rfl⟩
theorem d_Nb_placeIn_23 : decode prog_1_method_8_code 23 = .ok (.ireturn, 1) := by decide +kernel
theorem t_Nb_placeIn {G : mG} (h : mH) (v0 v1 v2 : Int) (r : mR) (hr : f_Nb_placeIn h v0 v1 v2 = some r) : mJM G M_Nb_placeIn [(2, v0), (0, v1), (0, v2)] h r := by
  refine mJM_of (L := [(2, v0), (0, v1), (0, v2)]) rfl rfl rfl (Nat.le_of_ble_eq_true rfl) ?_
  unfold f_Nb_placeIn at hr
  refine j_aload_n (pc := 0) d_Nb_placeIn_0 rfl ?_
  refine j_iload_n (pc := 1) d_Nb_placeIn_1 rfl ?_
  obtain ⟨ha, hr⟩ := chk_some hr
  refine j_callG (pc := 2) (stk := [(0, v2), (2, v0)]) (as := [(2, v0), (0, v2)]) (P := (fun v9 => [])) (tg := 3) (My := M_Nb_needBar) (mRunV (as := [(0, v2)]) (st := []) d_Nb_placeIn_2 (mc_Nb_needBar (by decide)) rfl (mv_Nb_needBar tb_ml_Nb_142) rfl (Nat.le_of_ble_eq_true rfl) ha) (fun v => rfl) rfl hr (fun r1 h1 => t_Nb_needBar _ _ _ _ h1) (fun x2 h1 hr => ?_)
  refine j_aload_n (pc := 5) d_Nb_placeIn_5 rfl ?_
  refine j_iload_n (pc := 6) d_Nb_placeIn_6 rfl ?_
  obtain ⟨ha, hr⟩ := chk_some hr
  refine j_callG (pc := 7) (stk := [(0, v1), (2, v0)]) (as := [(2, v0), (0, v1)]) (P := (fun v9 => [])) (tg := 3) (My := M_Nb_needStand) (mRunV (as := [(0, v1)]) (st := []) d_Nb_placeIn_7 (mc_Nb_needStand (by decide)) rfl (mv_Nb_needStand tb_ml_Nb_202) rfl (Nat.le_of_ble_eq_true rfl) ha) (fun v => rfl) rfl hr (fun r1 h1 => t_Nb_needStand _ _ _ _ h1) (fun x4 h3 hr => ?_)
  refine j_aload_n (pc := 10) d_Nb_placeIn_10 rfl ?_
  obtain ⟨ha, hr⟩ := chk_some hr
  refine j_callG (pc := 11) (stk := [(2, v0)]) (as := [(2, v0)]) (P := (fun v9 => [])) (tg := 3) (My := M_Nb_needFew) (mRunV (as := []) (st := []) d_Nb_placeIn_11 (mc_Nb_needFew (by decide)) rfl (mv_Nb_needFew tb_ml_Nb_205) rfl (Nat.le_of_ble_eq_true rfl) ha) (fun v => rfl) rfl hr (fun r1 h1 => t_Nb_needFew _ _ _ h1) (fun x6 h5 hr => ?_)
  refine j_aload_n (pc := 14) d_Nb_placeIn_14 rfl ?_
  refine j_getf (pc := 15) d_Nb_placeIn_15 (fd_Nb_27 rfl) hr (fun hr => ?_)
  refine j_iload_n (pc := 18) d_Nb_placeIn_18 rfl ?_
  refine j_iload_n (pc := 19) d_Nb_placeIn_19 rfl ?_
  obtain ⟨ha, hr⟩ := chk_some hr
  refine j_callG (pc := 20) (stk := [(0, v2), (0, v1), (2, hpV h5 v0 6)]) (as := [(2, hpV h5 v0 6), (0, v1), (0, v2)]) (P := (fun v9 => ((0 : Nat), v9) :: [])) (tg := 0) (My := M_Box_placeOf) (mRunV (as := [(0, v1), (0, v2)]) (st := []) d_Nb_placeIn_20 (mc_Box_placeOf (by decide)) rfl (mv_Box_placeOf tb_ml_Nb_208) rfl (Nat.le_of_ble_eq_true rfl) ha) (fun v => rfl) rfl hr (fun r1 h1 => t_Box_placeOf _ _ _ _ _ h1) (fun x8 h7 hr => ?_)
  exact j_iret (pc := 23) d_Nb_placeIn_23 rfl hr
def M_Box_isOpened : mM := ("NineBars$Box", ⟨"NineBars$Box", "isOpened", "()Z"⟩, prog_2_method_15_code, 2, some .boolean, [], 1)
theorem tb_co_Box_isOpened : mTB (Cond.code ⟨"NineBars$Box", "isOpened", "()Z"⟩ prog_2_method_15_code 2 (some .boolean)) := tbq3 10 (by decide +kernel) rfl
theorem mc_Box_isOpened {M : mM} (hd : 1 < mDp M) : mCal M M_Box_isOpened 0 := ⟨tb_co_Box_isOpened, tb_in_NineBars_Box, ⟨by decide +kernel, by decide +kernel⟩, by decide +kernel, hd, by decide⟩
theorem d_Box_isOpened_0 : decode prog_2_method_15_code 0 = .ok (.iconst 0, 1) := by decide +kernel
theorem d_Box_isOpened_1 : decode prog_2_method_15_code 1 = .ok (.istore_n 1, 1) := by decide +kernel
theorem d_Box_isOpened_2 : decode prog_2_method_15_code 2 = .ok (.iload_n 1, 1) := by decide +kernel
theorem d_Box_isOpened_3 : decode prog_2_method_15_code 3 = .ok (.aload_n 0, 1) := by decide +kernel
theorem d_Box_isOpened_4 : decode prog_2_method_15_code 4 = .ok (.getfield 52, 3) := by decide +kernel
theorem d_Box_isOpened_7 : decode prog_2_method_15_code 7 = .ok (.if_icmp .ge 26, 3) := by decide +kernel
theorem d_Box_isOpened_33 : decode prog_2_method_15_code 33 = .ok (.iconst 1, 1) := by decide +kernel
theorem d_Box_isOpened_34 : decode prog_2_method_15_code 34 = .ok (.ireturn, 1) := by decide +kernel
theorem d_Box_isOpened_10 : decode prog_2_method_15_code 10 = .ok (.aload_n 0, 1) := by decide +kernel
theorem d_Box_isOpened_11 : decode prog_2_method_15_code 11 = .ok (.getfield 21, 3) := by decide +kernel
theorem d_Box_isOpened_14 : decode prog_2_method_15_code 14 = .ok (.iload_n 1, 1) := by decide +kernel
theorem d_Box_isOpened_15 : decode prog_2_method_15_code 15 = .ok (.iaload, 1) := by decide +kernel
theorem d_Box_isOpened_16 : decode prog_2_method_15_code 16 = .ok (.aload_n 0, 1) := by decide +kernel
theorem d_Box_isOpened_17 : decode prog_2_method_15_code 17 = .ok (.getfield 18, 3) := by decide +kernel
theorem d_Box_isOpened_20 : decode prog_2_method_15_code 20 = .ok (.iload_n 1, 1) := by decide +kernel
theorem d_Box_isOpened_21 : decode prog_2_method_15_code 21 = .ok (.iaload, 1) := by decide +kernel
theorem d_Box_isOpened_22 : decode prog_2_method_15_code 22 = .ok (.if_icmp .eq 5, 3) := by decide +kernel
theorem d_Box_isOpened_27 : decode prog_2_method_15_code 27 = .ok (.iinc 1 1, 3) := by decide +kernel
theorem d_Box_isOpened_30 : decode prog_2_method_15_code 30 = .ok (.goto (-28), 3) := by decide +kernel
theorem d_Box_isOpened_25 : decode prog_2_method_15_code 25 = .ok (.iconst 0, 1) := by decide +kernel
theorem d_Box_isOpened_26 : decode prog_2_method_15_code 26 = .ok (.ireturn, 1) := by decide +kernel
theorem t_Box_isOpened_L2 {G : mG} {r : mR} {v0 : Int}  : ∀ (n : Nat) (h : mH) (v1 : Int), f_Box_isOpened_L2 v0 n h v1 = some r → mJ G M_Box_isOpened 2 [(2, v0), (0, v1)] [] h r := by
  intro n
  induction n with
  | zero =>
    intro h v1 hr
    rw [f_Box_isOpened_L2] at hr
    cases hr
  | succ n hR2 =>
    intro h v1 hr
    rw [f_Box_isOpened_L2] at hr
    refine j_iload_n (pc := 2) d_Box_isOpened_2 rfl ?_
    refine j_aload_n (pc := 3) d_Box_isOpened_3 rfl ?_
    refine j_getf (pc := 4) d_Box_isOpened_4 (fd_Box_52 rfl) hr (fun hr => ?_)
    refine j_icmp_ge (pc := 7) (tgt := 33) d_Box_isOpened_7 hr (fun hr => ?_) (fun hr => ?_)
    · refine j_iconst (pc := 33) d_Box_isOpened_33 ?_
      exact j_zret (pc := 34) d_Box_isOpened_34 rfl hr
    · refine j_aload_n (pc := 10) d_Box_isOpened_10 rfl ?_
      refine j_getf (pc := 11) d_Box_isOpened_11 (fd_Box_21 rfl) hr (fun hr => ?_)
      refine j_iload_n (pc := 14) d_Box_isOpened_14 rfl ?_
      refine j_iaload (pc := 15) d_Box_isOpened_15 hr (fun hr => ?_)
      refine j_aload_n (pc := 16) d_Box_isOpened_16 rfl ?_
      refine j_getf (pc := 17) d_Box_isOpened_17 (fd_Box_18 rfl) hr (fun hr => ?_)
      refine j_iload_n (pc := 20) d_Box_isOpened_20 rfl ?_
      refine j_iaload (pc := 21) d_Box_isOpened_21 hr (fun hr => ?_)
      refine j_icmp_eq (pc := 22) (tgt := 27) d_Box_isOpened_22 hr (fun hr => ?_) (fun hr => ?_)
      · refine j_iincW (pc := 27) (L := fun x1 => [(2, v0), (0, x1)]) d_Box_isOpened_27 rfl (fun _ => rfl) hr (fun x1 hr => ?_)
        refine j_goto (pc := 30) (tgt := 2) d_Box_isOpened_30 ?_
        exact mJ_weak (ls' := [(2, v0), (0, x1)]) (mwk_s (mwk_s mwk_n)) (hR2 h _ hr)
      · refine j_iconst (pc := 25) d_Box_isOpened_25 ?_
        exact j_zret (pc := 26) d_Box_isOpened_26 rfl hr
theorem t_Box_isOpened {G : mG} (h : mH) (v0 : Int) (r : mR) (hr : f_Box_isOpened h v0 = some r) : mJM G M_Box_isOpened [(2, v0)] h r := by
  refine mJM_of (L := [(2, v0), (9, 0)]) rfl rfl rfl (Nat.le_of_ble_eq_true rfl) ?_
  unfold f_Box_isOpened at hr
  refine j_iconst (pc := 0) d_Box_isOpened_0 ?_
  refine j_istore_n (pc := 1) (ls' := [(2, v0), (0, 0)]) d_Box_isOpened_1 rfl ?_
  refine mJ_weak (ls' := [(2, v0), (0, 0)]) (mwk_s (mwk_s mwk_n)) (t_Box_isOpened_L2  _ _ _ hr)
def M_Nb_isOpen : mM := ("NineBars", ⟨"NineBars", "isOpen", "()Z"⟩, prog_1_method_9_code, 1, some .boolean, [], 3)
theorem tb_co_Nb_isOpen : mTB (Cond.code ⟨"NineBars", "isOpen", "()Z"⟩ prog_1_method_9_code 1 (some .boolean)) := tbq3 6 (by decide +kernel) rfl
theorem mc_Nb_isOpen {M : mM} (hd : 3 < mDp M) : mCal M M_Nb_isOpen 0 := ⟨tb_co_Nb_isOpen, tb_in_NineBars, ⟨by decide +kernel, by decide +kernel⟩, by decide +kernel, hd, by decide⟩
theorem d_Nb_isOpen_0 : decode prog_1_method_9_code 0 = .ok (.aload_n 0, 1) := by decide +kernel
theorem d_Nb_isOpen_1 : decode prog_1_method_9_code 1 = .ok (.getfield 27, 3) := by decide +kernel
theorem d_Nb_isOpen_4 : decode prog_1_method_9_code 4 = .ok (.invokevirtual 212, 3) := by decide +kernel
theorem tb_ml_Nb_212 : mTB (Cond.methodLink "NineBars" 212 ⟨"NineBars$Box", "isOpened", "()Z"⟩) := tbq3 7 (by decide +kernel) rfl
theorem tb_im_Box_isOpened : mTB (Cond.instanceMethod ⟨"NineBars$Box", "isOpened", "()Z"⟩) := tbq3 8 (by decide +kernel) rfl
theorem tb_se_Box_isOpened : mTB (Cond.selects "NineBars$Box" ⟨"NineBars$Box", "isOpened", "()Z"⟩ ⟨"NineBars$Box", "isOpened", "()Z"⟩) := tbq3 9 (by decide +kernel) rfl
theorem mv_Box_isOpened {M : mM} {idx : Nat} (h : mTB (Cond.methodLink (mO M) idx ⟨"NineBars$Box", "isOpened", "()Z"⟩)) : mCaV M M_Box_isOpened idx 0 := ⟨h, tb_im_Box_isOpened, tb_se_Box_isOpened, by decide, TX0, 18, rfl⟩
theorem d_Nb_isOpen_7 : decode prog_1_method_9_code 7 = .ok (.ireturn, 1) := by decide +kernel
theorem t_Nb_isOpen {G : mG} (h : mH) (v0 : Int) (r : mR) (hr : f_Nb_isOpen h v0 = some r) : mJM G M_Nb_isOpen [(2, v0)] h r := by
  refine mJM_of (L := [(2, v0)]) rfl rfl rfl (Nat.le_of_ble_eq_true rfl) ?_
  unfold f_Nb_isOpen at hr
  refine j_aload_n (pc := 0) d_Nb_isOpen_0 rfl ?_
  refine j_getf (pc := 1) d_Nb_isOpen_1 (fd_Nb_27 rfl) hr (fun hr => ?_)
  obtain ⟨ha, hr⟩ := chk_some hr
  refine j_callG (pc := 4) (stk := [(2, hpV h v0 6)]) (as := [(2, hpV h v0 6)]) (P := (fun v9 => ((0 : Nat), v9) :: [])) (tg := 0) (My := M_Box_isOpened) (mRunV (as := []) (st := []) d_Nb_isOpen_4 (mc_Box_isOpened (by decide)) rfl (mv_Box_isOpened tb_ml_Nb_212) rfl (Nat.le_of_ble_eq_true rfl) ha) (fun v => rfl) rfl hr (fun r1 h1 => t_Box_isOpened _ _ _ h1) (fun x2 h1 hr => ?_)
  exact j_zret (pc := 7) d_Nb_isOpen_7 rfl hr
def M_Box_ableIn : mM := ("NineBars$Box", ⟨"NineBars$Box", "ableIn", "([I)I"⟩, prog_2_method_20_code, 7, some .int, [], 1)
theorem tb_co_Box_ableIn : mTB (Cond.code ⟨"NineBars$Box", "ableIn", "([I)I"⟩ prog_2_method_20_code 7 (some .int)) := tbq3 22 (by decide +kernel) rfl
theorem mc_Box_ableIn {M : mM} (hd : 1 < mDp M) : mCal M M_Box_ableIn 1 := ⟨tb_co_Box_ableIn, tb_in_NineBars_Box, ⟨by decide +kernel, by decide +kernel⟩, by decide +kernel, hd, by decide⟩
theorem d_Box_ableIn_0 : decode prog_2_method_20_code 0 = .ok (.iconst 0, 1) := by decide +kernel
theorem d_Box_ableIn_1 : decode prog_2_method_20_code 1 = .ok (.istore_n 2, 1) := by decide +kernel
theorem d_Box_ableIn_2 : decode prog_2_method_20_code 2 = .ok (.iload_n 2, 1) := by decide +kernel
theorem d_Box_ableIn_3 : decode prog_2_method_20_code 3 = .ok (.aload_n 0, 1) := by decide +kernel
theorem d_Box_ableIn_4 : decode prog_2_method_20_code 4 = .ok (.getfield 52, 3) := by decide +kernel
theorem d_Box_ableIn_7 : decode prog_2_method_20_code 7 = .ok (.if_icmp .ge 15, 3) := by decide +kernel
theorem d_Box_ableIn_10 : decode prog_2_method_20_code 10 = .ok (.aload_n 1, 1) := by decide +kernel
theorem d_Box_ableIn_11 : decode prog_2_method_20_code 11 = .ok (.iload_n 2, 1) := by decide +kernel
theorem d_Box_ableIn_12 : decode prog_2_method_20_code 12 = .ok (.iaload, 1) := by decide +kernel
theorem d_Box_ableIn_13 : decode prog_2_method_20_code 13 = .ok (.ifCond .ne 9, 3) := by decide +kernel
theorem d_Box_ableIn_16 : decode prog_2_method_20_code 16 = .ok (.iinc 2 1, 3) := by decide +kernel
theorem d_Box_ableIn_19 : decode prog_2_method_20_code 19 = .ok (.goto (-17), 3) := by decide +kernel
theorem d_Box_ableIn_22 : decode prog_2_method_20_code 22 = .ok (.iload_n 2, 1) := by decide +kernel
theorem d_Box_ableIn_23 : decode prog_2_method_20_code 23 = .ok (.aload_n 0, 1) := by decide +kernel
theorem d_Box_ableIn_24 : decode prog_2_method_20_code 24 = .ok (.getfield 52, 3) := by decide +kernel
theorem d_Box_ableIn_27 : decode prog_2_method_20_code 27 = .ok (.if_icmp .ge 16, 3) := by decide +kernel
theorem d_Box_ableIn_43 : decode prog_2_method_20_code 43 = .ok (.iconst (-1), 1) := by decide +kernel
theorem d_Box_ableIn_44 : decode prog_2_method_20_code 44 = .ok (.istore_n 3, 1) := by decide +kernel
theorem d_Box_ableIn_45 : decode prog_2_method_20_code 45 = .ok (.iconst 0, 1) := by decide +kernel
theorem d_Box_ableIn_46 : decode prog_2_method_20_code 46 = .ok (.istore 4, 2) := by decide +kernel
theorem d_Box_ableIn_48 : decode prog_2_method_20_code 48 = .ok (.iconst 0, 1) := by decide +kernel
theorem d_Box_ableIn_49 : decode prog_2_method_20_code 49 = .ok (.istore 5, 2) := by decide +kernel
theorem d_Box_ableIn_51 : decode prog_2_method_20_code 51 = .ok (.iload 5, 2) := by decide +kernel
theorem d_Box_ableIn_53 : decode prog_2_method_20_code 53 = .ok (.aload_n 0, 1) := by decide +kernel
theorem d_Box_ableIn_54 : decode prog_2_method_20_code 54 = .ok (.getfield 52, 3) := by decide +kernel
theorem d_Box_ableIn_57 : decode prog_2_method_20_code 57 = .ok (.if_icmp .ge 106, 3) := by decide +kernel
theorem d_Box_ableIn_163 : decode prog_2_method_20_code 163 = .ok (.iload 4, 2) := by decide +kernel
theorem d_Box_ableIn_165 : decode prog_2_method_20_code 165 = .ok (.ireturn, 1) := by decide +kernel
theorem d_Box_ableIn_60 : decode prog_2_method_20_code 60 = .ok (.iload 5, 2) := by decide +kernel
theorem d_Box_ableIn_62 : decode prog_2_method_20_code 62 = .ok (.aload_n 0, 1) := by decide +kernel
theorem d_Box_ableIn_63 : decode prog_2_method_20_code 63 = .ok (.getfield 58, 3) := by decide +kernel
theorem d_Box_ableIn_66 : decode prog_2_method_20_code 66 = .ok (.if_icmp .ge 18, 3) := by decide +kernel
theorem d_Box_ableIn_84 : decode prog_2_method_20_code 84 = .ok (.iconst 0, 1) := by decide +kernel
theorem d_Box_ableIn_85 : decode prog_2_method_20_code 85 = .ok (.istore 6, 2) := by decide +kernel
theorem d_Box_ableIn_87 : decode prog_2_method_20_code 87 = .ok (.aload_n 1, 1) := by decide +kernel
theorem d_Box_ableIn_88 : decode prog_2_method_20_code 88 = .ok (.iload 5, 2) := by decide +kernel
theorem d_Box_ableIn_90 : decode prog_2_method_20_code 90 = .ok (.iaload, 1) := by decide +kernel
theorem d_Box_ableIn_91 : decode prog_2_method_20_code 91 = .ok (.ifCond .le 27, 3) := by decide +kernel
theorem d_Box_ableIn_118 : decode prog_2_method_20_code 118 = .ok (.aload_n 1, 1) := by decide +kernel
theorem d_Box_ableIn_119 : decode prog_2_method_20_code 119 = .ok (.iload 5, 2) := by decide +kernel
theorem d_Box_ableIn_121 : decode prog_2_method_20_code 121 = .ok (.iaload, 1) := by decide +kernel
theorem d_Box_ableIn_122 : decode prog_2_method_20_code 122 = .ok (.aload_n 0, 1) := by decide +kernel
theorem d_Box_ableIn_123 : decode prog_2_method_20_code 123 = .ok (.getfield 9, 3) := by decide +kernel
theorem d_Box_ableIn_126 : decode prog_2_method_20_code 126 = .ok (.iload 5, 2) := by decide +kernel
theorem d_Box_ableIn_128 : decode prog_2_method_20_code 128 = .ok (.iaload, 1) := by decide +kernel
theorem d_Box_ableIn_129 : decode prog_2_method_20_code 129 = .ok (.iconst 1, 1) := by decide +kernel
theorem d_Box_ableIn_130 : decode prog_2_method_20_code 130 = .ok (.isub, 1) := by decide +kernel
theorem d_Box_ableIn_131 : decode prog_2_method_20_code 131 = .ok (.if_icmp .ge 26, 3) := by decide +kernel
theorem d_Box_ableIn_157 : decode prog_2_method_20_code 157 = .ok (.iinc 5 1, 3) := by decide +kernel
theorem d_Box_ableIn_160 : decode prog_2_method_20_code 160 = .ok (.goto (-109), 3) := by decide +kernel
theorem d_Box_ableIn_134 : decode prog_2_method_20_code 134 = .ok (.iload 6, 2) := by decide +kernel
theorem d_Box_ableIn_136 : decode prog_2_method_20_code 136 = .ok (.ifCond .eq 10, 3) := by decide +kernel
theorem d_Box_ableIn_146 : decode prog_2_method_20_code 146 = .ok (.iload 4, 2) := by decide +kernel
theorem d_Box_ableIn_148 : decode prog_2_method_20_code 148 = .ok (.iconst 2, 1) := by decide +kernel
theorem d_Box_ableIn_149 : decode prog_2_method_20_code 149 = .ok (.iconst 2, 1) := by decide +kernel
theorem d_Box_ableIn_150 : decode prog_2_method_20_code 150 = .ok (.iload 5, 2) := by decide +kernel
theorem d_Box_ableIn_152 : decode prog_2_method_20_code 152 = .ok (.imul, 1) := by decide +kernel
theorem d_Box_ableIn_153 : decode prog_2_method_20_code 153 = .ok (.ishl, 1) := by decide +kernel
theorem d_Box_ableIn_154 : decode prog_2_method_20_code 154 = .ok (.ior, 1) := by decide +kernel
theorem d_Box_ableIn_155 : decode prog_2_method_20_code 155 = .ok (.istore 4, 2) := by decide +kernel
theorem d_Box_ableIn_139 : decode prog_2_method_20_code 139 = .ok (.aload_n 1, 1) := by decide +kernel
theorem d_Box_ableIn_140 : decode prog_2_method_20_code 140 = .ok (.iload 5, 2) := by decide +kernel
theorem d_Box_ableIn_142 : decode prog_2_method_20_code 142 = .ok (.iaload, 1) := by decide +kernel
theorem d_Box_ableIn_143 : decode prog_2_method_20_code 143 = .ok (.ifCond .eq 14, 3) := by decide +kernel
theorem d_Box_ableIn_94 : decode prog_2_method_20_code 94 = .ok (.iload 6, 2) := by decide +kernel
theorem d_Box_ableIn_96 : decode prog_2_method_20_code 96 = .ok (.ifCond .eq 11, 3) := by decide +kernel
theorem d_Box_ableIn_107 : decode prog_2_method_20_code 107 = .ok (.iload 4, 2) := by decide +kernel
theorem d_Box_ableIn_109 : decode prog_2_method_20_code 109 = .ok (.iconst 1, 1) := by decide +kernel
theorem d_Box_ableIn_110 : decode prog_2_method_20_code 110 = .ok (.iconst 2, 1) := by decide +kernel
theorem d_Box_ableIn_111 : decode prog_2_method_20_code 111 = .ok (.iload 5, 2) := by decide +kernel
theorem d_Box_ableIn_113 : decode prog_2_method_20_code 113 = .ok (.imul, 1) := by decide +kernel
theorem d_Box_ableIn_114 : decode prog_2_method_20_code 114 = .ok (.ishl, 1) := by decide +kernel
theorem d_Box_ableIn_115 : decode prog_2_method_20_code 115 = .ok (.ior, 1) := by decide +kernel
theorem d_Box_ableIn_116 : decode prog_2_method_20_code 116 = .ok (.istore 4, 2) := by decide +kernel
theorem d_Box_ableIn_99 : decode prog_2_method_20_code 99 = .ok (.aload_n 1, 1) := by decide +kernel
theorem d_Box_ableIn_100 : decode prog_2_method_20_code 100 = .ok (.iload 5, 2) := by decide +kernel
theorem d_Box_ableIn_102 : decode prog_2_method_20_code 102 = .ok (.iaload, 1) := by decide +kernel
theorem d_Box_ableIn_103 : decode prog_2_method_20_code 103 = .ok (.iconst 1, 1) := by decide +kernel
theorem d_Box_ableIn_104 : decode prog_2_method_20_code 104 = .ok (.if_icmp .eq 14, 3) := by decide +kernel
theorem d_Box_ableIn_69 : decode prog_2_method_20_code 69 = .ok (.iload 5, 2) := by decide +kernel
theorem d_Box_ableIn_71 : decode prog_2_method_20_code 71 = .ok (.ifCond .eq 13, 3) := by decide +kernel
theorem d_Box_ableIn_74 : decode prog_2_method_20_code 74 = .ok (.iload 5, 2) := by decide +kernel
theorem d_Box_ableIn_76 : decode prog_2_method_20_code 76 = .ok (.iload_n 3, 1) := by decide +kernel
theorem d_Box_ableIn_77 : decode prog_2_method_20_code 77 = .ok (.if_icmp .eq 7, 3) := by decide +kernel
theorem d_Box_ableIn_80 : decode prog_2_method_20_code 80 = .ok (.iconst 1, 1) := by decide +kernel
theorem d_Box_ableIn_81 : decode prog_2_method_20_code 81 = .ok (.goto 4, 3) := by decide +kernel
theorem d_Box_ableIn_30 : decode prog_2_method_20_code 30 = .ok (.aload_n 1, 1) := by decide +kernel
theorem d_Box_ableIn_31 : decode prog_2_method_20_code 31 = .ok (.iload_n 2, 1) := by decide +kernel
theorem d_Box_ableIn_32 : decode prog_2_method_20_code 32 = .ok (.iaload, 1) := by decide +kernel
theorem d_Box_ableIn_33 : decode prog_2_method_20_code 33 = .ok (.iconst 1, 1) := by decide +kernel
theorem d_Box_ableIn_34 : decode prog_2_method_20_code 34 = .ok (.if_icmp .ne 9, 3) := by decide +kernel
theorem d_Box_ableIn_37 : decode prog_2_method_20_code 37 = .ok (.iload_n 2, 1) := by decide +kernel
theorem d_Box_ableIn_38 : decode prog_2_method_20_code 38 = .ok (.iconst 1, 1) := by decide +kernel
theorem d_Box_ableIn_39 : decode prog_2_method_20_code 39 = .ok (.iadd, 1) := by decide +kernel
theorem d_Box_ableIn_40 : decode prog_2_method_20_code 40 = .ok (.goto 4, 3) := by decide +kernel
theorem t_Box_ableIn_L2 {G : mG} {r : mR} {v0 v1 : Int} {K22 : mH → Int → Option mR} (hK22 : ∀ (h : mH) (w2 : Int) , K22 h w2 = some r → mJ G M_Box_ableIn 22 [(2, v0), (2, v1), (0, w2), (9, 0), (9, 0), (9, 0), (9, 0)] [] h r) : ∀ (n : Nat) (h : mH) (v2 : Int), f_Box_ableIn_L2 K22 v0 v1 n h v2 = some r → mJ G M_Box_ableIn 2 [(2, v0), (2, v1), (0, v2), (9, 0), (9, 0), (9, 0), (9, 0)] [] h r := by
  intro n
  induction n with
  | zero =>
    intro h v2 hr
    rw [f_Box_ableIn_L2] at hr
    cases hr
  | succ n hR2 =>
    intro h v2 hr
    rw [f_Box_ableIn_L2] at hr
    refine j_iload_n (pc := 2) d_Box_ableIn_2 rfl ?_
    refine j_aload_n (pc := 3) d_Box_ableIn_3 rfl ?_
    refine j_getf (pc := 4) d_Box_ableIn_4 (fd_Box_52 rfl) hr (fun hr => ?_)
    refine j_icmp_ge (pc := 7) (tgt := 22) d_Box_ableIn_7 hr (fun hr => ?_) (fun hr => ?_)
    · exact mJ_weak (ls' := [(2, v0), (2, v1), (0, v2), (9, 0), (9, 0), (9, 0), (9, 0)]) (mwk_s (mwk_s (mwk_s (mwk_s (mwk_s (mwk_s (mwk_s mwk_n))))))) (hK22 h _ hr)
    · refine j_aload_n (pc := 10) d_Box_ableIn_10 rfl ?_
      refine j_iload_n (pc := 11) d_Box_ableIn_11 rfl ?_
      refine j_iaload (pc := 12) d_Box_ableIn_12 hr (fun hr => ?_)
      refine j_if_ne (pc := 13) (tgt := 22) d_Box_ableIn_13 hr (fun hr => ?_) (fun hr => ?_)
      · exact mJ_weak (ls' := [(2, v0), (2, v1), (0, v2), (9, 0), (9, 0), (9, 0), (9, 0)]) (mwk_s (mwk_s (mwk_s (mwk_s (mwk_s (mwk_s (mwk_s mwk_n))))))) (hK22 h _ hr)
      · refine j_iincW (pc := 16) (L := fun x1 => [(2, v0), (2, v1), (0, x1), (9, 0), (9, 0), (9, 0), (9, 0)]) d_Box_ableIn_16 rfl (fun _ => rfl) hr (fun x1 hr => ?_)
        refine j_goto (pc := 19) (tgt := 2) d_Box_ableIn_19 ?_
        exact mJ_weak (ls' := [(2, v0), (2, v1), (0, x1), (9, 0), (9, 0), (9, 0), (9, 0)]) (mwk_s (mwk_s (mwk_s (mwk_s (mwk_s (mwk_s (mwk_s mwk_n))))))) (hR2 h _ hr)
theorem t_Box_ableIn_J157 {G : mG} {r : mR} {v0 v1 v3 v4 v5 : Int} {h : mH} {R51 : mH → Int → Int → Option mR} (hR51 : ∀ (h : mH) (w4 w5 : Int) , R51 h w4 w5 = some r → mJ G M_Box_ableIn 51 [(2, v0), (2, v1), (9, 0), (0, v3), (0, w4), (0, w5), (9, 0)] [] h r) (hr : f_Box_ableIn_J157 R51 v4 v5 h = some r) : mJ G M_Box_ableIn 157 [(2, v0), (2, v1), (9, 0), (0, v3), (0, v4), (0, v5), (9, 0)] [] h r := by
  unfold f_Box_ableIn_J157 at hr
  refine j_iincW (pc := 157) (L := fun x1 => [(2, v0), (2, v1), (9, 0), (0, v3), (0, v4), (0, x1), (9, 0)]) d_Box_ableIn_157 rfl (fun _ => rfl) hr (fun x1 hr => ?_)
  refine j_goto (pc := 160) (tgt := 51) d_Box_ableIn_160 ?_
  exact mJ_weak (ls' := [(2, v0), (2, v1), (9, 0), (0, v3), (0, v4), (0, x1), (9, 0)]) (mwk_s (mwk_s (mwk_s (mwk_s (mwk_s (mwk_s (mwk_s mwk_n))))))) (hR51 h _ _ hr)
theorem t_Box_ableIn_J146 {G : mG} {r : mR} {v0 v1 v3 v4 v5 : Int} {h : mH} {R51 : mH → Int → Int → Option mR} (hR51 : ∀ (h : mH) (w4 w5 : Int) , R51 h w4 w5 = some r → mJ G M_Box_ableIn 51 [(2, v0), (2, v1), (9, 0), (0, v3), (0, w4), (0, w5), (9, 0)] [] h r) (hr : f_Box_ableIn_J146 R51 v4 v5 h = some r) : mJ G M_Box_ableIn 146 [(2, v0), (2, v1), (9, 0), (0, v3), (0, v4), (0, v5), (9, 0)] [] h r := by
  unfold f_Box_ableIn_J146 at hr
  refine j_iload (pc := 146) d_Box_ableIn_146 rfl ?_
  refine j_iconst (pc := 148) d_Box_ableIn_148 ?_
  refine j_iconst (pc := 149) d_Box_ableIn_149 ?_
  refine j_iload (pc := 150) d_Box_ableIn_150 rfl ?_
  refine j_imul (pc := 152) d_Box_ableIn_152 ?_
  refine j_ishl (pc := 153) d_Box_ableIn_153 ?_
  refine j_ior (pc := 154) d_Box_ableIn_154 ?_
  refine j_istoreW (pc := 155) (L := fun x1 => [(2, v0), (2, v1), (9, 0), (0, v3), (0, x1), (0, v5), (9, 0)]) d_Box_ableIn_155 (fun _ => rfl) hr (fun x1 hr => ?_)
  exact mJ_weak (ls' := [(2, v0), (2, v1), (9, 0), (0, v3), (0, x1), (0, v5), (9, 0)]) (mwk_s (mwk_s (mwk_s (mwk_s (mwk_s (mwk_s (mwk_s mwk_n))))))) (t_Box_ableIn_J157 hR51 hr)
theorem t_Box_ableIn_J118 {G : mG} {r : mR} {v0 v1 v3 v4 v5 v6 : Int} {h : mH} {R51 : mH → Int → Int → Option mR} (hR51 : ∀ (h : mH) (w4 w5 : Int) , R51 h w4 w5 = some r → mJ G M_Box_ableIn 51 [(2, v0), (2, v1), (9, 0), (0, v3), (0, w4), (0, w5), (9, 0)] [] h r) (hr : f_Box_ableIn_J118 R51 v0 v1 v4 v5 v6 h = some r) : mJ G M_Box_ableIn 118 [(2, v0), (2, v1), (9, 0), (0, v3), (0, v4), (0, v5), (0, v6)] [] h r := by
  unfold f_Box_ableIn_J118 at hr
  refine j_aload_n (pc := 118) d_Box_ableIn_118 rfl ?_
  refine j_iload (pc := 119) d_Box_ableIn_119 rfl ?_
  refine j_iaload (pc := 121) d_Box_ableIn_121 hr (fun hr => ?_)
  refine j_aload_n (pc := 122) d_Box_ableIn_122 rfl ?_
  refine j_getf (pc := 123) d_Box_ableIn_123 (fd_Box_9 rfl) hr (fun hr => ?_)
  refine j_iload (pc := 126) d_Box_ableIn_126 rfl ?_
  refine j_iaload (pc := 128) d_Box_ableIn_128 hr (fun hr => ?_)
  refine j_iconst (pc := 129) d_Box_ableIn_129 ?_
  refine j_isub (pc := 130) d_Box_ableIn_130 ?_
  refine j_icmp_ge (pc := 131) (tgt := 157) d_Box_ableIn_131 hr (fun hr => ?_) (fun hr => ?_)
  · exact mJ_weak (ls' := [(2, v0), (2, v1), (9, 0), (0, v3), (0, v4), (0, v5), (9, 0)]) (mwk_s (mwk_s (mwk_s (mwk_s (mwk_s (mwk_s (mwk_d mwk_n))))))) (t_Box_ableIn_J157 hR51 hr)
  · refine j_iload (pc := 134) d_Box_ableIn_134 rfl ?_
    refine j_if_eq (pc := 136) (tgt := 146) d_Box_ableIn_136 hr (fun hr => ?_) (fun hr => ?_)
    · exact mJ_weak (ls' := [(2, v0), (2, v1), (9, 0), (0, v3), (0, v4), (0, v5), (9, 0)]) (mwk_s (mwk_s (mwk_s (mwk_s (mwk_s (mwk_s (mwk_d mwk_n))))))) (t_Box_ableIn_J146 hR51 hr)
    · refine j_aload_n (pc := 139) d_Box_ableIn_139 rfl ?_
      refine j_iload (pc := 140) d_Box_ableIn_140 rfl ?_
      refine j_iaload (pc := 142) d_Box_ableIn_142 hr (fun hr => ?_)
      refine j_if_eq (pc := 143) (tgt := 157) d_Box_ableIn_143 hr (fun hr => ?_) (fun hr => ?_)
      · exact mJ_weak (ls' := [(2, v0), (2, v1), (9, 0), (0, v3), (0, v4), (0, v5), (9, 0)]) (mwk_s (mwk_s (mwk_s (mwk_s (mwk_s (mwk_s (mwk_d mwk_n))))))) (t_Box_ableIn_J157 hR51 hr)
      · exact mJ_weak (ls' := [(2, v0), (2, v1), (9, 0), (0, v3), (0, v4), (0, v5), (9, 0)]) (mwk_s (mwk_s (mwk_s (mwk_s (mwk_s (mwk_s (mwk_d mwk_n))))))) (t_Box_ableIn_J146 hR51 hr)
theorem t_Box_ableIn_J107 {G : mG} {r : mR} {v0 v1 v3 v4 v5 v6 : Int} {h : mH} {R51 : mH → Int → Int → Option mR} (hR51 : ∀ (h : mH) (w4 w5 : Int) , R51 h w4 w5 = some r → mJ G M_Box_ableIn 51 [(2, v0), (2, v1), (9, 0), (0, v3), (0, w4), (0, w5), (9, 0)] [] h r) (hr : f_Box_ableIn_J107 R51 v0 v1 v4 v5 v6 h = some r) : mJ G M_Box_ableIn 107 [(2, v0), (2, v1), (9, 0), (0, v3), (0, v4), (0, v5), (0, v6)] [] h r := by
  unfold f_Box_ableIn_J107 at hr
  refine j_iload (pc := 107) d_Box_ableIn_107 rfl ?_
  refine j_iconst (pc := 109) d_Box_ableIn_109 ?_
  refine j_iconst (pc := 110) d_Box_ableIn_110 ?_
  refine j_iload (pc := 111) d_Box_ableIn_111 rfl ?_
  refine j_imul (pc := 113) d_Box_ableIn_113 ?_
  refine j_ishl (pc := 114) d_Box_ableIn_114 ?_
  refine j_ior (pc := 115) d_Box_ableIn_115 ?_
  refine j_istoreW (pc := 116) (L := fun x1 => [(2, v0), (2, v1), (9, 0), (0, v3), (0, x1), (0, v5), (0, v6)]) d_Box_ableIn_116 (fun _ => rfl) hr (fun x1 hr => ?_)
  exact mJ_weak (ls' := [(2, v0), (2, v1), (9, 0), (0, v3), (0, x1), (0, v5), (0, v6)]) (mwk_s (mwk_s (mwk_s (mwk_s (mwk_s (mwk_s (mwk_s mwk_n))))))) (t_Box_ableIn_J118 hR51 hr)
theorem t_Box_ableIn_J85 {G : mG} {r : mR} {v0 v1 v3 v4 v5 s0 : Int} {h : mH} {R51 : mH → Int → Int → Option mR} (hR51 : ∀ (h : mH) (w4 w5 : Int) , R51 h w4 w5 = some r → mJ G M_Box_ableIn 51 [(2, v0), (2, v1), (9, 0), (0, v3), (0, w4), (0, w5), (9, 0)] [] h r) (hr : f_Box_ableIn_J85 R51 v0 v1 v4 v5 s0 h = some r) : mJ G M_Box_ableIn 85 [(2, v0), (2, v1), (9, 0), (0, v3), (0, v4), (0, v5), (9, 0)] [(0, s0)] h r := by
  unfold f_Box_ableIn_J85 at hr
  refine j_istore (pc := 85) (ls' := [(2, v0), (2, v1), (9, 0), (0, v3), (0, v4), (0, v5), (0, s0)]) d_Box_ableIn_85 rfl ?_
  refine j_aload_n (pc := 87) d_Box_ableIn_87 rfl ?_
  refine j_iload (pc := 88) d_Box_ableIn_88 rfl ?_
  refine j_iaload (pc := 90) d_Box_ableIn_90 hr (fun hr => ?_)
  refine j_if_le (pc := 91) (tgt := 118) d_Box_ableIn_91 hr (fun hr => ?_) (fun hr => ?_)
  · exact mJ_weak (ls' := [(2, v0), (2, v1), (9, 0), (0, v3), (0, v4), (0, v5), (0, s0)]) (mwk_s (mwk_s (mwk_s (mwk_s (mwk_s (mwk_s (mwk_s mwk_n))))))) (t_Box_ableIn_J118 hR51 hr)
  · refine j_iload (pc := 94) d_Box_ableIn_94 rfl ?_
    refine j_if_eq (pc := 96) (tgt := 107) d_Box_ableIn_96 hr (fun hr => ?_) (fun hr => ?_)
    · exact mJ_weak (ls' := [(2, v0), (2, v1), (9, 0), (0, v3), (0, v4), (0, v5), (0, s0)]) (mwk_s (mwk_s (mwk_s (mwk_s (mwk_s (mwk_s (mwk_s mwk_n))))))) (t_Box_ableIn_J107 hR51 hr)
    · refine j_aload_n (pc := 99) d_Box_ableIn_99 rfl ?_
      refine j_iload (pc := 100) d_Box_ableIn_100 rfl ?_
      refine j_iaload (pc := 102) d_Box_ableIn_102 hr (fun hr => ?_)
      refine j_iconst (pc := 103) d_Box_ableIn_103 ?_
      refine j_icmp_eq (pc := 104) (tgt := 118) d_Box_ableIn_104 hr (fun hr => ?_) (fun hr => ?_)
      · exact mJ_weak (ls' := [(2, v0), (2, v1), (9, 0), (0, v3), (0, v4), (0, v5), (0, s0)]) (mwk_s (mwk_s (mwk_s (mwk_s (mwk_s (mwk_s (mwk_s mwk_n))))))) (t_Box_ableIn_J118 hR51 hr)
      · exact mJ_weak (ls' := [(2, v0), (2, v1), (9, 0), (0, v3), (0, v4), (0, v5), (0, s0)]) (mwk_s (mwk_s (mwk_s (mwk_s (mwk_s (mwk_s (mwk_s mwk_n))))))) (t_Box_ableIn_J107 hR51 hr)
theorem t_Box_ableIn_J84 {G : mG} {r : mR} {v0 v1 v3 v4 v5 : Int} {h : mH} {R51 : mH → Int → Int → Option mR} (hR51 : ∀ (h : mH) (w4 w5 : Int) , R51 h w4 w5 = some r → mJ G M_Box_ableIn 51 [(2, v0), (2, v1), (9, 0), (0, v3), (0, w4), (0, w5), (9, 0)] [] h r) (hr : f_Box_ableIn_J84 R51 v0 v1 v4 v5 h = some r) : mJ G M_Box_ableIn 84 [(2, v0), (2, v1), (9, 0), (0, v3), (0, v4), (0, v5), (9, 0)] [] h r := by
  unfold f_Box_ableIn_J84 at hr
  refine j_iconst (pc := 84) d_Box_ableIn_84 ?_
  exact mJ_weak (ls' := [(2, v0), (2, v1), (9, 0), (0, v3), (0, v4), (0, v5), (9, 0)]) (mwk_s (mwk_s (mwk_s (mwk_s (mwk_s (mwk_s (mwk_s mwk_n))))))) (t_Box_ableIn_J85 hR51 hr)
theorem t_Box_ableIn_L51 {G : mG} {r : mR} {v0 v1 v3 : Int}  : ∀ (n : Nat) (h : mH) (v4 v5 : Int), f_Box_ableIn_L51 v0 v1 v3 n h v4 v5 = some r → mJ G M_Box_ableIn 51 [(2, v0), (2, v1), (9, 0), (0, v3), (0, v4), (0, v5), (9, 0)] [] h r := by
  intro n
  induction n with
  | zero =>
    intro h v4 v5 hr
    rw [f_Box_ableIn_L51] at hr
    cases hr
  | succ n hR51 =>
    intro h v4 v5 hr
    rw [f_Box_ableIn_L51] at hr
    refine j_iload (pc := 51) d_Box_ableIn_51 rfl ?_
    refine j_aload_n (pc := 53) d_Box_ableIn_53 rfl ?_
    refine j_getf (pc := 54) d_Box_ableIn_54 (fd_Box_52 rfl) hr (fun hr => ?_)
    refine j_icmp_ge (pc := 57) (tgt := 163) d_Box_ableIn_57 hr (fun hr => ?_) (fun hr => ?_)
    · refine j_iload (pc := 163) d_Box_ableIn_163 rfl ?_
      exact j_iret (pc := 165) d_Box_ableIn_165 rfl hr
    · refine j_iload (pc := 60) d_Box_ableIn_60 rfl ?_
      refine j_aload_n (pc := 62) d_Box_ableIn_62 rfl ?_
      refine j_getf (pc := 63) d_Box_ableIn_63 (fd_Box_58 rfl) hr (fun hr => ?_)
      refine j_icmp_ge (pc := 66) (tgt := 84) d_Box_ableIn_66 hr (fun hr => ?_) (fun hr => ?_)
      · exact mJ_weak (ls' := [(2, v0), (2, v1), (9, 0), (0, v3), (0, v4), (0, v5), (9, 0)]) (mwk_s (mwk_s (mwk_s (mwk_s (mwk_s (mwk_s (mwk_s mwk_n))))))) (t_Box_ableIn_J84 hR51 hr)
      · refine j_iload (pc := 69) d_Box_ableIn_69 rfl ?_
        refine j_if_eq (pc := 71) (tgt := 84) d_Box_ableIn_71 hr (fun hr => ?_) (fun hr => ?_)
        · exact mJ_weak (ls' := [(2, v0), (2, v1), (9, 0), (0, v3), (0, v4), (0, v5), (9, 0)]) (mwk_s (mwk_s (mwk_s (mwk_s (mwk_s (mwk_s (mwk_s mwk_n))))))) (t_Box_ableIn_J84 hR51 hr)
        · refine j_iload (pc := 74) d_Box_ableIn_74 rfl ?_
          refine j_iload_n (pc := 76) d_Box_ableIn_76 rfl ?_
          refine j_icmp_eq (pc := 77) (tgt := 84) d_Box_ableIn_77 hr (fun hr => ?_) (fun hr => ?_)
          · exact mJ_weak (ls' := [(2, v0), (2, v1), (9, 0), (0, v3), (0, v4), (0, v5), (9, 0)]) (mwk_s (mwk_s (mwk_s (mwk_s (mwk_s (mwk_s (mwk_s mwk_n))))))) (t_Box_ableIn_J84 hR51 hr)
          · refine j_iconst (pc := 80) d_Box_ableIn_80 ?_
            refine j_goto (pc := 81) (tgt := 85) d_Box_ableIn_81 ?_
            exact mJ_weak (ls' := [(2, v0), (2, v1), (9, 0), (0, v3), (0, v4), (0, v5), (9, 0)]) (mwk_s (mwk_s (mwk_s (mwk_s (mwk_s (mwk_s (mwk_s mwk_n))))))) (t_Box_ableIn_J85 hR51 hr)
theorem t_Box_ableIn_J44 {G : mG} {r : mR} {v0 v1 s0 : Int} {h : mH}  (hr : f_Box_ableIn_J44 v0 v1 s0 h = some r) : mJ G M_Box_ableIn 44 [(2, v0), (2, v1), (9, 0), (9, 0), (9, 0), (9, 0), (9, 0)] [(0, s0)] h r := by
  unfold f_Box_ableIn_J44 at hr
  refine j_istore_n (pc := 44) (ls' := [(2, v0), (2, v1), (9, 0), (0, s0), (9, 0), (9, 0), (9, 0)]) d_Box_ableIn_44 rfl ?_
  refine j_iconst (pc := 45) d_Box_ableIn_45 ?_
  refine j_istore (pc := 46) (ls' := [(2, v0), (2, v1), (9, 0), (0, s0), (0, 0), (9, 0), (9, 0)]) d_Box_ableIn_46 rfl ?_
  refine j_iconst (pc := 48) d_Box_ableIn_48 ?_
  refine j_istore (pc := 49) (ls' := [(2, v0), (2, v1), (9, 0), (0, s0), (0, 0), (0, 0), (9, 0)]) d_Box_ableIn_49 rfl ?_
  refine mJ_weak (ls' := [(2, v0), (2, v1), (9, 0), (0, s0), (0, 0), (0, 0), (9, 0)]) (mwk_s (mwk_s (mwk_s (mwk_s (mwk_s (mwk_s (mwk_s mwk_n))))))) (t_Box_ableIn_L51  _ _ _ _ hr)
theorem t_Box_ableIn_J43 {G : mG} {r : mR} {v0 v1 : Int} {h : mH}  (hr : f_Box_ableIn_J43 v0 v1 h = some r) : mJ G M_Box_ableIn 43 [(2, v0), (2, v1), (9, 0), (9, 0), (9, 0), (9, 0), (9, 0)] [] h r := by
  unfold f_Box_ableIn_J43 at hr
  refine j_iconst (pc := 43) d_Box_ableIn_43 ?_
  exact mJ_weak (ls' := [(2, v0), (2, v1), (9, 0), (9, 0), (9, 0), (9, 0), (9, 0)]) (mwk_s (mwk_s (mwk_s (mwk_s (mwk_s (mwk_s (mwk_s mwk_n))))))) (t_Box_ableIn_J44  hr)
theorem t_Box_ableIn_J22 {G : mG} {r : mR} {v0 v1 v2 : Int} {h : mH}  (hr : f_Box_ableIn_J22 v0 v1 v2 h = some r) : mJ G M_Box_ableIn 22 [(2, v0), (2, v1), (0, v2), (9, 0), (9, 0), (9, 0), (9, 0)] [] h r := by
  unfold f_Box_ableIn_J22 at hr
  refine j_iload_n (pc := 22) d_Box_ableIn_22 rfl ?_
  refine j_aload_n (pc := 23) d_Box_ableIn_23 rfl ?_
  refine j_getf (pc := 24) d_Box_ableIn_24 (fd_Box_52 rfl) hr (fun hr => ?_)
  refine j_icmp_ge (pc := 27) (tgt := 43) d_Box_ableIn_27 hr (fun hr => ?_) (fun hr => ?_)
  · exact mJ_weak (ls' := [(2, v0), (2, v1), (9, 0), (9, 0), (9, 0), (9, 0), (9, 0)]) (mwk_s (mwk_s (mwk_d (mwk_s (mwk_s (mwk_s (mwk_s mwk_n))))))) (t_Box_ableIn_J43  hr)
  · refine j_aload_n (pc := 30) d_Box_ableIn_30 rfl ?_
    refine j_iload_n (pc := 31) d_Box_ableIn_31 rfl ?_
    refine j_iaload (pc := 32) d_Box_ableIn_32 hr (fun hr => ?_)
    refine j_iconst (pc := 33) d_Box_ableIn_33 ?_
    refine j_icmp_ne (pc := 34) (tgt := 43) d_Box_ableIn_34 hr (fun hr => ?_) (fun hr => ?_)
    · exact mJ_weak (ls' := [(2, v0), (2, v1), (9, 0), (9, 0), (9, 0), (9, 0), (9, 0)]) (mwk_s (mwk_s (mwk_d (mwk_s (mwk_s (mwk_s (mwk_s mwk_n))))))) (t_Box_ableIn_J43  hr)
    · refine j_iload_n (pc := 37) d_Box_ableIn_37 rfl ?_
      refine j_iconst (pc := 38) d_Box_ableIn_38 ?_
      refine j_iadd (pc := 39) d_Box_ableIn_39 ?_
      refine j_goto (pc := 40) (tgt := 44) d_Box_ableIn_40 ?_
      exact mJ_weak (ls' := [(2, v0), (2, v1), (9, 0), (9, 0), (9, 0), (9, 0), (9, 0)]) (mwk_s (mwk_s (mwk_d (mwk_s (mwk_s (mwk_s (mwk_s mwk_n))))))) (t_Box_ableIn_J44  hr)
theorem t_Box_ableIn {G : mG} (h : mH) (v0 v1 : Int) (r : mR) (hr : f_Box_ableIn h v0 v1 = some r) : mJM G M_Box_ableIn [(2, v0), (2, v1)] h r := by
  refine mJM_of (L := [(2, v0), (2, v1), (9, 0), (9, 0), (9, 0), (9, 0), (9, 0)]) rfl rfl rfl (Nat.le_of_ble_eq_true rfl) ?_
  unfold f_Box_ableIn at hr
  refine j_iconst (pc := 0) d_Box_ableIn_0 ?_
  refine j_istore_n (pc := 1) (ls' := [(2, v0), (2, v1), (0, 0), (9, 0), (9, 0), (9, 0), (9, 0)]) d_Box_ableIn_1 rfl ?_
  refine mJ_weak (ls' := [(2, v0), (2, v1), (0, 0), (9, 0), (9, 0), (9, 0), (9, 0)]) (mwk_s (mwk_s (mwk_s (mwk_s (mwk_s (mwk_s (mwk_s mwk_n))))))) (t_Box_ableIn_L2 (fun h1 x2 hr => ?_) _ _ _ hr)
  · exact mJ_weak (ls' := [(2, v0), (2, v1), (0, x2), (9, 0), (9, 0), (9, 0), (9, 0)]) (mwk_s (mwk_s (mwk_s (mwk_s (mwk_s (mwk_s (mwk_s mwk_n))))))) (t_Box_ableIn_J22  hr)
def M_Box_shutIn : mM := ("NineBars$Box", ⟨"NineBars$Box", "shutIn", "([I)I"⟩, prog_2_method_21_code, 6, some .int, [], 5)
theorem tb_co_Box_shutIn : mTB (Cond.code ⟨"NineBars$Box", "shutIn", "([I)I"⟩ prog_2_method_21_code 6 (some .int)) := tbq3 26 (by decide +kernel) rfl
theorem mc_Box_shutIn {M : mM} (hd : 5 < mDp M) : mCal M M_Box_shutIn 1 := ⟨tb_co_Box_shutIn, tb_in_NineBars_Box, ⟨by decide +kernel, by decide +kernel⟩, by decide +kernel, hd, by decide⟩
theorem d_Box_shutIn_0 : decode prog_2_method_21_code 0 = .ok (.iconst 0, 1) := by decide +kernel
theorem d_Box_shutIn_1 : decode prog_2_method_21_code 1 = .ok (.istore_n 2, 1) := by decide +kernel
theorem d_Box_shutIn_2 : decode prog_2_method_21_code 2 = .ok (.iconst 0, 1) := by decide +kernel
theorem d_Box_shutIn_3 : decode prog_2_method_21_code 3 = .ok (.istore_n 3, 1) := by decide +kernel
theorem d_Box_shutIn_4 : decode prog_2_method_21_code 4 = .ok (.iconst 0, 1) := by decide +kernel
theorem d_Box_shutIn_5 : decode prog_2_method_21_code 5 = .ok (.istore 4, 2) := by decide +kernel
theorem d_Box_shutIn_7 : decode prog_2_method_21_code 7 = .ok (.iload 4, 2) := by decide +kernel
theorem d_Box_shutIn_9 : decode prog_2_method_21_code 9 = .ok (.aload_n 0, 1) := by decide +kernel
theorem d_Box_shutIn_10 : decode prog_2_method_21_code 10 = .ok (.getfield 55, 3) := by decide +kernel
theorem d_Box_shutIn_13 : decode prog_2_method_21_code 13 = .ok (.if_icmp .ge 88, 3) := by decide +kernel
theorem d_Box_shutIn_16 : decode prog_2_method_21_code 16 = .ok (.aload_n 1, 1) := by decide +kernel
theorem d_Box_shutIn_17 : decode prog_2_method_21_code 17 = .ok (.aload_n 0, 1) := by decide +kernel
theorem d_Box_shutIn_18 : decode prog_2_method_21_code 18 = .ok (.getfield 27, 3) := by decide +kernel
theorem d_Box_shutIn_21 : decode prog_2_method_21_code 21 = .ok (.iload 4, 2) := by decide +kernel
theorem d_Box_shutIn_23 : decode prog_2_method_21_code 23 = .ok (.iaload, 1) := by decide +kernel
theorem d_Box_shutIn_24 : decode prog_2_method_21_code 24 = .ok (.invokestatic 77, 3) := by decide +kernel
theorem d_Box_shutIn_27 : decode prog_2_method_21_code 27 = .ok (.aload_n 0, 1) := by decide +kernel
theorem d_Box_shutIn_28 : decode prog_2_method_21_code 28 = .ok (.getfield 30, 3) := by decide +kernel
theorem d_Box_shutIn_31 : decode prog_2_method_21_code 31 = .ok (.iload 4, 2) := by decide +kernel
theorem d_Box_shutIn_33 : decode prog_2_method_21_code 33 = .ok (.iaload, 1) := by decide +kernel
theorem d_Box_shutIn_34 : decode prog_2_method_21_code 34 = .ok (.if_icmp .ne 61, 3) := by decide +kernel
theorem d_Box_shutIn_95 : decode prog_2_method_21_code 95 = .ok (.iinc 4 1, 3) := by decide +kernel
theorem d_Box_shutIn_98 : decode prog_2_method_21_code 98 = .ok (.goto (-91), 3) := by decide +kernel
theorem d_Box_shutIn_37 : decode prog_2_method_21_code 37 = .ok (.aload_n 0, 1) := by decide +kernel
theorem d_Box_shutIn_38 : decode prog_2_method_21_code 38 = .ok (.getfield 33, 3) := by decide +kernel
theorem d_Box_shutIn_41 : decode prog_2_method_21_code 41 = .ok (.iload 4, 2) := by decide +kernel
theorem d_Box_shutIn_43 : decode prog_2_method_21_code 43 = .ok (.iaload, 1) := by decide +kernel
theorem d_Box_shutIn_44 : decode prog_2_method_21_code 44 = .ok (.aload_n 0, 1) := by decide +kernel
theorem d_Box_shutIn_45 : decode prog_2_method_21_code 45 = .ok (.getfield 30, 3) := by decide +kernel
theorem d_Box_shutIn_48 : decode prog_2_method_21_code 48 = .ok (.iload 4, 2) := by decide +kernel
theorem d_Box_shutIn_50 : decode prog_2_method_21_code 50 = .ok (.iaload, 1) := by decide +kernel
theorem d_Box_shutIn_51 : decode prog_2_method_21_code 51 = .ok (.if_icmp .le 7, 3) := by decide +kernel
theorem d_Box_shutIn_58 : decode prog_2_method_21_code 58 = .ok (.iconst 1, 1) := by decide +kernel
theorem d_Box_shutIn_59 : decode prog_2_method_21_code 59 = .ok (.iconst 2, 1) := by decide +kernel
theorem d_Box_shutIn_60 : decode prog_2_method_21_code 60 = .ok (.aload_n 0, 1) := by decide +kernel
theorem d_Box_shutIn_61 : decode prog_2_method_21_code 61 = .ok (.getfield 27, 3) := by decide +kernel
theorem d_Box_shutIn_64 : decode prog_2_method_21_code 64 = .ok (.iload 4, 2) := by decide +kernel
theorem d_Box_shutIn_66 : decode prog_2_method_21_code 66 = .ok (.iaload, 1) := by decide +kernel
theorem d_Box_shutIn_67 : decode prog_2_method_21_code 67 = .ok (.imul, 1) := by decide +kernel
theorem d_Box_shutIn_68 : decode prog_2_method_21_code 68 = .ok (.ishl, 1) := by decide +kernel
theorem d_Box_shutIn_69 : decode prog_2_method_21_code 69 = .ok (.istore 5, 2) := by decide +kernel
theorem d_Box_shutIn_71 : decode prog_2_method_21_code 71 = .ok (.iload_n 2, 1) := by decide +kernel
theorem d_Box_shutIn_72 : decode prog_2_method_21_code 72 = .ok (.iload 5, 2) := by decide +kernel
theorem d_Box_shutIn_74 : decode prog_2_method_21_code 74 = .ok (.ior, 1) := by decide +kernel
theorem d_Box_shutIn_75 : decode prog_2_method_21_code 75 = .ok (.istore_n 2, 1) := by decide +kernel
theorem d_Box_shutIn_76 : decode prog_2_method_21_code 76 = .ok (.iload_n 3, 1) := by decide +kernel
theorem d_Box_shutIn_77 : decode prog_2_method_21_code 77 = .ok (.aload_n 0, 1) := by decide +kernel
theorem d_Box_shutIn_78 : decode prog_2_method_21_code 78 = .ok (.iload 4, 2) := by decide +kernel
theorem d_Box_shutIn_80 : decode prog_2_method_21_code 80 = .ok (.aload_n 1, 1) := by decide +kernel
theorem d_Box_shutIn_81 : decode prog_2_method_21_code 81 = .ok (.invokevirtual 81, 3) := by decide +kernel
theorem tb_ml_Box_81 : mTB (Cond.methodLink "NineBars$Box" 81 ⟨"NineBars$Box", "holdsIn", "(I[I)Z"⟩) := tbq3 30 (by decide +kernel) rfl
theorem d_Box_shutIn_84 : decode prog_2_method_21_code 84 = .ok (.ifCond .eq 8, 3) := by decide +kernel
theorem d_Box_shutIn_92 : decode prog_2_method_21_code 92 = .ok (.iconst 0, 1) := by decide +kernel
theorem d_Box_shutIn_93 : decode prog_2_method_21_code 93 = .ok (.ior, 1) := by decide +kernel
theorem d_Box_shutIn_94 : decode prog_2_method_21_code 94 = .ok (.istore_n 3, 1) := by decide +kernel
theorem d_Box_shutIn_87 : decode prog_2_method_21_code 87 = .ok (.iload 5, 2) := by decide +kernel
theorem d_Box_shutIn_89 : decode prog_2_method_21_code 89 = .ok (.goto 4, 3) := by decide +kernel
theorem d_Box_shutIn_54 : decode prog_2_method_21_code 54 = .ok (.iconst 2, 1) := by decide +kernel
theorem d_Box_shutIn_55 : decode prog_2_method_21_code 55 = .ok (.goto 4, 3) := by decide +kernel
theorem d_Box_shutIn_101 : decode prog_2_method_21_code 101 = .ok (.iload_n 2, 1) := by decide +kernel
theorem d_Box_shutIn_102 : decode prog_2_method_21_code 102 = .ok (.iload_n 3, 1) := by decide +kernel
theorem d_Box_shutIn_103 : decode prog_2_method_21_code 103 = .ok (.iconst (-1), 1) := by decide +kernel
theorem d_Box_shutIn_104 : decode prog_2_method_21_code 104 = .ok (.ixor, 1) := by decide +kernel
theorem d_Box_shutIn_105 : decode prog_2_method_21_code 105 = .ok (.iand, 1) := by decide +kernel
theorem d_Box_shutIn_106 : decode prog_2_method_21_code 106 = .ok (.ireturn, 1) := by decide +kernel
theorem t_Box_shutIn_J95 {G : mG} {r : mR} {v0 v1 v2 v3 v4 : Int} {h : mH} {R7 : mH → Int → Int → Int → Option mR} (hR7 : ∀ (h : mH) (w2 w3 w4 : Int) , R7 h w2 w3 w4 = some r → mJ G M_Box_shutIn 7 [(2, v0), (2, v1), (0, w2), (0, w3), (0, w4), (9, 0)] [] h r) (hr : f_Box_shutIn_J95 R7 v2 v3 v4 h = some r) : mJ G M_Box_shutIn 95 [(2, v0), (2, v1), (0, v2), (0, v3), (0, v4), (9, 0)] [] h r := by
  unfold f_Box_shutIn_J95 at hr
  refine j_iincW (pc := 95) (L := fun x1 => [(2, v0), (2, v1), (0, v2), (0, v3), (0, x1), (9, 0)]) d_Box_shutIn_95 rfl (fun _ => rfl) hr (fun x1 hr => ?_)
  refine j_goto (pc := 98) (tgt := 7) d_Box_shutIn_98 ?_
  exact mJ_weak (ls' := [(2, v0), (2, v1), (0, v2), (0, v3), (0, x1), (9, 0)]) (mwk_s (mwk_s (mwk_s (mwk_s (mwk_s (mwk_s mwk_n)))))) (hR7 h _ _ _ hr)
theorem t_Box_shutIn_J93 {G : mG} {r : mR} {v0 v1 v2 v4 s0 s1 : Int} {h : mH} {R7 : mH → Int → Int → Int → Option mR} (hR7 : ∀ (h : mH) (w2 w3 w4 : Int) , R7 h w2 w3 w4 = some r → mJ G M_Box_shutIn 7 [(2, v0), (2, v1), (0, w2), (0, w3), (0, w4), (9, 0)] [] h r) (hr : f_Box_shutIn_J93 R7 v2 v4 s0 s1 h = some r) : mJ G M_Box_shutIn 93 [(2, v0), (2, v1), (0, v2), (9, 0), (0, v4), (9, 0)] [(0, s1), (0, s0)] h r := by
  unfold f_Box_shutIn_J93 at hr
  refine j_ior (pc := 93) d_Box_shutIn_93 ?_
  refine j_istoreW_n (pc := 94) (L := fun x1 => [(2, v0), (2, v1), (0, v2), (0, x1), (0, v4), (9, 0)]) d_Box_shutIn_94 (fun _ => rfl) hr (fun x1 hr => ?_)
  exact mJ_weak (ls' := [(2, v0), (2, v1), (0, v2), (0, x1), (0, v4), (9, 0)]) (mwk_s (mwk_s (mwk_s (mwk_s (mwk_s (mwk_s mwk_n)))))) (t_Box_shutIn_J95 hR7 hr)
theorem t_Box_shutIn_J59 {G : mG} {r : mR} {v0 v1 v2 v3 v4 s0 : Int} {h : mH} {R7 : mH → Int → Int → Int → Option mR} (hR7 : ∀ (h : mH) (w2 w3 w4 : Int) , R7 h w2 w3 w4 = some r → mJ G M_Box_shutIn 7 [(2, v0), (2, v1), (0, w2), (0, w3), (0, w4), (9, 0)] [] h r) (hr : f_Box_shutIn_J59 R7 v0 v1 v2 v3 v4 s0 h = some r) : mJ G M_Box_shutIn 59 [(2, v0), (2, v1), (0, v2), (0, v3), (0, v4), (9, 0)] [(0, s0)] h r := by
  unfold f_Box_shutIn_J59 at hr
  refine j_iconst (pc := 59) d_Box_shutIn_59 ?_
  refine j_aload_n (pc := 60) d_Box_shutIn_60 rfl ?_
  refine j_getf (pc := 61) d_Box_shutIn_61 (fd_Box_27 rfl) hr (fun hr => ?_)
  refine j_iload (pc := 64) d_Box_shutIn_64 rfl ?_
  refine j_iaload (pc := 66) d_Box_shutIn_66 hr (fun hr => ?_)
  refine j_imul (pc := 67) d_Box_shutIn_67 ?_
  refine j_ishl (pc := 68) d_Box_shutIn_68 ?_
  refine j_istoreW (pc := 69) (L := fun x1 => [(2, v0), (2, v1), (0, v2), (0, v3), (0, v4), (0, x1)]) d_Box_shutIn_69 (fun _ => rfl) hr (fun x1 hr => ?_)
  refine j_iload_n (pc := 71) d_Box_shutIn_71 rfl ?_
  refine j_iload (pc := 72) d_Box_shutIn_72 rfl ?_
  refine j_ior (pc := 74) d_Box_shutIn_74 ?_
  refine j_istoreW_n (pc := 75) (L := fun x2 => [(2, v0), (2, v1), (0, x2), (0, v3), (0, v4), (0, x1)]) d_Box_shutIn_75 (fun _ => rfl) hr (fun x2 hr => ?_)
  refine j_iload_n (pc := 76) d_Box_shutIn_76 rfl ?_
  refine j_aload_n (pc := 77) d_Box_shutIn_77 rfl ?_
  refine j_iload (pc := 78) d_Box_shutIn_78 rfl ?_
  refine j_aload_n (pc := 80) d_Box_shutIn_80 rfl ?_
  obtain ⟨ha, hr⟩ := chk_some hr
  refine j_callG (pc := 81) (stk := [(2, v1), (0, v4), (2, v0), (0, v3)]) (as := [(2, v0), (0, v4), (2, v1)]) (P := (fun v9 => ((0 : Nat), v9) :: [(0, v3)])) (tg := 0) (My := M_Box_holdsIn) (mRunV (as := [(0, v4), (2, v1)]) (st := [(0, v3)]) d_Box_shutIn_81 (mc_Box_holdsIn (by decide)) rfl (mv_Box_holdsIn tb_ml_Box_81) rfl (Nat.le_of_ble_eq_true rfl) ha) (fun v => rfl) rfl hr (fun r1 h1 => t_Box_holdsIn _ _ _ _ _ h1) (fun x4 h3 hr => ?_)
  refine j_if_eq (pc := 84) (tgt := 92) d_Box_shutIn_84 hr (fun hr => ?_) (fun hr => ?_)
  · refine j_iconst (pc := 92) d_Box_shutIn_92 ?_
    exact mJ_weak (ls' := [(2, v0), (2, v1), (0, x2), (9, 0), (0, v4), (9, 0)]) (mwk_s (mwk_s (mwk_s (mwk_d (mwk_s (mwk_d mwk_n)))))) (t_Box_shutIn_J93 hR7 hr)
  · refine j_iload (pc := 87) d_Box_shutIn_87 rfl ?_
    refine j_goto (pc := 89) (tgt := 93) d_Box_shutIn_89 ?_
    exact mJ_weak (ls' := [(2, v0), (2, v1), (0, x2), (9, 0), (0, v4), (9, 0)]) (mwk_s (mwk_s (mwk_s (mwk_d (mwk_s (mwk_d mwk_n)))))) (t_Box_shutIn_J93 hR7 hr)
theorem t_Box_shutIn_L7 {G : mG} {r : mR} {v0 v1 : Int} {K101 : mH → Int → Int → Option mR} (hK101 : ∀ (h : mH) (w2 w3 : Int) , K101 h w2 w3 = some r → mJ G M_Box_shutIn 101 [(9, 0), (9, 0), (0, w2), (0, w3), (9, 0), (9, 0)] [] h r) : ∀ (n : Nat) (h : mH) (v2 v3 v4 : Int), f_Box_shutIn_L7 K101 v0 v1 n h v2 v3 v4 = some r → mJ G M_Box_shutIn 7 [(2, v0), (2, v1), (0, v2), (0, v3), (0, v4), (9, 0)] [] h r := by
  intro n
  induction n with
  | zero =>
    intro h v2 v3 v4 hr
    rw [f_Box_shutIn_L7] at hr
    cases hr
  | succ n hR7 =>
    intro h v2 v3 v4 hr
    rw [f_Box_shutIn_L7] at hr
    refine j_iload (pc := 7) d_Box_shutIn_7 rfl ?_
    refine j_aload_n (pc := 9) d_Box_shutIn_9 rfl ?_
    refine j_getf (pc := 10) d_Box_shutIn_10 (fd_Box_55 rfl) hr (fun hr => ?_)
    refine j_icmp_ge (pc := 13) (tgt := 101) d_Box_shutIn_13 hr (fun hr => ?_) (fun hr => ?_)
    · exact mJ_weak (ls' := [(9, 0), (9, 0), (0, v2), (0, v3), (9, 0), (9, 0)]) (mwk_d (mwk_d (mwk_s (mwk_s (mwk_d (mwk_s mwk_n)))))) (hK101 h _ _ hr)
    · refine j_aload_n (pc := 16) d_Box_shutIn_16 rfl ?_
      refine j_aload_n (pc := 17) d_Box_shutIn_17 rfl ?_
      refine j_getf (pc := 18) d_Box_shutIn_18 (fd_Box_27 rfl) hr (fun hr => ?_)
      refine j_iload (pc := 21) d_Box_shutIn_21 rfl ?_
      refine j_iaload (pc := 23) d_Box_shutIn_23 hr (fun hr => ?_)
      refine j_callG (pc := 24) (stk := [(0, hpV h (hpV h v0 11) v4), (2, v1)]) (as := [(2, v1), (0, hpV h (hpV h v0 11) v4)]) (P := (fun v9 => ((0 : Nat), v9) :: [])) (tg := 0) (My := M_Box_digit) (mRunS (as := [(2, v1), (0, hpV h (hpV h v0 11) v4)]) (st := []) d_Box_shutIn_24 (mc_Box_digit (by decide)) rfl ⟨tb_ml_Box_77, tb_sm_Box_digit⟩ rfl (Nat.le_of_ble_eq_true rfl)) (fun v => rfl) rfl hr (fun r1 h1 => t_Box_digit _ _ _ _ h1) (fun x2 h1 hr => ?_)
      refine j_aload_n (pc := 27) d_Box_shutIn_27 rfl ?_
      refine j_getf (pc := 28) d_Box_shutIn_28 (fd_Box_30 rfl) hr (fun hr => ?_)
      refine j_iload (pc := 31) d_Box_shutIn_31 rfl ?_
      refine j_iaload (pc := 33) d_Box_shutIn_33 hr (fun hr => ?_)
      refine j_icmp_ne (pc := 34) (tgt := 95) d_Box_shutIn_34 hr (fun hr => ?_) (fun hr => ?_)
      · exact mJ_weak (ls' := [(2, v0), (2, v1), (0, v2), (0, v3), (0, v4), (9, 0)]) (mwk_s (mwk_s (mwk_s (mwk_s (mwk_s (mwk_s mwk_n)))))) (t_Box_shutIn_J95 hR7 hr)
      · refine j_aload_n (pc := 37) d_Box_shutIn_37 rfl ?_
        refine j_getf (pc := 38) d_Box_shutIn_38 (fd_Box_33 rfl) hr (fun hr => ?_)
        refine j_iload (pc := 41) d_Box_shutIn_41 rfl ?_
        refine j_iaload (pc := 43) d_Box_shutIn_43 hr (fun hr => ?_)
        refine j_aload_n (pc := 44) d_Box_shutIn_44 rfl ?_
        refine j_getf (pc := 45) d_Box_shutIn_45 (fd_Box_30 rfl) hr (fun hr => ?_)
        refine j_iload (pc := 48) d_Box_shutIn_48 rfl ?_
        refine j_iaload (pc := 50) d_Box_shutIn_50 hr (fun hr => ?_)
        refine j_icmp_le (pc := 51) (tgt := 58) d_Box_shutIn_51 hr (fun hr => ?_) (fun hr => ?_)
        · refine j_iconst (pc := 58) d_Box_shutIn_58 ?_
          exact mJ_weak (ls' := [(2, v0), (2, v1), (0, v2), (0, v3), (0, v4), (9, 0)]) (mwk_s (mwk_s (mwk_s (mwk_s (mwk_s (mwk_s mwk_n)))))) (t_Box_shutIn_J59 hR7 hr)
        · refine j_iconst (pc := 54) d_Box_shutIn_54 ?_
          refine j_goto (pc := 55) (tgt := 59) d_Box_shutIn_55 ?_
          exact mJ_weak (ls' := [(2, v0), (2, v1), (0, v2), (0, v3), (0, v4), (9, 0)]) (mwk_s (mwk_s (mwk_s (mwk_s (mwk_s (mwk_s mwk_n)))))) (t_Box_shutIn_J59 hR7 hr)
theorem t_Box_shutIn {G : mG} (h : mH) (v0 v1 : Int) (r : mR) (hr : f_Box_shutIn h v0 v1 = some r) : mJM G M_Box_shutIn [(2, v0), (2, v1)] h r := by
  refine mJM_of (L := [(2, v0), (2, v1), (9, 0), (9, 0), (9, 0), (9, 0)]) rfl rfl rfl (Nat.le_of_ble_eq_true rfl) ?_
  unfold f_Box_shutIn at hr
  refine j_iconst (pc := 0) d_Box_shutIn_0 ?_
  refine j_istore_n (pc := 1) (ls' := [(2, v0), (2, v1), (0, 0), (9, 0), (9, 0), (9, 0)]) d_Box_shutIn_1 rfl ?_
  refine j_iconst (pc := 2) d_Box_shutIn_2 ?_
  refine j_istore_n (pc := 3) (ls' := [(2, v0), (2, v1), (0, 0), (0, 0), (9, 0), (9, 0)]) d_Box_shutIn_3 rfl ?_
  refine j_iconst (pc := 4) d_Box_shutIn_4 ?_
  refine j_istore (pc := 5) (ls' := [(2, v0), (2, v1), (0, 0), (0, 0), (0, 0), (9, 0)]) d_Box_shutIn_5 rfl ?_
  refine mJ_weak (ls' := [(2, v0), (2, v1), (0, 0), (0, 0), (0, 0), (9, 0)]) (mwk_s (mwk_s (mwk_s (mwk_s (mwk_s (mwk_s mwk_n)))))) (t_Box_shutIn_L7 (fun h1 x2 x3 hr => ?_) _ _ _ _ _ hr)
  · refine j_iload_n (pc := 101) d_Box_shutIn_101 rfl ?_
    refine j_iload_n (pc := 102) d_Box_shutIn_102 rfl ?_
    refine j_iconst (pc := 103) d_Box_shutIn_103 ?_
    refine j_ixor (pc := 104) d_Box_shutIn_104 ?_
    refine j_iand (pc := 105) d_Box_shutIn_105 ?_
    exact j_iret (pc := 106) d_Box_shutIn_106 rfl hr
def M_Box_whyNot : mM := ("NineBars$Box", ⟨"NineBars$Box", "whyNot", "(IZ)I"⟩, prog_2_method_22_code, 5, some .int, [], 7)
theorem tb_co_Box_whyNot : mTB (Cond.code ⟨"NineBars$Box", "whyNot", "(IZ)I"⟩ prog_2_method_22_code 5 (some .int)) := tbq3 18 (by decide +kernel) rfl
theorem mc_Box_whyNot {M : mM} (hd : 7 < mDp M) : mCal M M_Box_whyNot 2 := ⟨tb_co_Box_whyNot, tb_in_NineBars_Box, ⟨by decide +kernel, by decide +kernel⟩, by decide +kernel, hd, by decide⟩
theorem d_Box_whyNot_0 : decode prog_2_method_22_code 0 = .ok (.iload_n 1, 1) := by decide +kernel
theorem d_Box_whyNot_1 : decode prog_2_method_22_code 1 = .ok (.ifCond .lt 11, 3) := by decide +kernel
theorem d_Box_whyNot_12 : decode prog_2_method_22_code 12 = .ok (.iconst 1, 1) := by decide +kernel
theorem d_Box_whyNot_13 : decode prog_2_method_22_code 13 = .ok (.ireturn, 1) := by decide +kernel
theorem d_Box_whyNot_4 : decode prog_2_method_22_code 4 = .ok (.iload_n 1, 1) := by decide +kernel
theorem d_Box_whyNot_5 : decode prog_2_method_22_code 5 = .ok (.aload_n 0, 1) := by decide +kernel
theorem d_Box_whyNot_6 : decode prog_2_method_22_code 6 = .ok (.getfield 52, 3) := by decide +kernel
theorem d_Box_whyNot_9 : decode prog_2_method_22_code 9 = .ok (.if_icmp .lt 5, 3) := by decide +kernel
theorem d_Box_whyNot_14 : decode prog_2_method_22_code 14 = .ok (.aload_n 0, 1) := by decide +kernel
theorem d_Box_whyNot_15 : decode prog_2_method_22_code 15 = .ok (.getfield 21, 3) := by decide +kernel
theorem d_Box_whyNot_18 : decode prog_2_method_22_code 18 = .ok (.iload_n 1, 1) := by decide +kernel
theorem d_Box_whyNot_19 : decode prog_2_method_22_code 19 = .ok (.iaload, 1) := by decide +kernel
theorem d_Box_whyNot_20 : decode prog_2_method_22_code 20 = .ok (.iload_n 2, 1) := by decide +kernel
theorem d_Box_whyNot_21 : decode prog_2_method_22_code 21 = .ok (.ifCond .eq 7, 3) := by decide +kernel
theorem d_Box_whyNot_28 : decode prog_2_method_22_code 28 = .ok (.iconst (-1), 1) := by decide +kernel
theorem d_Box_whyNot_29 : decode prog_2_method_22_code 29 = .ok (.iadd, 1) := by decide +kernel
theorem d_Box_whyNot_30 : decode prog_2_method_22_code 30 = .ok (.istore_n 3, 1) := by decide +kernel
theorem d_Box_whyNot_31 : decode prog_2_method_22_code 31 = .ok (.iload_n 3, 1) := by decide +kernel
theorem d_Box_whyNot_32 : decode prog_2_method_22_code 32 = .ok (.ifCond .lt 13, 3) := by decide +kernel
theorem d_Box_whyNot_45 : decode prog_2_method_22_code 45 = .ok (.iconst 2, 1) := by decide +kernel
theorem d_Box_whyNot_46 : decode prog_2_method_22_code 46 = .ok (.ireturn, 1) := by decide +kernel
theorem d_Box_whyNot_35 : decode prog_2_method_22_code 35 = .ok (.iload_n 3, 1) := by decide +kernel
theorem d_Box_whyNot_36 : decode prog_2_method_22_code 36 = .ok (.aload_n 0, 1) := by decide +kernel
theorem d_Box_whyNot_37 : decode prog_2_method_22_code 37 = .ok (.getfield 9, 3) := by decide +kernel
theorem d_Box_whyNot_40 : decode prog_2_method_22_code 40 = .ok (.iload_n 1, 1) := by decide +kernel
theorem d_Box_whyNot_41 : decode prog_2_method_22_code 41 = .ok (.iaload, 1) := by decide +kernel
theorem d_Box_whyNot_42 : decode prog_2_method_22_code 42 = .ok (.if_icmp .lt 5, 3) := by decide +kernel
theorem d_Box_whyNot_47 : decode prog_2_method_22_code 47 = .ok (.iload_n 2, 1) := by decide +kernel
theorem d_Box_whyNot_48 : decode prog_2_method_22_code 48 = .ok (.ifCond .eq 7, 3) := by decide +kernel
theorem d_Box_whyNot_55 : decode prog_2_method_22_code 55 = .ok (.iconst 1, 1) := by decide +kernel
theorem d_Box_whyNot_56 : decode prog_2_method_22_code 56 = .ok (.iconst 2, 1) := by decide +kernel
theorem d_Box_whyNot_57 : decode prog_2_method_22_code 57 = .ok (.iload_n 1, 1) := by decide +kernel
theorem d_Box_whyNot_58 : decode prog_2_method_22_code 58 = .ok (.imul, 1) := by decide +kernel
theorem d_Box_whyNot_59 : decode prog_2_method_22_code 59 = .ok (.ishl, 1) := by decide +kernel
theorem d_Box_whyNot_60 : decode prog_2_method_22_code 60 = .ok (.istore 4, 2) := by decide +kernel
theorem d_Box_whyNot_62 : decode prog_2_method_22_code 62 = .ok (.aload_n 0, 1) := by decide +kernel
theorem d_Box_whyNot_63 : decode prog_2_method_22_code 63 = .ok (.aload_n 0, 1) := by decide +kernel
theorem d_Box_whyNot_64 : decode prog_2_method_22_code 64 = .ok (.getfield 21, 3) := by decide +kernel
theorem d_Box_whyNot_67 : decode prog_2_method_22_code 67 = .ok (.invokevirtual 85, 3) := by decide +kernel
theorem tb_ml_Box_85 : mTB (Cond.methodLink "NineBars$Box" 85 ⟨"NineBars$Box", "ableIn", "([I)I"⟩) := tbq3 19 (by decide +kernel) rfl
theorem tb_im_Box_ableIn : mTB (Cond.instanceMethod ⟨"NineBars$Box", "ableIn", "([I)I"⟩) := tbq3 20 (by decide +kernel) rfl
theorem tb_se_Box_ableIn : mTB (Cond.selects "NineBars$Box" ⟨"NineBars$Box", "ableIn", "([I)I"⟩ ⟨"NineBars$Box", "ableIn", "([I)I"⟩) := tbq3 21 (by decide +kernel) rfl
theorem mv_Box_ableIn {M : mM} {idx : Nat} (h : mTB (Cond.methodLink (mO M) idx ⟨"NineBars$Box", "ableIn", "([I)I"⟩)) : mCaV M M_Box_ableIn idx 0 := ⟨h, tb_im_Box_ableIn, tb_se_Box_ableIn, by decide, TX0, 18, rfl⟩
theorem d_Box_whyNot_70 : decode prog_2_method_22_code 70 = .ok (.iload 4, 2) := by decide +kernel
theorem d_Box_whyNot_72 : decode prog_2_method_22_code 72 = .ok (.iand, 1) := by decide +kernel
theorem d_Box_whyNot_73 : decode prog_2_method_22_code 73 = .ok (.ifCond .ne 5, 3) := by decide +kernel
theorem d_Box_whyNot_78 : decode prog_2_method_22_code 78 = .ok (.aload_n 0, 1) := by decide +kernel
theorem d_Box_whyNot_79 : decode prog_2_method_22_code 79 = .ok (.aload_n 0, 1) := by decide +kernel
theorem d_Box_whyNot_80 : decode prog_2_method_22_code 80 = .ok (.getfield 21, 3) := by decide +kernel
theorem d_Box_whyNot_83 : decode prog_2_method_22_code 83 = .ok (.invokevirtual 89, 3) := by decide +kernel
theorem tb_ml_Box_89 : mTB (Cond.methodLink "NineBars$Box" 89 ⟨"NineBars$Box", "shutIn", "([I)I"⟩) := tbq3 23 (by decide +kernel) rfl
theorem tb_im_Box_shutIn : mTB (Cond.instanceMethod ⟨"NineBars$Box", "shutIn", "([I)I"⟩) := tbq3 24 (by decide +kernel) rfl
theorem tb_se_Box_shutIn : mTB (Cond.selects "NineBars$Box" ⟨"NineBars$Box", "shutIn", "([I)I"⟩ ⟨"NineBars$Box", "shutIn", "([I)I"⟩) := tbq3 25 (by decide +kernel) rfl
theorem mv_Box_shutIn {M : mM} {idx : Nat} (h : mTB (Cond.methodLink (mO M) idx ⟨"NineBars$Box", "shutIn", "([I)I"⟩)) : mCaV M M_Box_shutIn idx 0 := ⟨h, tb_im_Box_shutIn, tb_se_Box_shutIn, by decide, TX0, 18, rfl⟩
theorem d_Box_whyNot_86 : decode prog_2_method_22_code 86 = .ok (.iload 4, 2) := by decide +kernel
theorem d_Box_whyNot_88 : decode prog_2_method_22_code 88 = .ok (.iand, 1) := by decide +kernel
theorem d_Box_whyNot_89 : decode prog_2_method_22_code 89 = .ok (.ifCond .eq 15, 3) := by decide +kernel
theorem d_Box_whyNot_104 : decode prog_2_method_22_code 104 = .ok (.iconst 0, 1) := by decide +kernel
theorem d_Box_whyNot_105 : decode prog_2_method_22_code 105 = .ok (.ireturn, 1) := by decide +kernel
theorem d_Box_whyNot_92 : decode prog_2_method_22_code 92 = .ok (.aload_n 0, 1) := by decide +kernel
theorem d_Box_whyNot_93 : decode prog_2_method_22_code 93 = .ok (.iload_n 1, 1) := by decide +kernel
theorem d_Box_whyNot_94 : decode prog_2_method_22_code 94 = .ok (.invokevirtual 73, 3) := by decide +kernel
theorem tb_ml_Box_73 : mTB (Cond.methodLink "NineBars$Box" 73 ⟨"NineBars$Box", "isWorn", "(I)Z"⟩) := tbq3 34 (by decide +kernel) rfl
theorem d_Box_whyNot_97 : decode prog_2_method_22_code 97 = .ok (.ifCond .ne 7, 3) := by decide +kernel
theorem d_Box_whyNot_100 : decode prog_2_method_22_code 100 = .ok (.iconst 4, 1) := by decide +kernel
theorem d_Box_whyNot_101 : decode prog_2_method_22_code 101 = .ok (.goto 4, 3) := by decide +kernel
theorem d_Box_whyNot_76 : decode prog_2_method_22_code 76 = .ok (.iconst 3, 1) := by decide +kernel
theorem d_Box_whyNot_77 : decode prog_2_method_22_code 77 = .ok (.ireturn, 1) := by decide +kernel
theorem d_Box_whyNot_51 : decode prog_2_method_22_code 51 = .ok (.iconst 2, 1) := by decide +kernel
theorem d_Box_whyNot_52 : decode prog_2_method_22_code 52 = .ok (.goto 4, 3) := by decide +kernel
theorem d_Box_whyNot_24 : decode prog_2_method_22_code 24 = .ok (.iconst 1, 1) := by decide +kernel
theorem d_Box_whyNot_25 : decode prog_2_method_22_code 25 = .ok (.goto 4, 3) := by decide +kernel
theorem t_Box_whyNot_J104 {G : mG} {r : mR} {h : mH}  (hr : f_Box_whyNot_J104 h = some r) : mJ G M_Box_whyNot 104 [(9, 0), (9, 0), (9, 0), (9, 0), (9, 0)] [] h r := by
  unfold f_Box_whyNot_J104 at hr
  refine j_iconst (pc := 104) d_Box_whyNot_104 ?_
  exact j_iret (pc := 105) d_Box_whyNot_105 rfl hr
theorem t_Box_whyNot_J56 {G : mG} {r : mR} {v0 v1 s0 : Int} {h : mH}  (hr : f_Box_whyNot_J56 v0 v1 s0 h = some r) : mJ G M_Box_whyNot 56 [(2, v0), (0, v1), (9, 0), (9, 0), (9, 0)] [(0, s0)] h r := by
  unfold f_Box_whyNot_J56 at hr
  refine j_iconst (pc := 56) d_Box_whyNot_56 ?_
  refine j_iload_n (pc := 57) d_Box_whyNot_57 rfl ?_
  refine j_imul (pc := 58) d_Box_whyNot_58 ?_
  refine j_ishl (pc := 59) d_Box_whyNot_59 ?_
  refine j_istoreW (pc := 60) (L := fun x1 => [(2, v0), (0, v1), (9, 0), (9, 0), (0, x1)]) d_Box_whyNot_60 (fun _ => rfl) hr (fun x1 hr => ?_)
  refine j_aload_n (pc := 62) d_Box_whyNot_62 rfl ?_
  refine j_aload_n (pc := 63) d_Box_whyNot_63 rfl ?_
  refine j_getf (pc := 64) d_Box_whyNot_64 (fd_Box_21 rfl) hr (fun hr => ?_)
  obtain ⟨ha, hr⟩ := chk_some hr
  refine j_callG (pc := 67) (stk := [(2, hpV h v0 9), (2, v0)]) (as := [(2, v0), (2, hpV h v0 9)]) (P := (fun v9 => ((0 : Nat), v9) :: [])) (tg := 0) (My := M_Box_ableIn) (mRunV (as := [(2, hpV h v0 9)]) (st := []) d_Box_whyNot_67 (mc_Box_ableIn (by decide)) rfl (mv_Box_ableIn tb_ml_Box_85) rfl (Nat.le_of_ble_eq_true rfl) ha) (fun v => rfl) rfl hr (fun r1 h1 => t_Box_ableIn _ _ _ _ h1) (fun x3 h2 hr => ?_)
  refine j_iload (pc := 70) d_Box_whyNot_70 rfl ?_
  refine j_iand (pc := 72) d_Box_whyNot_72 ?_
  refine j_if_ne (pc := 73) (tgt := 78) d_Box_whyNot_73 hr (fun hr => ?_) (fun hr => ?_)
  · refine j_aload_n (pc := 78) d_Box_whyNot_78 rfl ?_
    refine j_aload_n (pc := 79) d_Box_whyNot_79 rfl ?_
    refine j_getf (pc := 80) d_Box_whyNot_80 (fd_Box_21 rfl) hr (fun hr => ?_)
    obtain ⟨ha, hr⟩ := chk_some hr
    refine j_callG (pc := 83) (stk := [(2, hpV h2 v0 9), (2, v0)]) (as := [(2, v0), (2, hpV h2 v0 9)]) (P := (fun v9 => ((0 : Nat), v9) :: [])) (tg := 0) (My := M_Box_shutIn) (mRunV (as := [(2, hpV h2 v0 9)]) (st := []) d_Box_whyNot_83 (mc_Box_shutIn (by decide)) rfl (mv_Box_shutIn tb_ml_Box_89) rfl (Nat.le_of_ble_eq_true rfl) ha) (fun v => rfl) rfl hr (fun r1 h1 => t_Box_shutIn _ _ _ _ h1) (fun x5 h4 hr => ?_)
    refine j_iload (pc := 86) d_Box_whyNot_86 rfl ?_
    refine j_iand (pc := 88) d_Box_whyNot_88 ?_
    refine j_if_eq (pc := 89) (tgt := 104) d_Box_whyNot_89 hr (fun hr => ?_) (fun hr => ?_)
    · exact mJ_weak (ls' := [(9, 0), (9, 0), (9, 0), (9, 0), (9, 0)]) (mwk_d (mwk_d (mwk_s (mwk_s (mwk_d mwk_n))))) (t_Box_whyNot_J104  hr)
    · refine j_aload_n (pc := 92) d_Box_whyNot_92 rfl ?_
      refine j_iload_n (pc := 93) d_Box_whyNot_93 rfl ?_
      obtain ⟨ha, hr⟩ := chk_some hr
      refine j_callG (pc := 94) (stk := [(0, v1), (2, v0)]) (as := [(2, v0), (0, v1)]) (P := (fun v9 => ((0 : Nat), v9) :: [])) (tg := 0) (My := M_Box_isWorn) (mRunV (as := [(0, v1)]) (st := []) d_Box_whyNot_94 (mc_Box_isWorn (by decide)) rfl (mv_Box_isWorn tb_ml_Box_73) rfl (Nat.le_of_ble_eq_true rfl) ha) (fun v => rfl) rfl hr (fun r1 h1 => t_Box_isWorn _ _ _ _ h1) (fun x7 h6 hr => ?_)
      refine j_if_ne (pc := 97) (tgt := 104) d_Box_whyNot_97 hr (fun hr => ?_) (fun hr => ?_)
      · exact mJ_weak (ls' := [(9, 0), (9, 0), (9, 0), (9, 0), (9, 0)]) (mwk_d (mwk_d (mwk_s (mwk_s (mwk_d mwk_n))))) (t_Box_whyNot_J104  hr)
      · refine j_iconst (pc := 100) d_Box_whyNot_100 ?_
        refine j_goto (pc := 101) (tgt := 105) d_Box_whyNot_101 ?_
        exact j_iret (pc := 105) d_Box_whyNot_105 rfl hr
  · refine j_iconst (pc := 76) d_Box_whyNot_76 ?_
    exact j_iret (pc := 77) d_Box_whyNot_77 rfl hr
theorem t_Box_whyNot_J29 {G : mG} {r : mR} {v0 v1 v2 s0 s1 : Int} {h : mH}  (hr : f_Box_whyNot_J29 v0 v1 v2 s0 s1 h = some r) : mJ G M_Box_whyNot 29 [(2, v0), (0, v1), (0, v2), (9, 0), (9, 0)] [(0, s1), (0, s0)] h r := by
  unfold f_Box_whyNot_J29 at hr
  refine j_iadd (pc := 29) d_Box_whyNot_29 ?_
  refine j_istoreW_n (pc := 30) (L := fun x1 => [(2, v0), (0, v1), (0, v2), (0, x1), (9, 0)]) d_Box_whyNot_30 (fun _ => rfl) hr (fun x1 hr => ?_)
  refine j_iload_n (pc := 31) d_Box_whyNot_31 rfl ?_
  refine j_if_lt (pc := 32) (tgt := 45) d_Box_whyNot_32 hr (fun hr => ?_) (fun hr => ?_)
  · refine j_iconst (pc := 45) d_Box_whyNot_45 ?_
    exact j_iret (pc := 46) d_Box_whyNot_46 rfl hr
  · refine j_iload_n (pc := 35) d_Box_whyNot_35 rfl ?_
    refine j_aload_n (pc := 36) d_Box_whyNot_36 rfl ?_
    refine j_getf (pc := 37) d_Box_whyNot_37 (fd_Box_9 rfl) hr (fun hr => ?_)
    refine j_iload_n (pc := 40) d_Box_whyNot_40 rfl ?_
    refine j_iaload (pc := 41) d_Box_whyNot_41 hr (fun hr => ?_)
    refine j_icmp_lt (pc := 42) (tgt := 47) d_Box_whyNot_42 hr (fun hr => ?_) (fun hr => ?_)
    · refine j_iload_n (pc := 47) d_Box_whyNot_47 rfl ?_
      refine j_if_eq (pc := 48) (tgt := 55) d_Box_whyNot_48 hr (fun hr => ?_) (fun hr => ?_)
      · refine j_iconst (pc := 55) d_Box_whyNot_55 ?_
        exact mJ_weak (ls' := [(2, v0), (0, v1), (9, 0), (9, 0), (9, 0)]) (mwk_s (mwk_s (mwk_d (mwk_d (mwk_s mwk_n))))) (t_Box_whyNot_J56  hr)
      · refine j_iconst (pc := 51) d_Box_whyNot_51 ?_
        refine j_goto (pc := 52) (tgt := 56) d_Box_whyNot_52 ?_
        exact mJ_weak (ls' := [(2, v0), (0, v1), (9, 0), (9, 0), (9, 0)]) (mwk_s (mwk_s (mwk_d (mwk_d (mwk_s mwk_n))))) (t_Box_whyNot_J56  hr)
    · refine j_iconst (pc := 45) d_Box_whyNot_45 ?_
      exact j_iret (pc := 46) d_Box_whyNot_46 rfl hr
theorem t_Box_whyNot {G : mG} (h : mH) (v0 v1 v2 : Int) (r : mR) (hr : f_Box_whyNot h v0 v1 v2 = some r) : mJM G M_Box_whyNot [(2, v0), (0, v1), (0, v2)] h r := by
  refine mJM_of (L := [(2, v0), (0, v1), (0, v2), (9, 0), (9, 0)]) rfl rfl rfl (Nat.le_of_ble_eq_true rfl) ?_
  unfold f_Box_whyNot at hr
  refine j_iload_n (pc := 0) d_Box_whyNot_0 rfl ?_
  refine j_if_lt (pc := 1) (tgt := 12) d_Box_whyNot_1 hr (fun hr => ?_) (fun hr => ?_)
  · refine j_iconst (pc := 12) d_Box_whyNot_12 ?_
    exact j_iret (pc := 13) d_Box_whyNot_13 rfl hr
  · refine j_iload_n (pc := 4) d_Box_whyNot_4 rfl ?_
    refine j_aload_n (pc := 5) d_Box_whyNot_5 rfl ?_
    refine j_getf (pc := 6) d_Box_whyNot_6 (fd_Box_52 rfl) hr (fun hr => ?_)
    refine j_icmp_lt (pc := 9) (tgt := 14) d_Box_whyNot_9 hr (fun hr => ?_) (fun hr => ?_)
    · refine j_aload_n (pc := 14) d_Box_whyNot_14 rfl ?_
      refine j_getf (pc := 15) d_Box_whyNot_15 (fd_Box_21 rfl) hr (fun hr => ?_)
      refine j_iload_n (pc := 18) d_Box_whyNot_18 rfl ?_
      refine j_iaload (pc := 19) d_Box_whyNot_19 hr (fun hr => ?_)
      refine j_iload_n (pc := 20) d_Box_whyNot_20 rfl ?_
      refine j_if_eq (pc := 21) (tgt := 28) d_Box_whyNot_21 hr (fun hr => ?_) (fun hr => ?_)
      · refine j_iconst (pc := 28) d_Box_whyNot_28 ?_
        exact mJ_weak (ls' := [(2, v0), (0, v1), (0, v2), (9, 0), (9, 0)]) (mwk_s (mwk_s (mwk_s (mwk_s (mwk_s mwk_n))))) (t_Box_whyNot_J29  hr)
      · refine j_iconst (pc := 24) d_Box_whyNot_24 ?_
        refine j_goto (pc := 25) (tgt := 29) d_Box_whyNot_25 ?_
        exact mJ_weak (ls' := [(2, v0), (0, v1), (0, v2), (9, 0), (9, 0)]) (mwk_s (mwk_s (mwk_s (mwk_s (mwk_s mwk_n))))) (t_Box_whyNot_J29  hr)
    · refine j_iconst (pc := 12) d_Box_whyNot_12 ?_
      exact j_iret (pc := 13) d_Box_whyNot_13 rfl hr
