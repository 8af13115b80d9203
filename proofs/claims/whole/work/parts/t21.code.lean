def M_Reader_readNumber : mM := ("NineBars$Reader", ⟨"NineBars$Reader", "readNumber", "(II)I"⟩, prog_10_method_7_code, 3, some .int, [], 3)
theorem tb_co_Reader_readNumber : mTB (Cond.code ⟨"NineBars$Reader", "readNumber", "(II)I"⟩ prog_10_method_7_code 3 (some .int)) := tbq4 58 (by decide +kernel) rfl
theorem mc_Reader_readNumber {M : mM} (hd : 3 < mDp M) : mCal M M_Reader_readNumber 2 := ⟨tb_co_Reader_readNumber, tb_in_NineBars_Reader, ⟨by decide +kernel, by decide +kernel⟩, by decide +kernel, hd, by decide⟩
theorem d_Reader_readNumber_0 : decode prog_10_method_7_code 0 = .ok (.aload_n 0, 1) := by decide +kernel
theorem d_Reader_readNumber_1 : decode prog_10_method_7_code 1 = .ok (.invokevirtual 39, 3) := by decide +kernel
theorem tb_ml_Reader_39 : mTB (Cond.methodLink "NineBars$Reader" 39 ⟨"NineBars$Reader", "readToken", "()V"⟩) := tbq3 226 (by decide +kernel) rfl
theorem tb_im_Reader_readToken : mTB (Cond.instanceMethod ⟨"NineBars$Reader", "readToken", "()V"⟩) := tbq3 228 (by decide +kernel) rfl
theorem tb_se_Reader_readToken : mTB (Cond.selects "NineBars$Reader" ⟨"NineBars$Reader", "readToken", "()V"⟩ ⟨"NineBars$Reader", "readToken", "()V"⟩) := tbqp 11 (by decide +kernel) rfl
theorem mv_Reader_readToken {M : mM} {idx : Nat} (h : mTB (Cond.methodLink (mO M) idx ⟨"NineBars$Reader", "readToken", "()V"⟩)) : mCaV M M_Reader_readToken idx 8 := ⟨h, tb_im_Reader_readToken, tb_se_Reader_readToken, by decide, TX8, 8, rfl⟩
theorem d_Reader_readNumber_4 : decode prog_10_method_7_code 4 = .ok (.aload_n 0, 1) := by decide +kernel
theorem d_Reader_readNumber_5 : decode prog_10_method_7_code 5 = .ok (.getfield 42, 3) := by decide +kernel
theorem d_Reader_readNumber_8 : decode prog_10_method_7_code 8 = .ok (.iconst 3, 1) := by decide +kernel
theorem d_Reader_readNumber_9 : decode prog_10_method_7_code 9 = .ok (.if_icmp .eq 11, 3) := by decide +kernel
theorem d_Reader_readNumber_20 : decode prog_10_method_7_code 20 = .ok (.aload_n 0, 1) := by decide +kernel
theorem d_Reader_readNumber_21 : decode prog_10_method_7_code 21 = .ok (.getfield 52, 3) := by decide +kernel
theorem d_Reader_readNumber_24 : decode prog_10_method_7_code 24 = .ok (.iload_n 1, 1) := by decide +kernel
theorem d_Reader_readNumber_25 : decode prog_10_method_7_code 25 = .ok (.if_icmp .lt 11, 3) := by decide +kernel
theorem d_Reader_readNumber_36 : decode prog_10_method_7_code 36 = .ok (.aload_n 0, 1) := by decide +kernel
theorem d_Reader_readNumber_37 : decode prog_10_method_7_code 37 = .ok (.iconst 3, 1) := by decide +kernel
theorem d_Reader_readNumber_38 : decode prog_10_method_7_code 38 = .ok (.invokevirtual 68, 3) := by decide +kernel
theorem tb_ml_Reader_68 : mTB (Cond.methodLink "NineBars$Reader" 68 ⟨"NineBars$Reader", "blame", "(I)V"⟩) := tbq4 51 (by decide +kernel) rfl
theorem tb_im_Reader_blame : mTB (Cond.instanceMethod ⟨"NineBars$Reader", "blame", "(I)V"⟩) := tbq4 53 (by decide +kernel) rfl
theorem tb_se_Reader_blame : mTB (Cond.selects "NineBars$Reader" ⟨"NineBars$Reader", "blame", "(I)V"⟩ ⟨"NineBars$Reader", "blame", "(I)V"⟩) := tbqp 15 (by decide +kernel) rfl
theorem mv_Reader_blame {M : mM} {idx : Nat} (h : mTB (Cond.methodLink (mO M) idx ⟨"NineBars$Reader", "blame", "(I)V"⟩)) : mCaV M M_Reader_blame idx 8 := ⟨h, tb_im_Reader_blame, tb_se_Reader_blame, by decide, TX8, 8, rfl⟩
theorem d_Reader_readNumber_41 : decode prog_10_method_7_code 41 = .ok (.aload_n 0, 1) := by decide +kernel
theorem d_Reader_readNumber_42 : decode prog_10_method_7_code 42 = .ok (.getfield 31, 3) := by decide +kernel
theorem d_Reader_readNumber_45 : decode prog_10_method_7_code 45 = .ok (.ifCond .ne 10, 3) := by decide +kernel
theorem d_Reader_readNumber_55 : decode prog_10_method_7_code 55 = .ok (.iconst 0, 1) := by decide +kernel
theorem d_Reader_readNumber_56 : decode prog_10_method_7_code 56 = .ok (.ireturn, 1) := by decide +kernel
theorem d_Reader_readNumber_48 : decode prog_10_method_7_code 48 = .ok (.aload_n 0, 1) := by decide +kernel
theorem d_Reader_readNumber_49 : decode prog_10_method_7_code 49 = .ok (.getfield 52, 3) := by decide +kernel
theorem d_Reader_readNumber_52 : decode prog_10_method_7_code 52 = .ok (.goto 4, 3) := by decide +kernel
theorem d_Reader_readNumber_28 : decode prog_10_method_7_code 28 = .ok (.aload_n 0, 1) := by decide +kernel
theorem d_Reader_readNumber_29 : decode prog_10_method_7_code 29 = .ok (.getfield 52, 3) := by decide +kernel
theorem d_Reader_readNumber_32 : decode prog_10_method_7_code 32 = .ok (.iload_n 2, 1) := by decide +kernel
theorem d_Reader_readNumber_33 : decode prog_10_method_7_code 33 = .ok (.if_icmp .le 8, 3) := by decide +kernel
theorem d_Reader_readNumber_12 : decode prog_10_method_7_code 12 = .ok (.aload_n 0, 1) := by decide +kernel
theorem d_Reader_readNumber_13 : decode prog_10_method_7_code 13 = .ok (.iconst 2, 1) := by decide +kernel
theorem d_Reader_readNumber_14 : decode prog_10_method_7_code 14 = .ok (.invokevirtual 68, 3) := by decide +kernel
theorem d_Reader_readNumber_17 : decode prog_10_method_7_code 17 = .ok (.goto 24, 3) := by decide +kernel
theorem t_Reader_readNumber_J41 {G : mG} {r : mR} {v0 : Int} {h : mH}  (hr : f_Reader_readNumber_J41 v0 h = some r) : mJ G M_Reader_readNumber 41 [(2, v0), (9, 0), (9, 0)] [] h r := by
  unfold f_Reader_readNumber_J41 at hr
  refine j_aload_n (pc := 41) d_Reader_readNumber_41 rfl ?_
  refine j_getf (pc := 42) d_Reader_readNumber_42 (fd_Reader_31 rfl) hr (fun hr => ?_)
  refine j_if_ne (pc := 45) (tgt := 55) d_Reader_readNumber_45 hr (fun hr => ?_) (fun hr => ?_)
  · refine j_iconst (pc := 55) d_Reader_readNumber_55 ?_
    exact j_iret (pc := 56) d_Reader_readNumber_56 rfl hr
  · refine j_aload_n (pc := 48) d_Reader_readNumber_48 rfl ?_
    refine j_getf (pc := 49) d_Reader_readNumber_49 (fd_Reader_52 rfl) hr (fun hr => ?_)
    refine j_goto (pc := 52) (tgt := 56) d_Reader_readNumber_52 ?_
    exact j_iret (pc := 56) d_Reader_readNumber_56 rfl hr
theorem t_Reader_readNumber_J36 {G : mG} {r : mR} {v0 : Int} {h : mH}  (hr : f_Reader_readNumber_J36 v0 h = some r) : mJ G M_Reader_readNumber 36 [(2, v0), (9, 0), (9, 0)] [] h r := by
  unfold f_Reader_readNumber_J36 at hr
  refine j_aload_n (pc := 36) d_Reader_readNumber_36 rfl ?_
  refine j_iconst (pc := 37) d_Reader_readNumber_37 ?_
  obtain ⟨ha, hr⟩ := chk_some hr
  refine j_callG (pc := 38) (stk := [(0, 3), (2, v0)]) (as := [(2, v0), (0, 3)]) (P := (fun v9 => [])) (tg := 3) (My := M_Reader_blame) (mRunV (as := [(0, 3)]) (st := []) d_Reader_readNumber_38 (mc_Reader_blame (by decide)) rfl (mv_Reader_blame tb_ml_Reader_68) rfl (Nat.le_of_ble_eq_true rfl) ha) (fun v => rfl) rfl hr (fun r1 h1 => t_Reader_blame _ _ _ _ h1) (fun x2 h1 hr => ?_)
  exact mJ_weak (ls' := [(2, v0), (9, 0), (9, 0)]) (mwk_s (mwk_s (mwk_s mwk_n))) (t_Reader_readNumber_J41  hr)
theorem t_Reader_readNumber {G : mG} (h : mH) (v0 v1 v2 : Int) (r : mR) (hr : f_Reader_readNumber h v0 v1 v2 = some r) : mJM G M_Reader_readNumber [(2, v0), (0, v1), (0, v2)] h r := by
  refine mJM_of (L := [(2, v0), (0, v1), (0, v2)]) rfl rfl rfl (Nat.le_of_ble_eq_true rfl) ?_
  unfold f_Reader_readNumber at hr
  refine j_aload_n (pc := 0) d_Reader_readNumber_0 rfl ?_
  obtain ⟨ha, hr⟩ := chk_some hr
  refine j_callG (pc := 1) (stk := [(2, v0)]) (as := [(2, v0)]) (P := (fun v9 => [])) (tg := 3) (My := M_Reader_readToken) (mRunV (as := []) (st := []) d_Reader_readNumber_1 (mc_Reader_readToken (by decide)) rfl (mv_Reader_readToken tb_ml_Reader_39) rfl (Nat.le_of_ble_eq_true rfl) ha) (fun v => rfl) rfl hr (fun r1 h1 => t_Reader_readToken _ _ _ h1) (fun x2 h1 hr => ?_)
  refine j_aload_n (pc := 4) d_Reader_readNumber_4 rfl ?_
  refine j_getf (pc := 5) d_Reader_readNumber_5 (fd_Reader_42 rfl) hr (fun hr => ?_)
  refine j_iconst (pc := 8) d_Reader_readNumber_8 ?_
  refine j_icmp_eq (pc := 9) (tgt := 20) d_Reader_readNumber_9 hr (fun hr => ?_) (fun hr => ?_)
  · refine j_aload_n (pc := 20) d_Reader_readNumber_20 rfl ?_
    refine j_getf (pc := 21) d_Reader_readNumber_21 (fd_Reader_52 rfl) hr (fun hr => ?_)
    refine j_iload_n (pc := 24) d_Reader_readNumber_24 rfl ?_
    refine j_icmp_lt (pc := 25) (tgt := 36) d_Reader_readNumber_25 hr (fun hr => ?_) (fun hr => ?_)
    · exact mJ_weak (ls' := [(2, v0), (9, 0), (9, 0)]) (mwk_s (mwk_d (mwk_d mwk_n))) (t_Reader_readNumber_J36  hr)
    · refine j_aload_n (pc := 28) d_Reader_readNumber_28 rfl ?_
      refine j_getf (pc := 29) d_Reader_readNumber_29 (fd_Reader_52 rfl) hr (fun hr => ?_)
      refine j_iload_n (pc := 32) d_Reader_readNumber_32 rfl ?_
      refine j_icmp_le (pc := 33) (tgt := 41) d_Reader_readNumber_33 hr (fun hr => ?_) (fun hr => ?_)
      · exact mJ_weak (ls' := [(2, v0), (9, 0), (9, 0)]) (mwk_s (mwk_d (mwk_d mwk_n))) (t_Reader_readNumber_J41  hr)
      · exact mJ_weak (ls' := [(2, v0), (9, 0), (9, 0)]) (mwk_s (mwk_d (mwk_d mwk_n))) (t_Reader_readNumber_J36  hr)
  · refine j_aload_n (pc := 12) d_Reader_readNumber_12 rfl ?_
    refine j_iconst (pc := 13) d_Reader_readNumber_13 ?_
    obtain ⟨ha, hr⟩ := chk_some hr
    refine j_callG (pc := 14) (stk := [(0, 2), (2, v0)]) (as := [(2, v0), (0, 2)]) (P := (fun v9 => [])) (tg := 3) (My := M_Reader_blame) (mRunV (as := [(0, 2)]) (st := []) d_Reader_readNumber_14 (mc_Reader_blame (by decide)) rfl (mv_Reader_blame tb_ml_Reader_68) rfl (Nat.le_of_ble_eq_true rfl) ha) (fun v => rfl) rfl hr (fun r1 h1 => t_Reader_blame _ _ _ _ h1) (fun x4 h3 hr => ?_)
    refine j_goto (pc := 17) (tgt := 41) d_Reader_readNumber_17 ?_
    exact mJ_weak (ls' := [(2, v0), (9, 0), (9, 0)]) (mwk_s (mwk_d (mwk_d mwk_n))) (t_Reader_readNumber_J41  hr)
def M_Reader_spells : mM := ("NineBars$Reader", ⟨"NineBars$Reader", "spells", "(Ljava/lang/String;)Z"⟩, prog_10_method_5_code, 3, some .boolean, [], 5)
theorem tb_co_Reader_spells : mTB (Cond.code ⟨"NineBars$Reader", "spells", "(Ljava/lang/String;)Z"⟩ prog_10_method_5_code 3 (some .boolean)) := tbq3 238 (by decide +kernel) rfl
theorem mc_Reader_spells {M : mM} (hd : 5 < mDp M) : mCal M M_Reader_spells 1 := ⟨tb_co_Reader_spells, tb_in_NineBars_Reader, ⟨by decide +kernel, by decide +kernel⟩, by decide +kernel, hd, by decide⟩
theorem d_Reader_spells_0 : decode prog_10_method_5_code 0 = .ok (.aload_n 0, 1) := by decide +kernel
theorem d_Reader_spells_1 : decode prog_10_method_5_code 1 = .ok (.getfield 31, 3) := by decide +kernel
theorem d_Reader_spells_4 : decode prog_10_method_5_code 4 = .ok (.ifCond .ne 27, 3) := by decide +kernel
theorem d_Reader_spells_31 : decode prog_10_method_5_code 31 = .ok (.iconst 0, 1) := by decide +kernel
theorem d_Reader_spells_32 : decode prog_10_method_5_code 32 = .ok (.ireturn, 1) := by decide +kernel
theorem d_Reader_spells_7 : decode prog_10_method_5_code 7 = .ok (.aload_n 0, 1) := by decide +kernel
theorem d_Reader_spells_8 : decode prog_10_method_5_code 8 = .ok (.getfield 42, 3) := by decide +kernel
theorem d_Reader_spells_11 : decode prog_10_method_5_code 11 = .ok (.iconst 2, 1) := by decide +kernel
theorem d_Reader_spells_12 : decode prog_10_method_5_code 12 = .ok (.if_icmp .ne 19, 3) := by decide +kernel
theorem d_Reader_spells_15 : decode prog_10_method_5_code 15 = .ok (.aload_n 0, 1) := by decide +kernel
theorem d_Reader_spells_16 : decode prog_10_method_5_code 16 = .ok (.getfield 28, 3) := by decide +kernel
theorem d_Reader_spells_19 : decode prog_10_method_5_code 19 = .ok (.aload_n 0, 1) := by decide +kernel
theorem d_Reader_spells_20 : decode prog_10_method_5_code 20 = .ok (.getfield 49, 3) := by decide +kernel
theorem d_Reader_spells_23 : decode prog_10_method_5_code 23 = .ok (.isub, 1) := by decide +kernel
theorem d_Reader_spells_24 : decode prog_10_method_5_code 24 = .ok (.aload_n 1, 1) := by decide +kernel
theorem d_Reader_spells_25 : decode prog_10_method_5_code 25 = .ok (.invokevirtual 55, 3) := by decide +kernel
theorem tb_ml_Reader_55 : mTB (Cond.methodLink "NineBars$Reader" 55 ⟨"java/lang/String", "length", "()I"⟩) := tbq3 239 (by decide +kernel) rfl
theorem d_Reader_spells_28 : decode prog_10_method_5_code 28 = .ok (.if_icmp .eq 5, 3) := by decide +kernel
theorem d_Reader_spells_33 : decode prog_10_method_5_code 33 = .ok (.iconst 0, 1) := by decide +kernel
theorem d_Reader_spells_34 : decode prog_10_method_5_code 34 = .ok (.istore_n 2, 1) := by decide +kernel
theorem d_Reader_spells_35 : decode prog_10_method_5_code 35 = .ok (.iload_n 2, 1) := by decide +kernel
theorem d_Reader_spells_36 : decode prog_10_method_5_code 36 = .ok (.aload_n 1, 1) := by decide +kernel
theorem d_Reader_spells_37 : decode prog_10_method_5_code 37 = .ok (.invokevirtual 55, 3) := by decide +kernel
theorem d_Reader_spells_40 : decode prog_10_method_5_code 40 = .ok (.if_icmp .ge 30, 3) := by decide +kernel
theorem d_Reader_spells_70 : decode prog_10_method_5_code 70 = .ok (.iconst 1, 1) := by decide +kernel
theorem d_Reader_spells_71 : decode prog_10_method_5_code 71 = .ok (.ireturn, 1) := by decide +kernel
theorem d_Reader_spells_43 : decode prog_10_method_5_code 43 = .ok (.aload_n 0, 1) := by decide +kernel
theorem d_Reader_spells_44 : decode prog_10_method_5_code 44 = .ok (.getfield 9, 3) := by decide +kernel
theorem d_Reader_spells_47 : decode prog_10_method_5_code 47 = .ok (.aload_n 0, 1) := by decide +kernel
theorem d_Reader_spells_48 : decode prog_10_method_5_code 48 = .ok (.getfield 49, 3) := by decide +kernel
theorem d_Reader_spells_51 : decode prog_10_method_5_code 51 = .ok (.iload_n 2, 1) := by decide +kernel
theorem d_Reader_spells_52 : decode prog_10_method_5_code 52 = .ok (.iadd, 1) := by decide +kernel
theorem d_Reader_spells_53 : decode prog_10_method_5_code 53 = .ok (.baload, 1) := by decide +kernel
theorem d_Reader_spells_54 : decode prog_10_method_5_code 54 = .ok (.aload_n 1, 1) := by decide +kernel
theorem d_Reader_spells_55 : decode prog_10_method_5_code 55 = .ok (.iload_n 2, 1) := by decide +kernel
theorem d_Reader_spells_56 : decode prog_10_method_5_code 56 = .ok (.invokevirtual 60, 3) := by decide +kernel
theorem tb_ml_Reader_60 : mTB (Cond.methodLink "NineBars$Reader" 60 ⟨"java/lang/String", "charAt", "(I)C"⟩) := tbq4 9 (by decide +kernel) rfl
theorem d_Reader_spells_59 : decode prog_10_method_5_code 59 = .ok (.if_icmp .eq 5, 3) := by decide +kernel
theorem d_Reader_spells_64 : decode prog_10_method_5_code 64 = .ok (.iinc 2 1, 3) := by decide +kernel
theorem d_Reader_spells_67 : decode prog_10_method_5_code 67 = .ok (.goto (-32), 3) := by decide +kernel
theorem d_Reader_spells_62 : decode prog_10_method_5_code 62 = .ok (.iconst 0, 1) := by decide +kernel
theorem d_Reader_spells_63 : decode prog_10_method_5_code 63 = .ok (.ireturn, 1) := by decide +kernel
theorem t_Reader_spells_L35 {G : mG} {r : mR} {v0 v1 : Int}  : ∀ (n : Nat) (h : mH) (v2 : Int), f_Reader_spells_L35 v0 v1 n h v2 = some r → mJ G M_Reader_spells 35 [(2, v0), (2, v1), (0, v2)] [] h r := by
  intro n
  induction n with
  | zero =>
    intro h v2 hr
    rw [f_Reader_spells_L35] at hr
    cases hr
  | succ n hR35 =>
    intro h v2 hr
    rw [f_Reader_spells_L35] at hr
    refine j_iload_n (pc := 35) d_Reader_spells_35 rfl ?_
    refine j_aload_n (pc := 36) d_Reader_spells_36 rfl ?_
    obtain ⟨ha, hr⟩ := chk_some hr
    refine j_call_Sg_length (pc := 37) d_Reader_spells_37 tb_ml_Reader_55 (by decide) (Nat.le_of_ble_eq_true rfl) ha rfl hr (fun x2 h1 hr => ?_)
    refine j_icmp_ge (pc := 40) (tgt := 70) d_Reader_spells_40 hr (fun hr => ?_) (fun hr => ?_)
    · refine j_iconst (pc := 70) d_Reader_spells_70 ?_
      exact j_zret (pc := 71) d_Reader_spells_71 rfl hr
    · refine j_aload_n (pc := 43) d_Reader_spells_43 rfl ?_
      refine j_getf (pc := 44) d_Reader_spells_44 (fd_Reader_9 rfl) hr (fun hr => ?_)
      refine j_aload_n (pc := 47) d_Reader_spells_47 rfl ?_
      refine j_getf (pc := 48) d_Reader_spells_48 (fd_Reader_49 rfl) hr (fun hr => ?_)
      refine j_iload_n (pc := 51) d_Reader_spells_51 rfl ?_
      refine j_iadd (pc := 52) d_Reader_spells_52 ?_
      refine j_baload (pc := 53) d_Reader_spells_53 hr (fun hr => ?_)
      refine j_aload_n (pc := 54) d_Reader_spells_54 rfl ?_
      refine j_iload_n (pc := 55) d_Reader_spells_55 rfl ?_
      obtain ⟨ha, hr⟩ := chk_some hr
      refine j_call_Sg_charAt (pc := 56) d_Reader_spells_56 tb_ml_Reader_60 (by decide) (Nat.le_of_ble_eq_true rfl) ha rfl hr (fun x4 h3 hr => ?_)
      refine j_icmp_eq (pc := 59) (tgt := 64) d_Reader_spells_59 hr (fun hr => ?_) (fun hr => ?_)
      · refine j_iincW (pc := 64) (L := fun x5 => [(2, v0), (2, v1), (0, x5)]) d_Reader_spells_64 rfl (fun _ => rfl) hr (fun x5 hr => ?_)
        refine j_goto (pc := 67) (tgt := 35) d_Reader_spells_67 ?_
        exact mJ_weak (ls' := [(2, v0), (2, v1), (0, x5)]) (mwk_s (mwk_s (mwk_s mwk_n))) (hR35 h3 _ hr)
      · refine j_iconst (pc := 62) d_Reader_spells_62 ?_
        exact j_zret (pc := 63) d_Reader_spells_63 rfl hr
theorem t_Reader_spells {G : mG} (h : mH) (v0 v1 : Int) (r : mR) (hr : f_Reader_spells h v0 v1 = some r) : mJM G M_Reader_spells [(2, v0), (2, v1)] h r := by
  refine mJM_of (L := [(2, v0), (2, v1), (9, 0)]) rfl rfl rfl (Nat.le_of_ble_eq_true rfl) ?_
  unfold f_Reader_spells at hr
  refine j_aload_n (pc := 0) d_Reader_spells_0 rfl ?_
  refine j_getf (pc := 1) d_Reader_spells_1 (fd_Reader_31 rfl) hr (fun hr => ?_)
  refine j_if_ne (pc := 4) (tgt := 31) d_Reader_spells_4 hr (fun hr => ?_) (fun hr => ?_)
  · refine j_iconst (pc := 31) d_Reader_spells_31 ?_
    exact j_zret (pc := 32) d_Reader_spells_32 rfl hr
  · refine j_aload_n (pc := 7) d_Reader_spells_7 rfl ?_
    refine j_getf (pc := 8) d_Reader_spells_8 (fd_Reader_42 rfl) hr (fun hr => ?_)
    refine j_iconst (pc := 11) d_Reader_spells_11 ?_
    refine j_icmp_ne (pc := 12) (tgt := 31) d_Reader_spells_12 hr (fun hr => ?_) (fun hr => ?_)
    · refine j_iconst (pc := 31) d_Reader_spells_31 ?_
      exact j_zret (pc := 32) d_Reader_spells_32 rfl hr
    · refine j_aload_n (pc := 15) d_Reader_spells_15 rfl ?_
      refine j_getf (pc := 16) d_Reader_spells_16 (fd_Reader_28 rfl) hr (fun hr => ?_)
      refine j_aload_n (pc := 19) d_Reader_spells_19 rfl ?_
      refine j_getf (pc := 20) d_Reader_spells_20 (fd_Reader_49 rfl) hr (fun hr => ?_)
      refine j_isub (pc := 23) d_Reader_spells_23 ?_
      refine j_aload_n (pc := 24) d_Reader_spells_24 rfl ?_
      obtain ⟨ha, hr⟩ := chk_some hr
      refine j_call_Sg_length (pc := 25) d_Reader_spells_25 tb_ml_Reader_55 (by decide) (Nat.le_of_ble_eq_true rfl) ha rfl hr (fun x2 h1 hr => ?_)
      refine j_icmp_eq (pc := 28) (tgt := 33) d_Reader_spells_28 hr (fun hr => ?_) (fun hr => ?_)
      · refine j_iconst (pc := 33) d_Reader_spells_33 ?_
        refine j_istore_n (pc := 34) (ls' := [(2, v0), (2, v1), (0, 0)]) d_Reader_spells_34 rfl ?_
        refine mJ_weak (ls' := [(2, v0), (2, v1), (0, 0)]) (mwk_s (mwk_s (mwk_s mwk_n))) (t_Reader_spells_L35  _ _ _ hr)
      · refine j_iconst (pc := 31) d_Reader_spells_31 ?_
        exact j_zret (pc := 32) d_Reader_spells_32 rfl hr
def M_Reader_readBar : mM := ("NineBars$Reader", ⟨"NineBars$Reader", "readBar", "(LNineBars$Box;)V"⟩, prog_10_method_9_code, 5, none, [], 7)
theorem tb_co_Reader_readBar : mTB (Cond.code ⟨"NineBars$Reader", "readBar", "(LNineBars$Box;)V"⟩ prog_10_method_9_code 5 (none)) := tbq4 50 (by decide +kernel) rfl
theorem mc_Reader_readBar {M : mM} (hd : 7 < mDp M) : mCal M M_Reader_readBar 1 := ⟨tb_co_Reader_readBar, tb_in_NineBars_Reader, ⟨by decide +kernel, by decide +kernel⟩, by decide +kernel, hd, by decide⟩
theorem d_Reader_readBar_0 : decode prog_10_method_9_code 0 = .ok (.aload_n 1, 1) := by decide +kernel
theorem tb_fl_Reader_84 : mTN (Cond.fieldLinkNest "NineBars$Reader" 84 "NineBars$Box" "bars" "I" "NineBars") := tbqn1 85 (by decide +kernel) rfl
theorem fd_Reader_84 {M : mM} (h : mO M = "NineBars$Reader") : mFld M 84 0 2 0 := ⟨_, _, _, tyX0, rfl, by decide, by decide, rfl, uw_0, tyX0_ok, nmX0, by rw [h]; exact Or.inr ⟨_, tb_fl_Reader_84⟩⟩
theorem d_Reader_readBar_1 : decode prog_10_method_9_code 1 = .ok (.getfield 84, 3) := by decide +kernel
theorem d_Reader_readBar_4 : decode prog_10_method_9_code 4 = .ok (.bipush 9, 2) := by decide +kernel
theorem d_Reader_readBar_6 : decode prog_10_method_9_code 6 = .ok (.if_icmp .ne 9, 3) := by decide +kernel
theorem d_Reader_readBar_15 : decode prog_10_method_9_code 15 = .ok (.aload_n 0, 1) := by decide +kernel
theorem d_Reader_readBar_16 : decode prog_10_method_9_code 16 = .ok (.iconst 2, 1) := by decide +kernel
theorem d_Reader_readBar_17 : decode prog_10_method_9_code 17 = .ok (.iconst 4, 1) := by decide +kernel
theorem d_Reader_readBar_18 : decode prog_10_method_9_code 18 = .ok (.invokevirtual 87, 3) := by decide +kernel
theorem tb_ml_Reader_87 : mTB (Cond.methodLink "NineBars$Reader" 87 ⟨"NineBars$Reader", "readNumber", "(II)I"⟩) := tbq4 55 (by decide +kernel) rfl
theorem tb_im_Reader_readNumber : mTB (Cond.instanceMethod ⟨"NineBars$Reader", "readNumber", "(II)I"⟩) := tbq4 57 (by decide +kernel) rfl
theorem tb_se_Reader_readNumber : mTB (Cond.selects "NineBars$Reader" ⟨"NineBars$Reader", "readNumber", "(II)I"⟩ ⟨"NineBars$Reader", "readNumber", "(II)I"⟩) := tbqp 16 (by decide +kernel) rfl
theorem mv_Reader_readNumber {M : mM} {idx : Nat} (h : mTB (Cond.methodLink (mO M) idx ⟨"NineBars$Reader", "readNumber", "(II)I"⟩)) : mCaV M M_Reader_readNumber idx 8 := ⟨h, tb_im_Reader_readNumber, tb_se_Reader_readNumber, by decide, TX8, 8, rfl⟩
theorem d_Reader_readBar_21 : decode prog_10_method_9_code 21 = .ok (.istore_n 2, 1) := by decide +kernel
theorem d_Reader_readBar_22 : decode prog_10_method_9_code 22 = .ok (.iconst 0, 1) := by decide +kernel
theorem d_Reader_readBar_23 : decode prog_10_method_9_code 23 = .ok (.istore_n 3, 1) := by decide +kernel
theorem d_Reader_readBar_24 : decode prog_10_method_9_code 24 = .ok (.iload_n 2, 1) := by decide +kernel
theorem d_Reader_readBar_25 : decode prog_10_method_9_code 25 = .ok (.iconst 1, 1) := by decide +kernel
theorem d_Reader_readBar_26 : decode prog_10_method_9_code 26 = .ok (.isub, 1) := by decide +kernel
theorem d_Reader_readBar_27 : decode prog_10_method_9_code 27 = .ok (.istore 4, 2) := by decide +kernel
theorem d_Reader_readBar_29 : decode prog_10_method_9_code 29 = .ok (.aload_n 0, 1) := by decide +kernel
theorem d_Reader_readBar_30 : decode prog_10_method_9_code 30 = .ok (.invokevirtual 39, 3) := by decide +kernel
theorem d_Reader_readBar_33 : decode prog_10_method_9_code 33 = .ok (.aload_n 0, 1) := by decide +kernel
theorem d_Reader_readBar_34 : decode prog_10_method_9_code 34 = .ok (.ldc 99, 2) := by decide +kernel
theorem d_Reader_readBar_36 : decode prog_10_method_9_code 36 = .ok (.invokevirtual 64, 3) := by decide +kernel
theorem tb_ml_Reader_64 : mTB (Cond.methodLink "NineBars$Reader" 64 ⟨"NineBars$Reader", "spells", "(Ljava/lang/String;)Z"⟩) := tbq3 235 (by decide +kernel) rfl
theorem tb_im_Reader_spells : mTB (Cond.instanceMethod ⟨"NineBars$Reader", "spells", "(Ljava/lang/String;)Z"⟩) := tbq3 237 (by decide +kernel) rfl
theorem tb_se_Reader_spells : mTB (Cond.selects "NineBars$Reader" ⟨"NineBars$Reader", "spells", "(Ljava/lang/String;)Z"⟩ ⟨"NineBars$Reader", "spells", "(Ljava/lang/String;)Z"⟩) := tbqp 13 (by decide +kernel) rfl
theorem mv_Reader_spells {M : mM} {idx : Nat} (h : mTB (Cond.methodLink (mO M) idx ⟨"NineBars$Reader", "spells", "(Ljava/lang/String;)Z"⟩)) : mCaV M M_Reader_spells idx 8 := ⟨h, tb_im_Reader_spells, tb_se_Reader_spells, by decide, TX8, 8, rfl⟩
theorem d_Reader_readBar_39 : decode prog_10_method_9_code 39 = .ok (.ifCond .eq 16, 3) := by decide +kernel
theorem d_Reader_readBar_55 : decode prog_10_method_9_code 55 = .ok (.aload_n 0, 1) := by decide +kernel
theorem d_Reader_readBar_56 : decode prog_10_method_9_code 56 = .ok (.ldc 101, 2) := by decide +kernel
theorem d_Reader_readBar_58 : decode prog_10_method_9_code 58 = .ok (.invokevirtual 64, 3) := by decide +kernel
theorem d_Reader_readBar_61 : decode prog_10_method_9_code 61 = .ok (.ifCond .eq 17, 3) := by decide +kernel
theorem d_Reader_readBar_78 : decode prog_10_method_9_code 78 = .ok (.aload_n 0, 1) := by decide +kernel
theorem d_Reader_readBar_79 : decode prog_10_method_9_code 79 = .ok (.getfield 31, 3) := by decide +kernel
theorem d_Reader_readBar_82 : decode prog_10_method_9_code 82 = .ok (.ifCond .ne 11, 3) := by decide +kernel
theorem d_Reader_readBar_93 : decode prog_10_method_9_code 93 = .ok (.return_, 1) := by decide +kernel
theorem d_Reader_readBar_85 : decode prog_10_method_9_code 85 = .ok (.aload_n 1, 1) := by decide +kernel
theorem d_Reader_readBar_86 : decode prog_10_method_9_code 86 = .ok (.iload_n 2, 1) := by decide +kernel
theorem d_Reader_readBar_87 : decode prog_10_method_9_code 87 = .ok (.iload_n 3, 1) := by decide +kernel
theorem d_Reader_readBar_88 : decode prog_10_method_9_code 88 = .ok (.iload 4, 2) := by decide +kernel
theorem d_Reader_readBar_90 : decode prog_10_method_9_code 90 = .ok (.invokevirtual 103, 3) := by decide +kernel
theorem tb_ml_Reader_103 : mTB (Cond.methodLink "NineBars$Reader" 103 ⟨"NineBars$Box", "addBar", "(III)V"⟩) := tbq4 61 (by decide +kernel) rfl
theorem tb_im_Box_addBar : mTB (Cond.instanceMethod ⟨"NineBars$Box", "addBar", "(III)V"⟩) := tbq4 62 (by decide +kernel) rfl
theorem tb_se_Box_addBar : mTB (Cond.selects "NineBars$Box" ⟨"NineBars$Box", "addBar", "(III)V"⟩ ⟨"NineBars$Box", "addBar", "(III)V"⟩) := tbq4 63 (by decide +kernel) rfl
theorem mv_Box_addBar {M : mM} {idx : Nat} (h : mTB (Cond.methodLink (mO M) idx ⟨"NineBars$Box", "addBar", "(III)V"⟩)) : mCaV M M_Box_addBar idx 0 := ⟨h, tb_im_Box_addBar, tb_se_Box_addBar, by decide, TX0, 18, rfl⟩
theorem d_Reader_readBar_64 : decode prog_10_method_9_code 64 = .ok (.aload_n 0, 1) := by decide +kernel
theorem d_Reader_readBar_65 : decode prog_10_method_9_code 65 = .ok (.iconst 0, 1) := by decide +kernel
theorem d_Reader_readBar_66 : decode prog_10_method_9_code 66 = .ok (.iload_n 2, 1) := by decide +kernel
theorem d_Reader_readBar_67 : decode prog_10_method_9_code 67 = .ok (.iconst 1, 1) := by decide +kernel
theorem d_Reader_readBar_68 : decode prog_10_method_9_code 68 = .ok (.isub, 1) := by decide +kernel
theorem d_Reader_readBar_69 : decode prog_10_method_9_code 69 = .ok (.invokevirtual 87, 3) := by decide +kernel
theorem d_Reader_readBar_72 : decode prog_10_method_9_code 72 = .ok (.istore 4, 2) := by decide +kernel
theorem d_Reader_readBar_74 : decode prog_10_method_9_code 74 = .ok (.aload_n 0, 1) := by decide +kernel
theorem d_Reader_readBar_75 : decode prog_10_method_9_code 75 = .ok (.invokevirtual 39, 3) := by decide +kernel
theorem d_Reader_readBar_42 : decode prog_10_method_9_code 42 = .ok (.aload_n 0, 1) := by decide +kernel
theorem d_Reader_readBar_43 : decode prog_10_method_9_code 43 = .ok (.iconst 0, 1) := by decide +kernel
theorem d_Reader_readBar_44 : decode prog_10_method_9_code 44 = .ok (.iload_n 2, 1) := by decide +kernel
theorem d_Reader_readBar_45 : decode prog_10_method_9_code 45 = .ok (.iconst 1, 1) := by decide +kernel
theorem d_Reader_readBar_46 : decode prog_10_method_9_code 46 = .ok (.isub, 1) := by decide +kernel
theorem d_Reader_readBar_47 : decode prog_10_method_9_code 47 = .ok (.invokevirtual 87, 3) := by decide +kernel
theorem d_Reader_readBar_50 : decode prog_10_method_9_code 50 = .ok (.istore_n 3, 1) := by decide +kernel
theorem d_Reader_readBar_51 : decode prog_10_method_9_code 51 = .ok (.aload_n 0, 1) := by decide +kernel
theorem d_Reader_readBar_52 : decode prog_10_method_9_code 52 = .ok (.invokevirtual 39, 3) := by decide +kernel
theorem d_Reader_readBar_9 : decode prog_10_method_9_code 9 = .ok (.aload_n 0, 1) := by decide +kernel
theorem d_Reader_readBar_10 : decode prog_10_method_9_code 10 = .ok (.iconst 4, 1) := by decide +kernel
theorem d_Reader_readBar_11 : decode prog_10_method_9_code 11 = .ok (.invokevirtual 68, 3) := by decide +kernel
theorem d_Reader_readBar_14 : decode prog_10_method_9_code 14 = .ok (.return_, 1) := by decide +kernel
theorem t_Reader_readBar_J78 {G : mG} {r : mR} {v0 v1 v2 v3 v4 : Int} {h : mH}  (hr : f_Reader_readBar_J78 v0 v1 v2 v3 v4 h = some r) : mJ G M_Reader_readBar 78 [(2, v0), (2, v1), (0, v2), (0, v3), (0, v4)] [] h r := by
  unfold f_Reader_readBar_J78 at hr
  refine j_aload_n (pc := 78) d_Reader_readBar_78 rfl ?_
  refine j_getf (pc := 79) d_Reader_readBar_79 (fd_Reader_31 rfl) hr (fun hr => ?_)
  refine j_if_ne (pc := 82) (tgt := 93) d_Reader_readBar_82 hr (fun hr => ?_) (fun hr => ?_)
  · exact j_vret (pc := 93) d_Reader_readBar_93 rfl hr
  · refine j_aload_n (pc := 85) d_Reader_readBar_85 rfl ?_
    refine j_iload_n (pc := 86) d_Reader_readBar_86 rfl ?_
    refine j_iload_n (pc := 87) d_Reader_readBar_87 rfl ?_
    refine j_iload (pc := 88) d_Reader_readBar_88 rfl ?_
    obtain ⟨ha, hr⟩ := chk_some hr
    refine j_callG (pc := 90) (stk := [(0, v4), (0, v3), (0, v2), (2, v1)]) (as := [(2, v1), (0, v2), (0, v3), (0, v4)]) (P := (fun v9 => [])) (tg := 3) (My := M_Box_addBar) (mRunV (as := [(0, v2), (0, v3), (0, v4)]) (st := []) d_Reader_readBar_90 (mc_Box_addBar (by decide)) rfl (mv_Box_addBar tb_ml_Reader_103) rfl (Nat.le_of_ble_eq_true rfl) ha) (fun v => rfl) rfl hr (fun r1 h1 => t_Box_addBar _ _ _ _ _ _ h1) (fun x2 h1 hr => ?_)
    exact j_vret (pc := 93) d_Reader_readBar_93 rfl hr
theorem t_Reader_readBar_J55 {G : mG} {r : mR} {v0 v1 v2 v3 v4 : Int} {h : mH}  (hr : f_Reader_readBar_J55 v0 v1 v2 v3 v4 h = some r) : mJ G M_Reader_readBar 55 [(2, v0), (2, v1), (0, v2), (0, v3), (0, v4)] [] h r := by
  unfold f_Reader_readBar_J55 at hr
  refine j_aload_n (pc := 55) d_Reader_readBar_55 rfl ?_
  refine j_ldcS (pc := 56) (tx := "open") (k := 5) d_Reader_readBar_56 (by decide +kernel) ?_
  obtain ⟨ha, hr⟩ := chk_some hr
  refine j_callG (pc := 58) (stk := [(2, (-(((5 : Nat) : Int) + 2))), (2, v0)]) (as := [(2, v0), (2, (-(((5 : Nat) : Int) + 2)))]) (P := (fun v9 => ((0 : Nat), v9) :: [])) (tg := 0) (My := M_Reader_spells) (mRunV (as := [(2, (-(((5 : Nat) : Int) + 2)))]) (st := []) d_Reader_readBar_58 (mc_Reader_spells (by decide)) rfl (mv_Reader_spells tb_ml_Reader_64) rfl (Nat.le_of_ble_eq_true rfl) ha) (fun v => rfl) rfl hr (fun r1 h1 => t_Reader_spells _ _ _ _ h1) (fun x2 h1 hr => ?_)
  refine j_if_eq (pc := 61) (tgt := 78) d_Reader_readBar_61 hr (fun hr => ?_) (fun hr => ?_)
  · exact mJ_weak (ls' := [(2, v0), (2, v1), (0, v2), (0, v3), (0, v4)]) (mwk_s (mwk_s (mwk_s (mwk_s (mwk_s mwk_n))))) (t_Reader_readBar_J78  hr)
  · refine j_aload_n (pc := 64) d_Reader_readBar_64 rfl ?_
    refine j_iconst (pc := 65) d_Reader_readBar_65 ?_
    refine j_iload_n (pc := 66) d_Reader_readBar_66 rfl ?_
    refine j_iconst (pc := 67) d_Reader_readBar_67 ?_
    refine j_isub (pc := 68) d_Reader_readBar_68 ?_
    obtain ⟨ha, hr⟩ := chk_some hr
    refine j_callG (pc := 69) (stk := [(0, w32 (v2 - 1)), (0, 0), (2, v0)]) (as := [(2, v0), (0, 0), (0, w32 (v2 - 1))]) (P := (fun v9 => ((0 : Nat), v9) :: [])) (tg := 0) (My := M_Reader_readNumber) (mRunV (as := [(0, 0), (0, w32 (v2 - 1))]) (st := []) d_Reader_readBar_69 (mc_Reader_readNumber (by decide)) rfl (mv_Reader_readNumber tb_ml_Reader_87) rfl (Nat.le_of_ble_eq_true rfl) ha) (fun v => rfl) rfl hr (fun r1 h1 => t_Reader_readNumber _ _ _ _ _ h1) (fun x4 h3 hr => ?_)
    refine j_istore (pc := 72) (ls' := [(2, v0), (2, v1), (0, v2), (0, v3), (0, x4)]) d_Reader_readBar_72 rfl ?_
    refine j_aload_n (pc := 74) d_Reader_readBar_74 rfl ?_
    obtain ⟨ha, hr⟩ := chk_some hr
    refine j_callG (pc := 75) (stk := [(2, v0)]) (as := [(2, v0)]) (P := (fun v9 => [])) (tg := 3) (My := M_Reader_readToken) (mRunV (as := []) (st := []) d_Reader_readBar_75 (mc_Reader_readToken (by decide)) rfl (mv_Reader_readToken tb_ml_Reader_39) rfl (Nat.le_of_ble_eq_true rfl) ha) (fun v => rfl) rfl hr (fun r1 h1 => t_Reader_readToken _ _ _ h1) (fun x6 h5 hr => ?_)
    exact mJ_weak (ls' := [(2, v0), (2, v1), (0, v2), (0, v3), (0, x4)]) (mwk_s (mwk_s (mwk_s (mwk_s (mwk_s mwk_n))))) (t_Reader_readBar_J78  hr)
theorem t_Reader_readBar {G : mG} (h : mH) (v0 v1 : Int) (r : mR) (hr : f_Reader_readBar h v0 v1 = some r) : mJM G M_Reader_readBar [(2, v0), (2, v1)] h r := by
  refine mJM_of (L := [(2, v0), (2, v1), (9, 0), (9, 0), (9, 0)]) rfl rfl rfl (Nat.le_of_ble_eq_true rfl) ?_
  unfold f_Reader_readBar at hr
  refine j_aload_n (pc := 0) d_Reader_readBar_0 rfl ?_
  refine j_getf (pc := 1) d_Reader_readBar_1 (fd_Reader_84 rfl) hr (fun hr => ?_)
  refine j_bipush (pc := 4) d_Reader_readBar_4 ?_
  refine j_icmp_ne (pc := 6) (tgt := 15) d_Reader_readBar_6 hr (fun hr => ?_) (fun hr => ?_)
  · refine j_aload_n (pc := 15) d_Reader_readBar_15 rfl ?_
    refine j_iconst (pc := 16) d_Reader_readBar_16 ?_
    refine j_iconst (pc := 17) d_Reader_readBar_17 ?_
    obtain ⟨ha, hr⟩ := chk_some hr
    refine j_callG (pc := 18) (stk := [(0, 4), (0, 2), (2, v0)]) (as := [(2, v0), (0, 2), (0, 4)]) (P := (fun v9 => ((0 : Nat), v9) :: [])) (tg := 0) (My := M_Reader_readNumber) (mRunV (as := [(0, 2), (0, 4)]) (st := []) d_Reader_readBar_18 (mc_Reader_readNumber (by decide)) rfl (mv_Reader_readNumber tb_ml_Reader_87) rfl (Nat.le_of_ble_eq_true rfl) ha) (fun v => rfl) rfl hr (fun r1 h1 => t_Reader_readNumber _ _ _ _ _ h1) (fun x2 h1 hr => ?_)
    refine j_istore_n (pc := 21) (ls' := [(2, v0), (2, v1), (0, x2), (9, 0), (9, 0)]) d_Reader_readBar_21 rfl ?_
    refine j_iconst (pc := 22) d_Reader_readBar_22 ?_
    refine j_istore_n (pc := 23) (ls' := [(2, v0), (2, v1), (0, x2), (0, 0), (9, 0)]) d_Reader_readBar_23 rfl ?_
    refine j_iload_n (pc := 24) d_Reader_readBar_24 rfl ?_
    refine j_iconst (pc := 25) d_Reader_readBar_25 ?_
    refine j_isub (pc := 26) d_Reader_readBar_26 ?_
    refine j_istoreW (pc := 27) (L := fun x3 => [(2, v0), (2, v1), (0, x2), (0, 0), (0, x3)]) d_Reader_readBar_27 (fun _ => rfl) hr (fun x3 hr => ?_)
    refine j_aload_n (pc := 29) d_Reader_readBar_29 rfl ?_
    obtain ⟨ha, hr⟩ := chk_some hr
    refine j_callG (pc := 30) (stk := [(2, v0)]) (as := [(2, v0)]) (P := (fun v9 => [])) (tg := 3) (My := M_Reader_readToken) (mRunV (as := []) (st := []) d_Reader_readBar_30 (mc_Reader_readToken (by decide)) rfl (mv_Reader_readToken tb_ml_Reader_39) rfl (Nat.le_of_ble_eq_true rfl) ha) (fun v => rfl) rfl hr (fun r1 h1 => t_Reader_readToken _ _ _ h1) (fun x5 h4 hr => ?_)
    refine j_aload_n (pc := 33) d_Reader_readBar_33 rfl ?_
    refine j_ldcS (pc := 34) (tx := "at") (k := 4) d_Reader_readBar_34 (by decide +kernel) ?_
    obtain ⟨ha, hr⟩ := chk_some hr
    refine j_callG (pc := 36) (stk := [(2, (-(((4 : Nat) : Int) + 2))), (2, v0)]) (as := [(2, v0), (2, (-(((4 : Nat) : Int) + 2)))]) (P := (fun v9 => ((0 : Nat), v9) :: [])) (tg := 0) (My := M_Reader_spells) (mRunV (as := [(2, (-(((4 : Nat) : Int) + 2)))]) (st := []) d_Reader_readBar_36 (mc_Reader_spells (by decide)) rfl (mv_Reader_spells tb_ml_Reader_64) rfl (Nat.le_of_ble_eq_true rfl) ha) (fun v => rfl) rfl hr (fun r1 h1 => t_Reader_spells _ _ _ _ h1) (fun x7 h6 hr => ?_)
    refine j_if_eq (pc := 39) (tgt := 55) d_Reader_readBar_39 hr (fun hr => ?_) (fun hr => ?_)
    · exact mJ_weak (ls' := [(2, v0), (2, v1), (0, x2), (0, 0), (0, x3)]) (mwk_s (mwk_s (mwk_s (mwk_s (mwk_s mwk_n))))) (t_Reader_readBar_J55  hr)
    · refine j_aload_n (pc := 42) d_Reader_readBar_42 rfl ?_
      refine j_iconst (pc := 43) d_Reader_readBar_43 ?_
      refine j_iload_n (pc := 44) d_Reader_readBar_44 rfl ?_
      refine j_iconst (pc := 45) d_Reader_readBar_45 ?_
      refine j_isub (pc := 46) d_Reader_readBar_46 ?_
      obtain ⟨ha, hr⟩ := chk_some hr
      refine j_callG (pc := 47) (stk := [(0, w32 (x2 - 1)), (0, 0), (2, v0)]) (as := [(2, v0), (0, 0), (0, w32 (x2 - 1))]) (P := (fun v9 => ((0 : Nat), v9) :: [])) (tg := 0) (My := M_Reader_readNumber) (mRunV (as := [(0, 0), (0, w32 (x2 - 1))]) (st := []) d_Reader_readBar_47 (mc_Reader_readNumber (by decide)) rfl (mv_Reader_readNumber tb_ml_Reader_87) rfl (Nat.le_of_ble_eq_true rfl) ha) (fun v => rfl) rfl hr (fun r1 h1 => t_Reader_readNumber _ _ _ _ _ h1) (fun x9 h8 hr => ?_)
      refine j_istore_n (pc := 50) (ls' := [(2, v0), (2, v1), (0, x2), (0, x9), (0, x3)]) d_Reader_readBar_50 rfl ?_
      refine j_aload_n (pc := 51) d_Reader_readBar_51 rfl ?_
      obtain ⟨ha, hr⟩ := chk_some hr
      refine j_callG (pc := 52) (stk := [(2, v0)]) (as := [(2, v0)]) (P := (fun v9 => [])) (tg := 3) (My := M_Reader_readToken) (mRunV (as := []) (st := []) d_Reader_readBar_52 (mc_Reader_readToken (by decide)) rfl (mv_Reader_readToken tb_ml_Reader_39) rfl (Nat.le_of_ble_eq_true rfl) ha) (fun v => rfl) rfl hr (fun r1 h1 => t_Reader_readToken _ _ _ h1) (fun x11 h10 hr => ?_)
      exact mJ_weak (ls' := [(2, v0), (2, v1), (0, x2), (0, x9), (0, x3)]) (mwk_s (mwk_s (mwk_s (mwk_s (mwk_s mwk_n))))) (t_Reader_readBar_J55  hr)
  · refine j_aload_n (pc := 9) d_Reader_readBar_9 rfl ?_
    refine j_iconst (pc := 10) d_Reader_readBar_10 ?_
    obtain ⟨ha, hr⟩ := chk_some hr
    refine j_callG (pc := 11) (stk := [(0, 4), (2, v0)]) (as := [(2, v0), (0, 4)]) (P := (fun v9 => [])) (tg := 3) (My := M_Reader_blame) (mRunV (as := [(0, 4)]) (st := []) d_Reader_readBar_11 (mc_Reader_blame (by decide)) rfl (mv_Reader_blame tb_ml_Reader_68) rfl (Nat.le_of_ble_eq_true rfl) ha) (fun v => rfl) rfl hr (fun r1 h1 => t_Reader_blame _ _ _ _ h1) (fun x13 h12 hr => ?_)
    exact j_vret (pc := 14) d_Reader_readBar_14 rfl hr
def M_Box_addRule : mM := ("NineBars$Box", ⟨"NineBars$Box", "addRule", "(III)V"⟩, prog_2_method_5_code, 4, none, [], 1)
theorem tb_co_Box_addRule : mTB (Cond.code ⟨"NineBars$Box", "addRule", "(III)V"⟩ prog_2_method_5_code 4 (none)) := tbq4 83 (by decide +kernel) rfl
theorem mc_Box_addRule {M : mM} (hd : 1 < mDp M) : mCal M M_Box_addRule 3 := ⟨tb_co_Box_addRule, tb_in_NineBars_Box, ⟨by decide +kernel, by decide +kernel⟩, by decide +kernel, hd, by decide⟩
theorem d_Box_addRule_0 : decode prog_2_method_5_code 0 = .ok (.aload_n 0, 1) := by decide +kernel
theorem d_Box_addRule_1 : decode prog_2_method_5_code 1 = .ok (.getfield 55, 3) := by decide +kernel
theorem d_Box_addRule_4 : decode prog_2_method_5_code 4 = .ok (.bipush 24, 2) := by decide +kernel
theorem d_Box_addRule_6 : decode prog_2_method_5_code 6 = .ok (.if_icmp .lt 4, 3) := by decide +kernel
theorem d_Box_addRule_10 : decode prog_2_method_5_code 10 = .ok (.aload_n 0, 1) := by decide +kernel
theorem d_Box_addRule_11 : decode prog_2_method_5_code 11 = .ok (.getfield 27, 3) := by decide +kernel
theorem d_Box_addRule_14 : decode prog_2_method_5_code 14 = .ok (.aload_n 0, 1) := by decide +kernel
theorem d_Box_addRule_15 : decode prog_2_method_5_code 15 = .ok (.getfield 55, 3) := by decide +kernel
theorem d_Box_addRule_18 : decode prog_2_method_5_code 18 = .ok (.iload_n 1, 1) := by decide +kernel
theorem d_Box_addRule_19 : decode prog_2_method_5_code 19 = .ok (.iastore, 1) := by decide +kernel
theorem d_Box_addRule_20 : decode prog_2_method_5_code 20 = .ok (.aload_n 0, 1) := by decide +kernel
theorem d_Box_addRule_21 : decode prog_2_method_5_code 21 = .ok (.getfield 30, 3) := by decide +kernel
theorem d_Box_addRule_24 : decode prog_2_method_5_code 24 = .ok (.aload_n 0, 1) := by decide +kernel
theorem d_Box_addRule_25 : decode prog_2_method_5_code 25 = .ok (.getfield 55, 3) := by decide +kernel
theorem d_Box_addRule_28 : decode prog_2_method_5_code 28 = .ok (.iload_n 2, 1) := by decide +kernel
theorem d_Box_addRule_29 : decode prog_2_method_5_code 29 = .ok (.iastore, 1) := by decide +kernel
theorem d_Box_addRule_30 : decode prog_2_method_5_code 30 = .ok (.aload_n 0, 1) := by decide +kernel
theorem d_Box_addRule_31 : decode prog_2_method_5_code 31 = .ok (.getfield 33, 3) := by decide +kernel
theorem d_Box_addRule_34 : decode prog_2_method_5_code 34 = .ok (.aload_n 0, 1) := by decide +kernel
theorem d_Box_addRule_35 : decode prog_2_method_5_code 35 = .ok (.getfield 55, 3) := by decide +kernel
theorem d_Box_addRule_38 : decode prog_2_method_5_code 38 = .ok (.iload_n 3, 1) := by decide +kernel
theorem d_Box_addRule_39 : decode prog_2_method_5_code 39 = .ok (.iastore, 1) := by decide +kernel
theorem d_Box_addRule_40 : decode prog_2_method_5_code 40 = .ok (.aload_n 0, 1) := by decide +kernel
theorem d_Box_addRule_41 : decode prog_2_method_5_code 41 = .ok (.getfield 36, 3) := by decide +kernel
theorem d_Box_addRule_44 : decode prog_2_method_5_code 44 = .ok (.aload_n 0, 1) := by decide +kernel
theorem d_Box_addRule_45 : decode prog_2_method_5_code 45 = .ok (.getfield 55, 3) := by decide +kernel
theorem d_Box_addRule_48 : decode prog_2_method_5_code 48 = .ok (.iconst 0, 1) := by decide +kernel
theorem d_Box_addRule_49 : decode prog_2_method_5_code 49 = .ok (.iastore, 1) := by decide +kernel
theorem d_Box_addRule_50 : decode prog_2_method_5_code 50 = .ok (.aload_n 0, 1) := by decide +kernel
theorem d_Box_addRule_51 : decode prog_2_method_5_code 51 = .ok (.dup, 1) := by decide +kernel
theorem d_Box_addRule_52 : decode prog_2_method_5_code 52 = .ok (.getfield 55, 3) := by decide +kernel
theorem d_Box_addRule_55 : decode prog_2_method_5_code 55 = .ok (.iconst 1, 1) := by decide +kernel
theorem d_Box_addRule_56 : decode prog_2_method_5_code 56 = .ok (.iadd, 1) := by decide +kernel
theorem d_Box_addRule_57 : decode prog_2_method_5_code 57 = .ok (.putfield 55, 3) := by decide +kernel
theorem d_Box_addRule_60 : decode prog_2_method_5_code 60 = .ok (.return_, 1) := by decide +kernel
theorem d_Box_addRule_9 : decode prog_2_method_5_code 9 = .ok (.return_, 1) := by decide +kernel
theorem t_Box_addRule {G : mG} (h : mH) (v0 v1 v2 v3 : Int) (r : mR) (hr : f_Box_addRule h v0 v1 v2 v3 = some r) : mJM G M_Box_addRule [(2, v0), (0, v1), (0, v2), (0, v3)] h r := by
  refine mJM_of (L := [(2, v0), (0, v1), (0, v2), (0, v3)]) rfl rfl rfl (Nat.le_of_ble_eq_true rfl) ?_
  unfold f_Box_addRule at hr
  refine j_aload_n (pc := 0) d_Box_addRule_0 rfl ?_
  refine j_getf (pc := 1) d_Box_addRule_1 (fd_Box_55 rfl) hr (fun hr => ?_)
  refine j_bipush (pc := 4) d_Box_addRule_4 ?_
  refine j_icmp_lt (pc := 6) (tgt := 10) d_Box_addRule_6 hr (fun hr => ?_) (fun hr => ?_)
  · refine j_aload_n (pc := 10) d_Box_addRule_10 rfl ?_
    refine j_getf (pc := 11) d_Box_addRule_11 (fd_Box_27 rfl) hr (fun hr => ?_)
    refine j_aload_n (pc := 14) d_Box_addRule_14 rfl ?_
    refine j_getf (pc := 15) d_Box_addRule_15 (fd_Box_55 rfl) hr (fun hr => ?_)
    refine j_iload_n (pc := 18) d_Box_addRule_18 rfl ?_
    refine j_iastore (pc := 19) d_Box_addRule_19 hr (fun h1 hr => ?_)
    refine j_aload_n (pc := 20) d_Box_addRule_20 rfl ?_
    refine j_getf (pc := 21) d_Box_addRule_21 (fd_Box_30 rfl) hr (fun hr => ?_)
    refine j_aload_n (pc := 24) d_Box_addRule_24 rfl ?_
    refine j_getf (pc := 25) d_Box_addRule_25 (fd_Box_55 rfl) hr (fun hr => ?_)
    refine j_iload_n (pc := 28) d_Box_addRule_28 rfl ?_
    refine j_iastore (pc := 29) d_Box_addRule_29 hr (fun h2 hr => ?_)
    refine j_aload_n (pc := 30) d_Box_addRule_30 rfl ?_
    refine j_getf (pc := 31) d_Box_addRule_31 (fd_Box_33 rfl) hr (fun hr => ?_)
    refine j_aload_n (pc := 34) d_Box_addRule_34 rfl ?_
    refine j_getf (pc := 35) d_Box_addRule_35 (fd_Box_55 rfl) hr (fun hr => ?_)
    refine j_iload_n (pc := 38) d_Box_addRule_38 rfl ?_
    refine j_iastore (pc := 39) d_Box_addRule_39 hr (fun h3 hr => ?_)
    refine j_aload_n (pc := 40) d_Box_addRule_40 rfl ?_
    refine j_getf (pc := 41) d_Box_addRule_41 (fd_Box_36 rfl) hr (fun hr => ?_)
    refine j_aload_n (pc := 44) d_Box_addRule_44 rfl ?_
    refine j_getf (pc := 45) d_Box_addRule_45 (fd_Box_55 rfl) hr (fun hr => ?_)
    refine j_iconst (pc := 48) d_Box_addRule_48 ?_
    refine j_iastore (pc := 49) d_Box_addRule_49 hr (fun h4 hr => ?_)
    refine j_aload_n (pc := 50) d_Box_addRule_50 rfl ?_
    refine j_dup (pc := 51) d_Box_addRule_51 ?_
    refine j_getf (pc := 52) d_Box_addRule_52 (fd_Box_55 rfl) hr (fun hr => ?_)
    refine j_iconst (pc := 55) d_Box_addRule_55 ?_
    refine j_iadd (pc := 56) d_Box_addRule_56 ?_
    refine j_puti (pc := 57) d_Box_addRule_57 (fd_Box_55 rfl) (⟨_, _, _, rfl, Or.inl rfl, rfl⟩ : mFldW M_Box_addRule 55 0 3 .int) hr (fun h5 hr => ?_)
    exact j_vret (pc := 60) d_Box_addRule_60 rfl hr
  · exact j_vret (pc := 9) d_Box_addRule_9 rfl hr
def M_Box_placesOf : mM := ("NineBars$Box", ⟨"NineBars$Box", "placesOf", "(I)I"⟩, prog_2_method_7_code, 2, some .int, [], 1)
theorem tb_co_Box_placesOf : mTB (Cond.code ⟨"NineBars$Box", "placesOf", "(I)I"⟩ prog_2_method_7_code 2 (some .int)) := tbq4 73 (by decide +kernel) rfl
theorem mc_Box_placesOf {M : mM} (hd : 1 < mDp M) : mCal M M_Box_placesOf 1 := ⟨tb_co_Box_placesOf, tb_in_NineBars_Box, ⟨by decide +kernel, by decide +kernel⟩, by decide +kernel, hd, by decide⟩
theorem d_Box_placesOf_0 : decode prog_2_method_7_code 0 = .ok (.iload_n 1, 1) := by decide +kernel
theorem d_Box_placesOf_1 : decode prog_2_method_7_code 1 = .ok (.ifCond .lt 20, 3) := by decide +kernel
theorem d_Box_placesOf_21 : decode prog_2_method_7_code 21 = .ok (.iconst 0, 1) := by decide +kernel
theorem d_Box_placesOf_22 : decode prog_2_method_7_code 22 = .ok (.ireturn, 1) := by decide +kernel
theorem d_Box_placesOf_4 : decode prog_2_method_7_code 4 = .ok (.iload_n 1, 1) := by decide +kernel
theorem d_Box_placesOf_5 : decode prog_2_method_7_code 5 = .ok (.aload_n 0, 1) := by decide +kernel
theorem d_Box_placesOf_6 : decode prog_2_method_7_code 6 = .ok (.getfield 52, 3) := by decide +kernel
theorem d_Box_placesOf_9 : decode prog_2_method_7_code 9 = .ok (.if_icmp .ge 12, 3) := by decide +kernel
theorem d_Box_placesOf_12 : decode prog_2_method_7_code 12 = .ok (.aload_n 0, 1) := by decide +kernel
theorem d_Box_placesOf_13 : decode prog_2_method_7_code 13 = .ok (.getfield 9, 3) := by decide +kernel
theorem d_Box_placesOf_16 : decode prog_2_method_7_code 16 = .ok (.iload_n 1, 1) := by decide +kernel
theorem d_Box_placesOf_17 : decode prog_2_method_7_code 17 = .ok (.iaload, 1) := by decide +kernel
theorem d_Box_placesOf_18 : decode prog_2_method_7_code 18 = .ok (.goto 4, 3) := by decide +kernel
theorem t_Box_placesOf_J21 {G : mG} {r : mR} {h : mH}  (hr : f_Box_placesOf_J21 h = some r) : mJ G M_Box_placesOf 21 [(9, 0), (9, 0)] [] h r := by
  unfold f_Box_placesOf_J21 at hr
  refine j_iconst (pc := 21) d_Box_placesOf_21 ?_
  exact j_iret (pc := 22) d_Box_placesOf_22 rfl hr
theorem t_Box_placesOf {G : mG} (h : mH) (v0 v1 : Int) (r : mR) (hr : f_Box_placesOf h v0 v1 = some r) : mJM G M_Box_placesOf [(2, v0), (0, v1)] h r := by
  refine mJM_of (L := [(2, v0), (0, v1)]) rfl rfl rfl (Nat.le_of_ble_eq_true rfl) ?_
  unfold f_Box_placesOf at hr
  refine j_iload_n (pc := 0) d_Box_placesOf_0 rfl ?_
  refine j_if_lt (pc := 1) (tgt := 21) d_Box_placesOf_1 hr (fun hr => ?_) (fun hr => ?_)
  · exact mJ_weak (ls' := [(9, 0), (9, 0)]) (mwk_d (mwk_d mwk_n)) (t_Box_placesOf_J21  hr)
  · refine j_iload_n (pc := 4) d_Box_placesOf_4 rfl ?_
    refine j_aload_n (pc := 5) d_Box_placesOf_5 rfl ?_
    refine j_getf (pc := 6) d_Box_placesOf_6 (fd_Box_52 rfl) hr (fun hr => ?_)
    refine j_icmp_ge (pc := 9) (tgt := 21) d_Box_placesOf_9 hr (fun hr => ?_) (fun hr => ?_)
    · exact mJ_weak (ls' := [(9, 0), (9, 0)]) (mwk_d (mwk_d mwk_n)) (t_Box_placesOf_J21  hr)
    · refine j_aload_n (pc := 12) d_Box_placesOf_12 rfl ?_
      refine j_getf (pc := 13) d_Box_placesOf_13 (fd_Box_9 rfl) hr (fun hr => ?_)
      refine j_iload_n (pc := 16) d_Box_placesOf_16 rfl ?_
      refine j_iaload (pc := 17) d_Box_placesOf_17 hr (fun hr => ?_)
      refine j_goto (pc := 18) (tgt := 22) d_Box_placesOf_18 ?_
      exact j_iret (pc := 22) d_Box_placesOf_22 rfl hr
def M_Box_addFact : mM := ("NineBars$Box", ⟨"NineBars$Box", "addFact", "(III)V"⟩, prog_2_method_6_code, 6, none, [], 1)
theorem tb_co_Box_addFact : mTB (Cond.code ⟨"NineBars$Box", "addFact", "(III)V"⟩ prog_2_method_6_code 6 (none)) := tbq4 92 (by decide +kernel) rfl
theorem mc_Box_addFact {M : mM} (hd : 1 < mDp M) : mCal M M_Box_addFact 3 := ⟨tb_co_Box_addFact, tb_in_NineBars_Box, ⟨by decide +kernel, by decide +kernel⟩, by decide +kernel, hd, by decide⟩
theorem d_Box_addFact_0 : decode prog_2_method_6_code 0 = .ok (.aload_n 0, 1) := by decide +kernel
theorem d_Box_addFact_1 : decode prog_2_method_6_code 1 = .ok (.getfield 55, 3) := by decide +kernel
theorem d_Box_addFact_4 : decode prog_2_method_6_code 4 = .ok (.iconst 1, 1) := by decide +kernel
theorem d_Box_addFact_5 : decode prog_2_method_6_code 5 = .ok (.isub, 1) := by decide +kernel
theorem d_Box_addFact_6 : decode prog_2_method_6_code 6 = .ok (.istore 4, 2) := by decide +kernel
theorem d_Box_addFact_8 : decode prog_2_method_6_code 8 = .ok (.iload 4, 2) := by decide +kernel
theorem d_Box_addFact_10 : decode prog_2_method_6_code 10 = .ok (.ifCond .lt 14, 3) := by decide +kernel
theorem d_Box_addFact_24 : decode prog_2_method_6_code 24 = .ok (.return_, 1) := by decide +kernel
theorem d_Box_addFact_13 : decode prog_2_method_6_code 13 = .ok (.aload_n 0, 1) := by decide +kernel
theorem d_Box_addFact_14 : decode prog_2_method_6_code 14 = .ok (.getfield 36, 3) := by decide +kernel
theorem d_Box_addFact_17 : decode prog_2_method_6_code 17 = .ok (.iload 4, 2) := by decide +kernel
theorem d_Box_addFact_19 : decode prog_2_method_6_code 19 = .ok (.iaload, 1) := by decide +kernel
theorem d_Box_addFact_20 : decode prog_2_method_6_code 20 = .ok (.iconst 4, 1) := by decide +kernel
theorem d_Box_addFact_21 : decode prog_2_method_6_code 21 = .ok (.if_icmp .lt 4, 3) := by decide +kernel
theorem d_Box_addFact_25 : decode prog_2_method_6_code 25 = .ok (.iload 4, 2) := by decide +kernel
theorem d_Box_addFact_27 : decode prog_2_method_6_code 27 = .ok (.iconst 4, 1) := by decide +kernel
theorem d_Box_addFact_28 : decode prog_2_method_6_code 28 = .ok (.imul, 1) := by decide +kernel
theorem d_Box_addFact_29 : decode prog_2_method_6_code 29 = .ok (.aload_n 0, 1) := by decide +kernel
theorem d_Box_addFact_30 : decode prog_2_method_6_code 30 = .ok (.getfield 36, 3) := by decide +kernel
theorem d_Box_addFact_33 : decode prog_2_method_6_code 33 = .ok (.iload 4, 2) := by decide +kernel
theorem d_Box_addFact_35 : decode prog_2_method_6_code 35 = .ok (.iaload, 1) := by decide +kernel
theorem d_Box_addFact_36 : decode prog_2_method_6_code 36 = .ok (.iadd, 1) := by decide +kernel
theorem d_Box_addFact_37 : decode prog_2_method_6_code 37 = .ok (.istore 5, 2) := by decide +kernel
theorem d_Box_addFact_39 : decode prog_2_method_6_code 39 = .ok (.aload_n 0, 1) := by decide +kernel
theorem d_Box_addFact_40 : decode prog_2_method_6_code 40 = .ok (.getfield 39, 3) := by decide +kernel
theorem d_Box_addFact_43 : decode prog_2_method_6_code 43 = .ok (.iload 5, 2) := by decide +kernel
theorem d_Box_addFact_45 : decode prog_2_method_6_code 45 = .ok (.iload_n 1, 1) := by decide +kernel
theorem d_Box_addFact_46 : decode prog_2_method_6_code 46 = .ok (.iastore, 1) := by decide +kernel
theorem d_Box_addFact_47 : decode prog_2_method_6_code 47 = .ok (.aload_n 0, 1) := by decide +kernel
theorem d_Box_addFact_48 : decode prog_2_method_6_code 48 = .ok (.getfield 45, 3) := by decide +kernel
theorem d_Box_addFact_51 : decode prog_2_method_6_code 51 = .ok (.iload 5, 2) := by decide +kernel
theorem d_Box_addFact_53 : decode prog_2_method_6_code 53 = .ok (.iload_n 2, 1) := by decide +kernel
theorem d_Box_addFact_54 : decode prog_2_method_6_code 54 = .ok (.iastore, 1) := by decide +kernel
theorem d_Box_addFact_55 : decode prog_2_method_6_code 55 = .ok (.aload_n 0, 1) := by decide +kernel
theorem d_Box_addFact_56 : decode prog_2_method_6_code 56 = .ok (.getfield 42, 3) := by decide +kernel
theorem d_Box_addFact_59 : decode prog_2_method_6_code 59 = .ok (.iload 5, 2) := by decide +kernel
theorem d_Box_addFact_61 : decode prog_2_method_6_code 61 = .ok (.iload_n 3, 1) := by decide +kernel
theorem d_Box_addFact_62 : decode prog_2_method_6_code 62 = .ok (.iastore, 1) := by decide +kernel
theorem d_Box_addFact_63 : decode prog_2_method_6_code 63 = .ok (.aload_n 0, 1) := by decide +kernel
theorem d_Box_addFact_64 : decode prog_2_method_6_code 64 = .ok (.getfield 36, 3) := by decide +kernel
theorem d_Box_addFact_67 : decode prog_2_method_6_code 67 = .ok (.iload 4, 2) := by decide +kernel
theorem d_Box_addFact_69 : decode prog_2_method_6_code 69 = .ok (.dup2, 1) := by decide +kernel
theorem d_Box_addFact_70 : decode prog_2_method_6_code 70 = .ok (.iaload, 1) := by decide +kernel
theorem d_Box_addFact_71 : decode prog_2_method_6_code 71 = .ok (.iconst 1, 1) := by decide +kernel
theorem d_Box_addFact_72 : decode prog_2_method_6_code 72 = .ok (.iadd, 1) := by decide +kernel
theorem d_Box_addFact_73 : decode prog_2_method_6_code 73 = .ok (.iastore, 1) := by decide +kernel
theorem d_Box_addFact_74 : decode prog_2_method_6_code 74 = .ok (.return_, 1) := by decide +kernel
theorem t_Box_addFact {G : mG} (h : mH) (v0 v1 v2 v3 : Int) (r : mR) (hr : f_Box_addFact h v0 v1 v2 v3 = some r) : mJM G M_Box_addFact [(2, v0), (0, v1), (0, v2), (0, v3)] h r := by
  refine mJM_of (L := [(2, v0), (0, v1), (0, v2), (0, v3), (9, 0), (9, 0)]) rfl rfl rfl (Nat.le_of_ble_eq_true rfl) ?_
  unfold f_Box_addFact at hr
  refine j_aload_n (pc := 0) d_Box_addFact_0 rfl ?_
  refine j_getf (pc := 1) d_Box_addFact_1 (fd_Box_55 rfl) hr (fun hr => ?_)
  refine j_iconst (pc := 4) d_Box_addFact_4 ?_
  refine j_isub (pc := 5) d_Box_addFact_5 ?_
  refine j_istoreW (pc := 6) (L := fun x1 => [(2, v0), (0, v1), (0, v2), (0, v3), (0, x1), (9, 0)]) d_Box_addFact_6 (fun _ => rfl) hr (fun x1 hr => ?_)
  refine j_iload (pc := 8) d_Box_addFact_8 rfl ?_
  refine j_if_lt (pc := 10) (tgt := 24) d_Box_addFact_10 hr (fun hr => ?_) (fun hr => ?_)
  · exact j_vret (pc := 24) d_Box_addFact_24 rfl hr
  · refine j_aload_n (pc := 13) d_Box_addFact_13 rfl ?_
    refine j_getf (pc := 14) d_Box_addFact_14 (fd_Box_36 rfl) hr (fun hr => ?_)
    refine j_iload (pc := 17) d_Box_addFact_17 rfl ?_
    refine j_iaload (pc := 19) d_Box_addFact_19 hr (fun hr => ?_)
    refine j_iconst (pc := 20) d_Box_addFact_20 ?_
    refine j_icmp_lt (pc := 21) (tgt := 25) d_Box_addFact_21 hr (fun hr => ?_) (fun hr => ?_)
    · refine j_iload (pc := 25) d_Box_addFact_25 rfl ?_
      refine j_iconst (pc := 27) d_Box_addFact_27 ?_
      refine j_imul (pc := 28) d_Box_addFact_28 ?_
      refine j_aload_n (pc := 29) d_Box_addFact_29 rfl ?_
      refine j_getf (pc := 30) d_Box_addFact_30 (fd_Box_36 rfl) hr (fun hr => ?_)
      refine j_iload (pc := 33) d_Box_addFact_33 rfl ?_
      refine j_iaload (pc := 35) d_Box_addFact_35 hr (fun hr => ?_)
      refine j_iadd (pc := 36) d_Box_addFact_36 ?_
      refine j_istoreW (pc := 37) (L := fun x2 => [(2, v0), (0, v1), (0, v2), (0, v3), (0, x1), (0, x2)]) d_Box_addFact_37 (fun _ => rfl) hr (fun x2 hr => ?_)
      refine j_aload_n (pc := 39) d_Box_addFact_39 rfl ?_
      refine j_getf (pc := 40) d_Box_addFact_40 (fd_Box_39 rfl) hr (fun hr => ?_)
      refine j_iload (pc := 43) d_Box_addFact_43 rfl ?_
      refine j_iload_n (pc := 45) d_Box_addFact_45 rfl ?_
      refine j_iastore (pc := 46) d_Box_addFact_46 hr (fun h3 hr => ?_)
      refine j_aload_n (pc := 47) d_Box_addFact_47 rfl ?_
      refine j_getf (pc := 48) d_Box_addFact_48 (fd_Box_45 rfl) hr (fun hr => ?_)
      refine j_iload (pc := 51) d_Box_addFact_51 rfl ?_
      refine j_iload_n (pc := 53) d_Box_addFact_53 rfl ?_
      refine j_iastore (pc := 54) d_Box_addFact_54 hr (fun h4 hr => ?_)
      refine j_aload_n (pc := 55) d_Box_addFact_55 rfl ?_
      refine j_getf (pc := 56) d_Box_addFact_56 (fd_Box_42 rfl) hr (fun hr => ?_)
      refine j_iload (pc := 59) d_Box_addFact_59 rfl ?_
      refine j_iload_n (pc := 61) d_Box_addFact_61 rfl ?_
      refine j_iastore (pc := 62) d_Box_addFact_62 hr (fun h5 hr => ?_)
      refine j_aload_n (pc := 63) d_Box_addFact_63 rfl ?_
      refine j_getf (pc := 64) d_Box_addFact_64 (fd_Box_36 rfl) hr (fun hr => ?_)
      refine j_iload (pc := 67) d_Box_addFact_67 rfl ?_
      refine j_dup2 (pc := 69) d_Box_addFact_69 ?_
      refine j_iaload (pc := 70) d_Box_addFact_70 hr (fun hr => ?_)
      refine j_iconst (pc := 71) d_Box_addFact_71 ?_
      refine j_iadd (pc := 72) d_Box_addFact_72 ?_
      refine j_iastore (pc := 73) d_Box_addFact_73 hr (fun h6 hr => ?_)
      exact j_vret (pc := 74) d_Box_addFact_74 rfl hr
    · exact j_vret (pc := 24) d_Box_addFact_24 rfl hr
def M_Reader_readFact : mM := ("NineBars$Reader", ⟨"NineBars$Reader", "readFact", "(LNineBars$Box;I)V"⟩, prog_10_method_11_code, 6, none, [], 7)
theorem tb_co_Reader_readFact : mTB (Cond.code ⟨"NineBars$Reader", "readFact", "(LNineBars$Box;I)V"⟩ prog_10_method_11_code 6 (none)) := tbq4 87 (by decide +kernel) rfl
theorem mc_Reader_readFact {M : mM} (hd : 7 < mDp M) : mCal M M_Reader_readFact 2 := ⟨tb_co_Reader_readFact, tb_in_NineBars_Reader, ⟨by decide +kernel, by decide +kernel⟩, by decide +kernel, hd, by decide⟩
theorem d_Reader_readFact_0 : decode prog_10_method_11_code 0 = .ok (.aload_n 0, 1) := by decide +kernel
theorem d_Reader_readFact_1 : decode prog_10_method_11_code 1 = .ok (.iconst 0, 1) := by decide +kernel
theorem d_Reader_readFact_2 : decode prog_10_method_11_code 2 = .ok (.aload_n 1, 1) := by decide +kernel
theorem d_Reader_readFact_3 : decode prog_10_method_11_code 3 = .ok (.getfield 84, 3) := by decide +kernel
theorem d_Reader_readFact_6 : decode prog_10_method_11_code 6 = .ok (.iconst 1, 1) := by decide +kernel
theorem d_Reader_readFact_7 : decode prog_10_method_11_code 7 = .ok (.isub, 1) := by decide +kernel
theorem d_Reader_readFact_8 : decode prog_10_method_11_code 8 = .ok (.invokevirtual 87, 3) := by decide +kernel
theorem d_Reader_readFact_11 : decode prog_10_method_11_code 11 = .ok (.istore_n 3, 1) := by decide +kernel
theorem d_Reader_readFact_12 : decode prog_10_method_11_code 12 = .ok (.iload_n 3, 1) := by decide +kernel
theorem d_Reader_readFact_13 : decode prog_10_method_11_code 13 = .ok (.iload_n 2, 1) := by decide +kernel
theorem d_Reader_readFact_14 : decode prog_10_method_11_code 14 = .ok (.if_icmp .ne 8, 3) := by decide +kernel
theorem d_Reader_readFact_22 : decode prog_10_method_11_code 22 = .ok (.aload_n 0, 1) := by decide +kernel
theorem d_Reader_readFact_23 : decode prog_10_method_11_code 23 = .ok (.invokevirtual 39, 3) := by decide +kernel
theorem d_Reader_readFact_26 : decode prog_10_method_11_code 26 = .ok (.aload_n 0, 1) := by decide +kernel
theorem d_Reader_readFact_27 : decode prog_10_method_11_code 27 = .ok (.ldc 131, 2) := by decide +kernel
theorem d_Reader_readFact_29 : decode prog_10_method_11_code 29 = .ok (.invokevirtual 64, 3) := by decide +kernel
theorem d_Reader_readFact_32 : decode prog_10_method_11_code 32 = .ok (.ifCond .eq 7, 3) := by decide +kernel
theorem d_Reader_readFact_39 : decode prog_10_method_11_code 39 = .ok (.iconst 0, 1) := by decide +kernel
theorem d_Reader_readFact_40 : decode prog_10_method_11_code 40 = .ok (.istore 4, 2) := by decide +kernel
theorem d_Reader_readFact_42 : decode prog_10_method_11_code 42 = .ok (.iload 4, 2) := by decide +kernel
theorem d_Reader_readFact_44 : decode prog_10_method_11_code 44 = .ok (.ifCond .ne 17, 3) := by decide +kernel
theorem d_Reader_readFact_61 : decode prog_10_method_11_code 61 = .ok (.aload_n 0, 1) := by decide +kernel
theorem d_Reader_readFact_62 : decode prog_10_method_11_code 62 = .ok (.iconst 0, 1) := by decide +kernel
theorem d_Reader_readFact_63 : decode prog_10_method_11_code 63 = .ok (.aload_n 1, 1) := by decide +kernel
theorem d_Reader_readFact_64 : decode prog_10_method_11_code 64 = .ok (.iload_n 3, 1) := by decide +kernel
theorem d_Reader_readFact_65 : decode prog_10_method_11_code 65 = .ok (.invokevirtual 110, 3) := by decide +kernel
theorem tb_ml_Reader_110 : mTB (Cond.methodLink "NineBars$Reader" 110 ⟨"NineBars$Box", "placesOf", "(I)I"⟩) := tbq4 70 (by decide +kernel) rfl
theorem tb_im_Box_placesOf : mTB (Cond.instanceMethod ⟨"NineBars$Box", "placesOf", "(I)I"⟩) := tbq4 71 (by decide +kernel) rfl
theorem tb_se_Box_placesOf : mTB (Cond.selects "NineBars$Box" ⟨"NineBars$Box", "placesOf", "(I)I"⟩ ⟨"NineBars$Box", "placesOf", "(I)I"⟩) := tbq4 72 (by decide +kernel) rfl
theorem mv_Box_placesOf {M : mM} {idx : Nat} (h : mTB (Cond.methodLink (mO M) idx ⟨"NineBars$Box", "placesOf", "(I)I"⟩)) : mCaV M M_Box_placesOf idx 0 := ⟨h, tb_im_Box_placesOf, tb_se_Box_placesOf, by decide, TX0, 18, rfl⟩
theorem d_Reader_readFact_68 : decode prog_10_method_11_code 68 = .ok (.iconst 1, 1) := by decide +kernel
theorem d_Reader_readFact_69 : decode prog_10_method_11_code 69 = .ok (.isub, 1) := by decide +kernel
theorem d_Reader_readFact_70 : decode prog_10_method_11_code 70 = .ok (.invokevirtual 87, 3) := by decide +kernel
theorem d_Reader_readFact_73 : decode prog_10_method_11_code 73 = .ok (.istore 5, 2) := by decide +kernel
theorem d_Reader_readFact_75 : decode prog_10_method_11_code 75 = .ok (.aload_n 0, 1) := by decide +kernel
theorem d_Reader_readFact_76 : decode prog_10_method_11_code 76 = .ok (.getfield 31, 3) := by decide +kernel
theorem d_Reader_readFact_79 : decode prog_10_method_11_code 79 = .ok (.ifCond .ne 12, 3) := by decide +kernel
theorem d_Reader_readFact_91 : decode prog_10_method_11_code 91 = .ok (.aload_n 0, 1) := by decide +kernel
theorem d_Reader_readFact_92 : decode prog_10_method_11_code 92 = .ok (.invokevirtual 39, 3) := by decide +kernel
theorem d_Reader_readFact_95 : decode prog_10_method_11_code 95 = .ok (.return_, 1) := by decide +kernel
theorem d_Reader_readFact_82 : decode prog_10_method_11_code 82 = .ok (.aload_n 1, 1) := by decide +kernel
theorem d_Reader_readFact_83 : decode prog_10_method_11_code 83 = .ok (.iload_n 3, 1) := by decide +kernel
theorem d_Reader_readFact_84 : decode prog_10_method_11_code 84 = .ok (.iload 4, 2) := by decide +kernel
theorem d_Reader_readFact_86 : decode prog_10_method_11_code 86 = .ok (.iload 5, 2) := by decide +kernel
theorem d_Reader_readFact_88 : decode prog_10_method_11_code 88 = .ok (.invokevirtual 133, 3) := by decide +kernel
theorem tb_ml_Reader_133 : mTB (Cond.methodLink "NineBars$Reader" 133 ⟨"NineBars$Box", "addFact", "(III)V"⟩) := tbq4 89 (by decide +kernel) rfl
theorem tb_im_Box_addFact : mTB (Cond.instanceMethod ⟨"NineBars$Box", "addFact", "(III)V"⟩) := tbq4 90 (by decide +kernel) rfl
theorem tb_se_Box_addFact : mTB (Cond.selects "NineBars$Box" ⟨"NineBars$Box", "addFact", "(III)V"⟩ ⟨"NineBars$Box", "addFact", "(III)V"⟩) := tbq4 91 (by decide +kernel) rfl
theorem mv_Box_addFact {M : mM} {idx : Nat} (h : mTB (Cond.methodLink (mO M) idx ⟨"NineBars$Box", "addFact", "(III)V"⟩)) : mCaV M M_Box_addFact idx 0 := ⟨h, tb_im_Box_addFact, tb_se_Box_addFact, by decide, TX0, 18, rfl⟩
theorem d_Reader_readFact_47 : decode prog_10_method_11_code 47 = .ok (.aload_n 0, 1) := by decide +kernel
theorem d_Reader_readFact_48 : decode prog_10_method_11_code 48 = .ok (.ldc 99, 2) := by decide +kernel
theorem d_Reader_readFact_50 : decode prog_10_method_11_code 50 = .ok (.invokevirtual 64, 3) := by decide +kernel
theorem d_Reader_readFact_53 : decode prog_10_method_11_code 53 = .ok (.ifCond .ne 8, 3) := by decide +kernel
theorem d_Reader_readFact_56 : decode prog_10_method_11_code 56 = .ok (.aload_n 0, 1) := by decide +kernel
theorem d_Reader_readFact_57 : decode prog_10_method_11_code 57 = .ok (.iconst 2, 1) := by decide +kernel
theorem d_Reader_readFact_58 : decode prog_10_method_11_code 58 = .ok (.invokevirtual 68, 3) := by decide +kernel
theorem d_Reader_readFact_35 : decode prog_10_method_11_code 35 = .ok (.iconst 1, 1) := by decide +kernel
theorem d_Reader_readFact_36 : decode prog_10_method_11_code 36 = .ok (.goto 4, 3) := by decide +kernel
theorem d_Reader_readFact_17 : decode prog_10_method_11_code 17 = .ok (.aload_n 0, 1) := by decide +kernel
theorem d_Reader_readFact_18 : decode prog_10_method_11_code 18 = .ok (.iconst 3, 1) := by decide +kernel
theorem d_Reader_readFact_19 : decode prog_10_method_11_code 19 = .ok (.invokevirtual 68, 3) := by decide +kernel
theorem t_Reader_readFact_J91 {G : mG} {r : mR} {v0 : Int} {h : mH}  (hr : f_Reader_readFact_J91 v0 h = some r) : mJ G M_Reader_readFact 91 [(2, v0), (9, 0), (9, 0), (9, 0), (9, 0), (9, 0)] [] h r := by
  unfold f_Reader_readFact_J91 at hr
  refine j_aload_n (pc := 91) d_Reader_readFact_91 rfl ?_
  obtain ⟨ha, hr⟩ := chk_some hr
  refine j_callG (pc := 92) (stk := [(2, v0)]) (as := [(2, v0)]) (P := (fun v9 => [])) (tg := 3) (My := M_Reader_readToken) (mRunV (as := []) (st := []) d_Reader_readFact_92 (mc_Reader_readToken (by decide)) rfl (mv_Reader_readToken tb_ml_Reader_39) rfl (Nat.le_of_ble_eq_true rfl) ha) (fun v => rfl) rfl hr (fun r1 h1 => t_Reader_readToken _ _ _ h1) (fun x2 h1 hr => ?_)
  exact j_vret (pc := 95) d_Reader_readFact_95 rfl hr
theorem t_Reader_readFact_J61 {G : mG} {r : mR} {v0 v1 v3 v4 : Int} {h : mH}  (hr : f_Reader_readFact_J61 v0 v1 v3 v4 h = some r) : mJ G M_Reader_readFact 61 [(2, v0), (2, v1), (9, 0), (0, v3), (0, v4), (9, 0)] [] h r := by
  unfold f_Reader_readFact_J61 at hr
  refine j_aload_n (pc := 61) d_Reader_readFact_61 rfl ?_
  refine j_iconst (pc := 62) d_Reader_readFact_62 ?_
  refine j_aload_n (pc := 63) d_Reader_readFact_63 rfl ?_
  refine j_iload_n (pc := 64) d_Reader_readFact_64 rfl ?_
  obtain ⟨ha, hr⟩ := chk_some hr
  refine j_callG (pc := 65) (stk := [(0, v3), (2, v1), (0, 0), (2, v0)]) (as := [(2, v1), (0, v3)]) (P := (fun v9 => ((0 : Nat), v9) :: [(0, 0), (2, v0)])) (tg := 0) (My := M_Box_placesOf) (mRunV (as := [(0, v3)]) (st := [(0, 0), (2, v0)]) d_Reader_readFact_65 (mc_Box_placesOf (by decide)) rfl (mv_Box_placesOf tb_ml_Reader_110) rfl (Nat.le_of_ble_eq_true rfl) ha) (fun v => rfl) rfl hr (fun r1 h1 => t_Box_placesOf _ _ _ _ h1) (fun x2 h1 hr => ?_)
  refine j_iconst (pc := 68) d_Reader_readFact_68 ?_
  refine j_isub (pc := 69) d_Reader_readFact_69 ?_
  obtain ⟨ha, hr⟩ := chk_some hr
  refine j_callG (pc := 70) (stk := [(0, w32 (x2 - 1)), (0, 0), (2, v0)]) (as := [(2, v0), (0, 0), (0, w32 (x2 - 1))]) (P := (fun v9 => ((0 : Nat), v9) :: [])) (tg := 0) (My := M_Reader_readNumber) (mRunV (as := [(0, 0), (0, w32 (x2 - 1))]) (st := []) d_Reader_readFact_70 (mc_Reader_readNumber (by decide)) rfl (mv_Reader_readNumber tb_ml_Reader_87) rfl (Nat.le_of_ble_eq_true rfl) ha) (fun v => rfl) rfl hr (fun r1 h1 => t_Reader_readNumber _ _ _ _ _ h1) (fun x4 h3 hr => ?_)
  refine j_istore (pc := 73) (ls' := [(2, v0), (2, v1), (9, 0), (0, v3), (0, v4), (0, x4)]) d_Reader_readFact_73 rfl ?_
  refine j_aload_n (pc := 75) d_Reader_readFact_75 rfl ?_
  refine j_getf (pc := 76) d_Reader_readFact_76 (fd_Reader_31 rfl) hr (fun hr => ?_)
  refine j_if_ne (pc := 79) (tgt := 91) d_Reader_readFact_79 hr (fun hr => ?_) (fun hr => ?_)
  · exact mJ_weak (ls' := [(2, v0), (9, 0), (9, 0), (9, 0), (9, 0), (9, 0)]) (mwk_s (mwk_d (mwk_s (mwk_d (mwk_d (mwk_d mwk_n)))))) (t_Reader_readFact_J91  hr)
  · refine j_aload_n (pc := 82) d_Reader_readFact_82 rfl ?_
    refine j_iload_n (pc := 83) d_Reader_readFact_83 rfl ?_
    refine j_iload (pc := 84) d_Reader_readFact_84 rfl ?_
    refine j_iload (pc := 86) d_Reader_readFact_86 rfl ?_
    obtain ⟨ha, hr⟩ := chk_some hr
    refine j_callG (pc := 88) (stk := [(0, x4), (0, v4), (0, v3), (2, v1)]) (as := [(2, v1), (0, v3), (0, v4), (0, x4)]) (P := (fun v9 => [])) (tg := 3) (My := M_Box_addFact) (mRunV (as := [(0, v3), (0, v4), (0, x4)]) (st := []) d_Reader_readFact_88 (mc_Box_addFact (by decide)) rfl (mv_Box_addFact tb_ml_Reader_133) rfl (Nat.le_of_ble_eq_true rfl) ha) (fun v => rfl) rfl hr (fun r1 h1 => t_Box_addFact _ _ _ _ _ _ h1) (fun x6 h5 hr => ?_)
    exact mJ_weak (ls' := [(2, v0), (9, 0), (9, 0), (9, 0), (9, 0), (9, 0)]) (mwk_s (mwk_d (mwk_s (mwk_d (mwk_d (mwk_d mwk_n)))))) (t_Reader_readFact_J91  hr)
theorem t_Reader_readFact_J40 {G : mG} {r : mR} {v0 v1 v3 s0 : Int} {h : mH}  (hr : f_Reader_readFact_J40 v0 v1 v3 s0 h = some r) : mJ G M_Reader_readFact 40 [(2, v0), (2, v1), (9, 0), (0, v3), (9, 0), (9, 0)] [(0, s0)] h r := by
  unfold f_Reader_readFact_J40 at hr
  refine j_istore (pc := 40) (ls' := [(2, v0), (2, v1), (9, 0), (0, v3), (0, s0), (9, 0)]) d_Reader_readFact_40 rfl ?_
  refine j_iload (pc := 42) d_Reader_readFact_42 rfl ?_
  refine j_if_ne (pc := 44) (tgt := 61) d_Reader_readFact_44 hr (fun hr => ?_) (fun hr => ?_)
  · exact mJ_weak (ls' := [(2, v0), (2, v1), (9, 0), (0, v3), (0, s0), (9, 0)]) (mwk_s (mwk_s (mwk_s (mwk_s (mwk_s (mwk_s mwk_n)))))) (t_Reader_readFact_J61  hr)
  · refine j_aload_n (pc := 47) d_Reader_readFact_47 rfl ?_
    refine j_ldcS (pc := 48) (tx := "at") (k := 4) d_Reader_readFact_48 (by decide +kernel) ?_
    obtain ⟨ha, hr⟩ := chk_some hr
    refine j_callG (pc := 50) (stk := [(2, (-(((4 : Nat) : Int) + 2))), (2, v0)]) (as := [(2, v0), (2, (-(((4 : Nat) : Int) + 2)))]) (P := (fun v9 => ((0 : Nat), v9) :: [])) (tg := 0) (My := M_Reader_spells) (mRunV (as := [(2, (-(((4 : Nat) : Int) + 2)))]) (st := []) d_Reader_readFact_50 (mc_Reader_spells (by decide)) rfl (mv_Reader_spells tb_ml_Reader_64) rfl (Nat.le_of_ble_eq_true rfl) ha) (fun v => rfl) rfl hr (fun r1 h1 => t_Reader_spells _ _ _ _ h1) (fun x2 h1 hr => ?_)
    refine j_if_ne (pc := 53) (tgt := 61) d_Reader_readFact_53 hr (fun hr => ?_) (fun hr => ?_)
    · exact mJ_weak (ls' := [(2, v0), (2, v1), (9, 0), (0, v3), (0, s0), (9, 0)]) (mwk_s (mwk_s (mwk_s (mwk_s (mwk_s (mwk_s mwk_n)))))) (t_Reader_readFact_J61  hr)
    · refine j_aload_n (pc := 56) d_Reader_readFact_56 rfl ?_
      refine j_iconst (pc := 57) d_Reader_readFact_57 ?_
      obtain ⟨ha, hr⟩ := chk_some hr
      refine j_callG (pc := 58) (stk := [(0, 2), (2, v0)]) (as := [(2, v0), (0, 2)]) (P := (fun v9 => [])) (tg := 3) (My := M_Reader_blame) (mRunV (as := [(0, 2)]) (st := []) d_Reader_readFact_58 (mc_Reader_blame (by decide)) rfl (mv_Reader_blame tb_ml_Reader_68) rfl (Nat.le_of_ble_eq_true rfl) ha) (fun v => rfl) rfl hr (fun r1 h1 => t_Reader_blame _ _ _ _ h1) (fun x4 h3 hr => ?_)
      exact mJ_weak (ls' := [(2, v0), (2, v1), (9, 0), (0, v3), (0, s0), (9, 0)]) (mwk_s (mwk_s (mwk_s (mwk_s (mwk_s (mwk_s mwk_n)))))) (t_Reader_readFact_J61  hr)
theorem t_Reader_readFact_J22 {G : mG} {r : mR} {v0 v1 v3 : Int} {h : mH}  (hr : f_Reader_readFact_J22 v0 v1 v3 h = some r) : mJ G M_Reader_readFact 22 [(2, v0), (2, v1), (9, 0), (0, v3), (9, 0), (9, 0)] [] h r := by
  unfold f_Reader_readFact_J22 at hr
  refine j_aload_n (pc := 22) d_Reader_readFact_22 rfl ?_
  obtain ⟨ha, hr⟩ := chk_some hr
  refine j_callG (pc := 23) (stk := [(2, v0)]) (as := [(2, v0)]) (P := (fun v9 => [])) (tg := 3) (My := M_Reader_readToken) (mRunV (as := []) (st := []) d_Reader_readFact_23 (mc_Reader_readToken (by decide)) rfl (mv_Reader_readToken tb_ml_Reader_39) rfl (Nat.le_of_ble_eq_true rfl) ha) (fun v => rfl) rfl hr (fun r1 h1 => t_Reader_readToken _ _ _ h1) (fun x2 h1 hr => ?_)
  refine j_aload_n (pc := 26) d_Reader_readFact_26 rfl ?_
  refine j_ldcS (pc := 27) (tx := "not") (k := 9) d_Reader_readFact_27 (by decide +kernel) ?_
  obtain ⟨ha, hr⟩ := chk_some hr
  refine j_callG (pc := 29) (stk := [(2, (-(((9 : Nat) : Int) + 2))), (2, v0)]) (as := [(2, v0), (2, (-(((9 : Nat) : Int) + 2)))]) (P := (fun v9 => ((0 : Nat), v9) :: [])) (tg := 0) (My := M_Reader_spells) (mRunV (as := [(2, (-(((9 : Nat) : Int) + 2)))]) (st := []) d_Reader_readFact_29 (mc_Reader_spells (by decide)) rfl (mv_Reader_spells tb_ml_Reader_64) rfl (Nat.le_of_ble_eq_true rfl) ha) (fun v => rfl) rfl hr (fun r1 h1 => t_Reader_spells _ _ _ _ h1) (fun x4 h3 hr => ?_)
  refine j_if_eq (pc := 32) (tgt := 39) d_Reader_readFact_32 hr (fun hr => ?_) (fun hr => ?_)
  · refine j_iconst (pc := 39) d_Reader_readFact_39 ?_
    exact mJ_weak (ls' := [(2, v0), (2, v1), (9, 0), (0, v3), (9, 0), (9, 0)]) (mwk_s (mwk_s (mwk_s (mwk_s (mwk_s (mwk_s mwk_n)))))) (t_Reader_readFact_J40  hr)
  · refine j_iconst (pc := 35) d_Reader_readFact_35 ?_
    refine j_goto (pc := 36) (tgt := 40) d_Reader_readFact_36 ?_
    exact mJ_weak (ls' := [(2, v0), (2, v1), (9, 0), (0, v3), (9, 0), (9, 0)]) (mwk_s (mwk_s (mwk_s (mwk_s (mwk_s (mwk_s mwk_n)))))) (t_Reader_readFact_J40  hr)
theorem t_Reader_readFact {G : mG} (h : mH) (v0 v1 v2 : Int) (r : mR) (hr : f_Reader_readFact h v0 v1 v2 = some r) : mJM G M_Reader_readFact [(2, v0), (2, v1), (0, v2)] h r := by
  refine mJM_of (L := [(2, v0), (2, v1), (0, v2), (9, 0), (9, 0), (9, 0)]) rfl rfl rfl (Nat.le_of_ble_eq_true rfl) ?_
  unfold f_Reader_readFact at hr
  refine j_aload_n (pc := 0) d_Reader_readFact_0 rfl ?_
  refine j_iconst (pc := 1) d_Reader_readFact_1 ?_
  refine j_aload_n (pc := 2) d_Reader_readFact_2 rfl ?_
  refine j_getf (pc := 3) d_Reader_readFact_3 (fd_Reader_84 rfl) hr (fun hr => ?_)
  refine j_iconst (pc := 6) d_Reader_readFact_6 ?_
  refine j_isub (pc := 7) d_Reader_readFact_7 ?_
  obtain ⟨ha, hr⟩ := chk_some hr
  refine j_callG (pc := 8) (stk := [(0, w32 ((hpV h v1 2) - 1)), (0, 0), (2, v0)]) (as := [(2, v0), (0, 0), (0, w32 ((hpV h v1 2) - 1))]) (P := (fun v9 => ((0 : Nat), v9) :: [])) (tg := 0) (My := M_Reader_readNumber) (mRunV (as := [(0, 0), (0, w32 ((hpV h v1 2) - 1))]) (st := []) d_Reader_readFact_8 (mc_Reader_readNumber (by decide)) rfl (mv_Reader_readNumber tb_ml_Reader_87) rfl (Nat.le_of_ble_eq_true rfl) ha) (fun v => rfl) rfl hr (fun r1 h1 => t_Reader_readNumber _ _ _ _ _ h1) (fun x2 h1 hr => ?_)
  refine j_istore_n (pc := 11) (ls' := [(2, v0), (2, v1), (0, v2), (0, x2), (9, 0), (9, 0)]) d_Reader_readFact_11 rfl ?_
  refine j_iload_n (pc := 12) d_Reader_readFact_12 rfl ?_
  refine j_iload_n (pc := 13) d_Reader_readFact_13 rfl ?_
  refine j_icmp_ne (pc := 14) (tgt := 22) d_Reader_readFact_14 hr (fun hr => ?_) (fun hr => ?_)
  · exact mJ_weak (ls' := [(2, v0), (2, v1), (9, 0), (0, x2), (9, 0), (9, 0)]) (mwk_s (mwk_s (mwk_d (mwk_s (mwk_s (mwk_s mwk_n)))))) (t_Reader_readFact_J22  hr)
  · refine j_aload_n (pc := 17) d_Reader_readFact_17 rfl ?_
    refine j_iconst (pc := 18) d_Reader_readFact_18 ?_
    obtain ⟨ha, hr⟩ := chk_some hr
    refine j_callG (pc := 19) (stk := [(0, 3), (2, v0)]) (as := [(2, v0), (0, 3)]) (P := (fun v9 => [])) (tg := 3) (My := M_Reader_blame) (mRunV (as := [(0, 3)]) (st := []) d_Reader_readFact_19 (mc_Reader_blame (by decide)) rfl (mv_Reader_blame tb_ml_Reader_68) rfl (Nat.le_of_ble_eq_true rfl) ha) (fun v => rfl) rfl hr (fun r1 h1 => t_Reader_blame _ _ _ _ h1) (fun x4 h3 hr => ?_)
    exact mJ_weak (ls' := [(2, v0), (2, v1), (9, 0), (0, x2), (9, 0), (9, 0)]) (mwk_s (mwk_s (mwk_d (mwk_s (mwk_s (mwk_s mwk_n)))))) (t_Reader_readFact_J22  hr)
def M_Reader_readWord : mM := ("NineBars$Reader", ⟨"NineBars$Reader", "readWord", "(Ljava/lang/String;)V"⟩, prog_10_method_6_code, 2, none, [], 7)
theorem tb_co_Reader_readWord : mTB (Cond.code ⟨"NineBars$Reader", "readWord", "(Ljava/lang/String;)V"⟩ prog_10_method_6_code 2 (none)) := tbq4 78 (by decide +kernel) rfl
theorem mc_Reader_readWord {M : mM} (hd : 7 < mDp M) : mCal M M_Reader_readWord 1 := ⟨tb_co_Reader_readWord, tb_in_NineBars_Reader, ⟨by decide +kernel, by decide +kernel⟩, by decide +kernel, hd, by decide⟩
theorem d_Reader_readWord_0 : decode prog_10_method_6_code 0 = .ok (.aload_n 0, 1) := by decide +kernel
theorem d_Reader_readWord_1 : decode prog_10_method_6_code 1 = .ok (.invokevirtual 39, 3) := by decide +kernel
theorem d_Reader_readWord_4 : decode prog_10_method_6_code 4 = .ok (.aload_n 0, 1) := by decide +kernel
theorem d_Reader_readWord_5 : decode prog_10_method_6_code 5 = .ok (.aload_n 1, 1) := by decide +kernel
theorem d_Reader_readWord_6 : decode prog_10_method_6_code 6 = .ok (.invokevirtual 64, 3) := by decide +kernel
theorem d_Reader_readWord_9 : decode prog_10_method_6_code 9 = .ok (.ifCond .ne 8, 3) := by decide +kernel
theorem d_Reader_readWord_17 : decode prog_10_method_6_code 17 = .ok (.return_, 1) := by decide +kernel
theorem d_Reader_readWord_12 : decode prog_10_method_6_code 12 = .ok (.aload_n 0, 1) := by decide +kernel
theorem d_Reader_readWord_13 : decode prog_10_method_6_code 13 = .ok (.iconst 2, 1) := by decide +kernel
theorem d_Reader_readWord_14 : decode prog_10_method_6_code 14 = .ok (.invokevirtual 68, 3) := by decide +kernel
theorem t_Reader_readWord {G : mG} (h : mH) (v0 v1 : Int) (r : mR) (hr : f_Reader_readWord h v0 v1 = some r) : mJM G M_Reader_readWord [(2, v0), (2, v1)] h r := by
  refine mJM_of (L := [(2, v0), (2, v1)]) rfl rfl rfl (Nat.le_of_ble_eq_true rfl) ?_
  unfold f_Reader_readWord at hr
  refine j_aload_n (pc := 0) d_Reader_readWord_0 rfl ?_
  obtain ⟨ha, hr⟩ := chk_some hr
  refine j_callG (pc := 1) (stk := [(2, v0)]) (as := [(2, v0)]) (P := (fun v9 => [])) (tg := 3) (My := M_Reader_readToken) (mRunV (as := []) (st := []) d_Reader_readWord_1 (mc_Reader_readToken (by decide)) rfl (mv_Reader_readToken tb_ml_Reader_39) rfl (Nat.le_of_ble_eq_true rfl) ha) (fun v => rfl) rfl hr (fun r1 h1 => t_Reader_readToken _ _ _ h1) (fun x2 h1 hr => ?_)
  refine j_aload_n (pc := 4) d_Reader_readWord_4 rfl ?_
  refine j_aload_n (pc := 5) d_Reader_readWord_5 rfl ?_
  obtain ⟨ha, hr⟩ := chk_some hr
  refine j_callG (pc := 6) (stk := [(2, v1), (2, v0)]) (as := [(2, v0), (2, v1)]) (P := (fun v9 => ((0 : Nat), v9) :: [])) (tg := 0) (My := M_Reader_spells) (mRunV (as := [(2, v1)]) (st := []) d_Reader_readWord_6 (mc_Reader_spells (by decide)) rfl (mv_Reader_spells tb_ml_Reader_64) rfl (Nat.le_of_ble_eq_true rfl) ha) (fun v => rfl) rfl hr (fun r1 h1 => t_Reader_spells _ _ _ _ h1) (fun x4 h3 hr => ?_)
  refine j_if_ne (pc := 9) (tgt := 17) d_Reader_readWord_9 hr (fun hr => ?_) (fun hr => ?_)
  · exact j_vret (pc := 17) d_Reader_readWord_17 rfl hr
  · refine j_aload_n (pc := 12) d_Reader_readWord_12 rfl ?_
    refine j_iconst (pc := 13) d_Reader_readWord_13 ?_
    obtain ⟨ha, hr⟩ := chk_some hr
    refine j_callG (pc := 14) (stk := [(0, 2), (2, v0)]) (as := [(2, v0), (0, 2)]) (P := (fun v9 => [])) (tg := 3) (My := M_Reader_blame) (mRunV (as := [(0, 2)]) (st := []) d_Reader_readWord_14 (mc_Reader_blame (by decide)) rfl (mv_Reader_blame tb_ml_Reader_68) rfl (Nat.le_of_ble_eq_true rfl) ha) (fun v => rfl) rfl hr (fun r1 h1 => t_Reader_blame _ _ _ _ h1) (fun x6 h5 hr => ?_)
    exact j_vret (pc := 17) d_Reader_readWord_17 rfl hr
def M_Reader_readRule : mM := ("NineBars$Reader", ⟨"NineBars$Reader", "readRule", "(LNineBars$Box;)V"⟩, prog_10_method_10_code, 6, none, [], 9)
theorem tb_co_Reader_readRule : mTB (Cond.code ⟨"NineBars$Reader", "readRule", "(LNineBars$Box;)V"⟩ prog_10_method_10_code 6 (none)) := tbq4 69 (by decide +kernel) rfl
theorem mc_Reader_readRule {M : mM} (hd : 9 < mDp M) : mCal M M_Reader_readRule 1 := ⟨tb_co_Reader_readRule, tb_in_NineBars_Reader, ⟨by decide +kernel, by decide +kernel⟩, by decide +kernel, hd, by decide⟩
theorem d_Reader_readRule_0 : decode prog_10_method_10_code 0 = .ok (.aload_n 1, 1) := by decide +kernel
theorem tb_fl_Reader_107 : mTN (Cond.fieldLinkNest "NineBars$Reader" 107 "NineBars$Box" "rules" "I" "NineBars") := tbqn1 89 (by decide +kernel) rfl
theorem fd_Reader_107 {M : mM} (h : mO M = "NineBars$Reader") : mFld M 107 0 3 0 := ⟨_, _, _, tyX0, rfl, by decide, by decide, rfl, uw_0, tyX0_ok, nmX0, by rw [h]; exact Or.inr ⟨_, tb_fl_Reader_107⟩⟩
theorem d_Reader_readRule_1 : decode prog_10_method_10_code 1 = .ok (.getfield 107, 3) := by decide +kernel
theorem d_Reader_readRule_4 : decode prog_10_method_10_code 4 = .ok (.bipush 24, 2) := by decide +kernel
theorem d_Reader_readRule_6 : decode prog_10_method_10_code 6 = .ok (.if_icmp .ne 9, 3) := by decide +kernel
theorem d_Reader_readRule_15 : decode prog_10_method_10_code 15 = .ok (.aload_n 0, 1) := by decide +kernel
theorem d_Reader_readRule_16 : decode prog_10_method_10_code 16 = .ok (.iconst 0, 1) := by decide +kernel
theorem d_Reader_readRule_17 : decode prog_10_method_10_code 17 = .ok (.aload_n 1, 1) := by decide +kernel
theorem d_Reader_readRule_18 : decode prog_10_method_10_code 18 = .ok (.getfield 84, 3) := by decide +kernel
theorem d_Reader_readRule_21 : decode prog_10_method_10_code 21 = .ok (.iconst 1, 1) := by decide +kernel
theorem d_Reader_readRule_22 : decode prog_10_method_10_code 22 = .ok (.isub, 1) := by decide +kernel
theorem d_Reader_readRule_23 : decode prog_10_method_10_code 23 = .ok (.invokevirtual 87, 3) := by decide +kernel
theorem d_Reader_readRule_26 : decode prog_10_method_10_code 26 = .ok (.istore_n 2, 1) := by decide +kernel
theorem d_Reader_readRule_27 : decode prog_10_method_10_code 27 = .ok (.aload_n 0, 1) := by decide +kernel
theorem d_Reader_readRule_28 : decode prog_10_method_10_code 28 = .ok (.iconst 0, 1) := by decide +kernel
theorem d_Reader_readRule_29 : decode prog_10_method_10_code 29 = .ok (.aload_n 1, 1) := by decide +kernel
theorem d_Reader_readRule_30 : decode prog_10_method_10_code 30 = .ok (.iload_n 2, 1) := by decide +kernel
theorem d_Reader_readRule_31 : decode prog_10_method_10_code 31 = .ok (.invokevirtual 110, 3) := by decide +kernel
theorem d_Reader_readRule_34 : decode prog_10_method_10_code 34 = .ok (.iconst 1, 1) := by decide +kernel
theorem d_Reader_readRule_35 : decode prog_10_method_10_code 35 = .ok (.isub, 1) := by decide +kernel
theorem d_Reader_readRule_36 : decode prog_10_method_10_code 36 = .ok (.invokevirtual 87, 3) := by decide +kernel
theorem d_Reader_readRule_39 : decode prog_10_method_10_code 39 = .ok (.istore_n 3, 1) := by decide +kernel
theorem d_Reader_readRule_40 : decode prog_10_method_10_code 40 = .ok (.aload_n 0, 1) := by decide +kernel
theorem d_Reader_readRule_41 : decode prog_10_method_10_code 41 = .ok (.ldc 114, 2) := by decide +kernel
theorem d_Reader_readRule_43 : decode prog_10_method_10_code 43 = .ok (.invokevirtual 116, 3) := by decide +kernel
theorem tb_ml_Reader_116 : mTB (Cond.methodLink "NineBars$Reader" 116 ⟨"NineBars$Reader", "readWord", "(Ljava/lang/String;)V"⟩) := tbq4 75 (by decide +kernel) rfl
theorem tb_im_Reader_readWord : mTB (Cond.instanceMethod ⟨"NineBars$Reader", "readWord", "(Ljava/lang/String;)V"⟩) := tbq4 77 (by decide +kernel) rfl
theorem tb_se_Reader_readWord : mTB (Cond.selects "NineBars$Reader" ⟨"NineBars$Reader", "readWord", "(Ljava/lang/String;)V"⟩ ⟨"NineBars$Reader", "readWord", "(Ljava/lang/String;)V"⟩) := tbqp 18 (by decide +kernel) rfl
theorem mv_Reader_readWord {M : mM} {idx : Nat} (h : mTB (Cond.methodLink (mO M) idx ⟨"NineBars$Reader", "readWord", "(Ljava/lang/String;)V"⟩)) : mCaV M M_Reader_readWord idx 8 := ⟨h, tb_im_Reader_readWord, tb_se_Reader_readWord, by decide, TX8, 8, rfl⟩
theorem d_Reader_readRule_46 : decode prog_10_method_10_code 46 = .ok (.aload_n 0, 1) := by decide +kernel
theorem d_Reader_readRule_47 : decode prog_10_method_10_code 47 = .ok (.iconst 0, 1) := by decide +kernel
theorem d_Reader_readRule_48 : decode prog_10_method_10_code 48 = .ok (.aload_n 1, 1) := by decide +kernel
theorem d_Reader_readRule_49 : decode prog_10_method_10_code 49 = .ok (.iload_n 2, 1) := by decide +kernel
theorem d_Reader_readRule_50 : decode prog_10_method_10_code 50 = .ok (.invokevirtual 110, 3) := by decide +kernel
theorem d_Reader_readRule_53 : decode prog_10_method_10_code 53 = .ok (.iconst 1, 1) := by decide +kernel
theorem d_Reader_readRule_54 : decode prog_10_method_10_code 54 = .ok (.isub, 1) := by decide +kernel
theorem d_Reader_readRule_55 : decode prog_10_method_10_code 55 = .ok (.invokevirtual 87, 3) := by decide +kernel
theorem d_Reader_readRule_58 : decode prog_10_method_10_code 58 = .ok (.istore 4, 2) := by decide +kernel
theorem d_Reader_readRule_60 : decode prog_10_method_10_code 60 = .ok (.iload 4, 2) := by decide +kernel
theorem d_Reader_readRule_62 : decode prog_10_method_10_code 62 = .ok (.iload_n 3, 1) := by decide +kernel
theorem d_Reader_readRule_63 : decode prog_10_method_10_code 63 = .ok (.iconst 1, 1) := by decide +kernel
theorem d_Reader_readRule_64 : decode prog_10_method_10_code 64 = .ok (.isub, 1) := by decide +kernel
theorem d_Reader_readRule_65 : decode prog_10_method_10_code 65 = .ok (.if_icmp .eq 16, 3) := by decide +kernel
theorem d_Reader_readRule_81 : decode prog_10_method_10_code 81 = .ok (.aload_n 0, 1) := by decide +kernel
theorem d_Reader_readRule_82 : decode prog_10_method_10_code 82 = .ok (.ldc 120, 2) := by decide +kernel
theorem d_Reader_readRule_84 : decode prog_10_method_10_code 84 = .ok (.invokevirtual 116, 3) := by decide +kernel
theorem d_Reader_readRule_87 : decode prog_10_method_10_code 87 = .ok (.aload_n 0, 1) := by decide +kernel
theorem d_Reader_readRule_88 : decode prog_10_method_10_code 88 = .ok (.getfield 31, 3) := by decide +kernel
theorem d_Reader_readRule_91 : decode prog_10_method_10_code 91 = .ok (.ifCond .ne 11, 3) := by decide +kernel
theorem d_Reader_readRule_102 : decode prog_10_method_10_code 102 = .ok (.aload_n 0, 1) := by decide +kernel
theorem d_Reader_readRule_103 : decode prog_10_method_10_code 103 = .ok (.aload_n 1, 1) := by decide +kernel
theorem d_Reader_readRule_104 : decode prog_10_method_10_code 104 = .ok (.iload_n 2, 1) := by decide +kernel
theorem d_Reader_readRule_105 : decode prog_10_method_10_code 105 = .ok (.invokevirtual 125, 3) := by decide +kernel
theorem tb_ml_Reader_125 : mTB (Cond.methodLink "NineBars$Reader" 125 ⟨"NineBars$Reader", "readFact", "(LNineBars$Box;I)V"⟩) := tbq4 84 (by decide +kernel) rfl
theorem tb_im_Reader_readFact : mTB (Cond.instanceMethod ⟨"NineBars$Reader", "readFact", "(LNineBars$Box;I)V"⟩) := tbq4 86 (by decide +kernel) rfl
theorem tb_se_Reader_readFact : mTB (Cond.selects "NineBars$Reader" ⟨"NineBars$Reader", "readFact", "(LNineBars$Box;I)V"⟩ ⟨"NineBars$Reader", "readFact", "(LNineBars$Box;I)V"⟩) := tbqp 19 (by decide +kernel) rfl
theorem mv_Reader_readFact {M : mM} {idx : Nat} (h : mTB (Cond.methodLink (mO M) idx ⟨"NineBars$Reader", "readFact", "(LNineBars$Box;I)V"⟩)) : mCaV M M_Reader_readFact idx 8 := ⟨h, tb_im_Reader_readFact, tb_se_Reader_readFact, by decide, TX8, 8, rfl⟩
theorem d_Reader_readRule_108 : decode prog_10_method_10_code 108 = .ok (.iconst 1, 1) := by decide +kernel
theorem d_Reader_readRule_109 : decode prog_10_method_10_code 109 = .ok (.istore 5, 2) := by decide +kernel
theorem d_Reader_readRule_111 : decode prog_10_method_10_code 111 = .ok (.iload 5, 2) := by decide +kernel
theorem d_Reader_readRule_113 : decode prog_10_method_10_code 113 = .ok (.iconst 4, 1) := by decide +kernel
theorem d_Reader_readRule_114 : decode prog_10_method_10_code 114 = .ok (.if_icmp .gt 35, 3) := by decide +kernel
theorem d_Reader_readRule_149 : decode prog_10_method_10_code 149 = .ok (.return_, 1) := by decide +kernel
theorem d_Reader_readRule_117 : decode prog_10_method_10_code 117 = .ok (.aload_n 0, 1) := by decide +kernel
theorem d_Reader_readRule_118 : decode prog_10_method_10_code 118 = .ok (.ldc 129, 2) := by decide +kernel
theorem d_Reader_readRule_120 : decode prog_10_method_10_code 120 = .ok (.invokevirtual 64, 3) := by decide +kernel
theorem d_Reader_readRule_123 : decode prog_10_method_10_code 123 = .ok (.ifCond .eq 26, 3) := by decide +kernel
theorem d_Reader_readRule_126 : decode prog_10_method_10_code 126 = .ok (.iload 5, 2) := by decide +kernel
theorem d_Reader_readRule_128 : decode prog_10_method_10_code 128 = .ok (.iconst 4, 1) := by decide +kernel
theorem d_Reader_readRule_129 : decode prog_10_method_10_code 129 = .ok (.if_icmp .ne 8, 3) := by decide +kernel
theorem d_Reader_readRule_137 : decode prog_10_method_10_code 137 = .ok (.aload_n 0, 1) := by decide +kernel
theorem d_Reader_readRule_138 : decode prog_10_method_10_code 138 = .ok (.aload_n 1, 1) := by decide +kernel
theorem d_Reader_readRule_139 : decode prog_10_method_10_code 139 = .ok (.iload_n 2, 1) := by decide +kernel
theorem d_Reader_readRule_140 : decode prog_10_method_10_code 140 = .ok (.invokevirtual 125, 3) := by decide +kernel
theorem d_Reader_readRule_143 : decode prog_10_method_10_code 143 = .ok (.iinc 5 1, 3) := by decide +kernel
theorem d_Reader_readRule_146 : decode prog_10_method_10_code 146 = .ok (.goto (-35), 3) := by decide +kernel
theorem d_Reader_readRule_132 : decode prog_10_method_10_code 132 = .ok (.aload_n 0, 1) := by decide +kernel
theorem d_Reader_readRule_133 : decode prog_10_method_10_code 133 = .ok (.iconst 4, 1) := by decide +kernel
theorem d_Reader_readRule_134 : decode prog_10_method_10_code 134 = .ok (.invokevirtual 68, 3) := by decide +kernel
theorem d_Reader_readRule_94 : decode prog_10_method_10_code 94 = .ok (.aload_n 1, 1) := by decide +kernel
theorem d_Reader_readRule_95 : decode prog_10_method_10_code 95 = .ok (.iload_n 2, 1) := by decide +kernel
theorem d_Reader_readRule_96 : decode prog_10_method_10_code 96 = .ok (.iload_n 3, 1) := by decide +kernel
theorem d_Reader_readRule_97 : decode prog_10_method_10_code 97 = .ok (.iload 4, 2) := by decide +kernel
theorem d_Reader_readRule_99 : decode prog_10_method_10_code 99 = .ok (.invokevirtual 122, 3) := by decide +kernel
theorem tb_ml_Reader_122 : mTB (Cond.methodLink "NineBars$Reader" 122 ⟨"NineBars$Box", "addRule", "(III)V"⟩) := tbq4 80 (by decide +kernel) rfl
theorem tb_im_Box_addRule : mTB (Cond.instanceMethod ⟨"NineBars$Box", "addRule", "(III)V"⟩) := tbq4 81 (by decide +kernel) rfl
theorem tb_se_Box_addRule : mTB (Cond.selects "NineBars$Box" ⟨"NineBars$Box", "addRule", "(III)V"⟩ ⟨"NineBars$Box", "addRule", "(III)V"⟩) := tbq4 82 (by decide +kernel) rfl
theorem mv_Box_addRule {M : mM} {idx : Nat} (h : mTB (Cond.methodLink (mO M) idx ⟨"NineBars$Box", "addRule", "(III)V"⟩)) : mCaV M M_Box_addRule idx 0 := ⟨h, tb_im_Box_addRule, tb_se_Box_addRule, by decide, TX0, 18, rfl⟩
theorem d_Reader_readRule_68 : decode prog_10_method_10_code 68 = .ok (.iload 4, 2) := by decide +kernel
theorem d_Reader_readRule_70 : decode prog_10_method_10_code 70 = .ok (.iload_n 3, 1) := by decide +kernel
theorem d_Reader_readRule_71 : decode prog_10_method_10_code 71 = .ok (.iconst 1, 1) := by decide +kernel
theorem d_Reader_readRule_72 : decode prog_10_method_10_code 72 = .ok (.iadd, 1) := by decide +kernel
theorem d_Reader_readRule_73 : decode prog_10_method_10_code 73 = .ok (.if_icmp .eq 8, 3) := by decide +kernel
theorem d_Reader_readRule_76 : decode prog_10_method_10_code 76 = .ok (.aload_n 0, 1) := by decide +kernel
theorem d_Reader_readRule_77 : decode prog_10_method_10_code 77 = .ok (.iconst 3, 1) := by decide +kernel
theorem d_Reader_readRule_78 : decode prog_10_method_10_code 78 = .ok (.invokevirtual 68, 3) := by decide +kernel
theorem d_Reader_readRule_9 : decode prog_10_method_10_code 9 = .ok (.aload_n 0, 1) := by decide +kernel
theorem d_Reader_readRule_10 : decode prog_10_method_10_code 10 = .ok (.iconst 4, 1) := by decide +kernel
theorem d_Reader_readRule_11 : decode prog_10_method_10_code 11 = .ok (.invokevirtual 68, 3) := by decide +kernel
theorem d_Reader_readRule_14 : decode prog_10_method_10_code 14 = .ok (.return_, 1) := by decide +kernel
theorem t_Reader_readRule_J137 {G : mG} {r : mR} {v0 v1 v2 v5 : Int} {h : mH} {R111 : mH → Int → Option mR} (hR111 : ∀ (h : mH) (w5 : Int) , R111 h w5 = some r → mJ G M_Reader_readRule 111 [(2, v0), (2, v1), (0, v2), (9, 0), (9, 0), (0, w5)] [] h r) (hr : f_Reader_readRule_J137 R111 v0 v1 v2 v5 h = some r) : mJ G M_Reader_readRule 137 [(2, v0), (2, v1), (0, v2), (9, 0), (9, 0), (0, v5)] [] h r := by
  unfold f_Reader_readRule_J137 at hr
  refine j_aload_n (pc := 137) d_Reader_readRule_137 rfl ?_
  refine j_aload_n (pc := 138) d_Reader_readRule_138 rfl ?_
  refine j_iload_n (pc := 139) d_Reader_readRule_139 rfl ?_
  obtain ⟨ha, hr⟩ := chk_some hr
  refine j_callG (pc := 140) (stk := [(0, v2), (2, v1), (2, v0)]) (as := [(2, v0), (2, v1), (0, v2)]) (P := (fun v9 => [])) (tg := 3) (My := M_Reader_readFact) (mRunV (as := [(2, v1), (0, v2)]) (st := []) d_Reader_readRule_140 (mc_Reader_readFact (by decide)) rfl (mv_Reader_readFact tb_ml_Reader_125) rfl (Nat.le_of_ble_eq_true rfl) ha) (fun v => rfl) rfl hr (fun r1 h1 => t_Reader_readFact _ _ _ _ _ h1) (fun x2 h1 hr => ?_)
  refine j_iincW (pc := 143) (L := fun x3 => [(2, v0), (2, v1), (0, v2), (9, 0), (9, 0), (0, x3)]) d_Reader_readRule_143 rfl (fun _ => rfl) hr (fun x3 hr => ?_)
  refine j_goto (pc := 146) (tgt := 111) d_Reader_readRule_146 ?_
  exact mJ_weak (ls' := [(2, v0), (2, v1), (0, v2), (9, 0), (9, 0), (0, x3)]) (mwk_s (mwk_s (mwk_s (mwk_s (mwk_s (mwk_s mwk_n)))))) (hR111 h1 _ hr)
theorem t_Reader_readRule_L111 {G : mG} {r : mR} {v0 v1 v2 : Int}  : ∀ (n : Nat) (h : mH) (v5 : Int), f_Reader_readRule_L111 v0 v1 v2 n h v5 = some r → mJ G M_Reader_readRule 111 [(2, v0), (2, v1), (0, v2), (9, 0), (9, 0), (0, v5)] [] h r := by
  intro n
  induction n with
  | zero =>
    intro h v5 hr
    rw [f_Reader_readRule_L111] at hr
    cases hr
  | succ n hR111 =>
    intro h v5 hr
    rw [f_Reader_readRule_L111] at hr
    refine j_iload (pc := 111) d_Reader_readRule_111 rfl ?_
    refine j_iconst (pc := 113) d_Reader_readRule_113 ?_
    refine j_icmp_gt (pc := 114) (tgt := 149) d_Reader_readRule_114 hr (fun hr => ?_) (fun hr => ?_)
    · exact j_vret (pc := 149) d_Reader_readRule_149 rfl hr
    · refine j_aload_n (pc := 117) d_Reader_readRule_117 rfl ?_
      refine j_ldcS (pc := 118) (tx := "and") (k := 8) d_Reader_readRule_118 (by decide +kernel) ?_
      obtain ⟨ha, hr⟩ := chk_some hr
      refine j_callG (pc := 120) (stk := [(2, (-(((8 : Nat) : Int) + 2))), (2, v0)]) (as := [(2, v0), (2, (-(((8 : Nat) : Int) + 2)))]) (P := (fun v9 => ((0 : Nat), v9) :: [])) (tg := 0) (My := M_Reader_spells) (mRunV (as := [(2, (-(((8 : Nat) : Int) + 2)))]) (st := []) d_Reader_readRule_120 (mc_Reader_spells (by decide)) rfl (mv_Reader_spells tb_ml_Reader_64) rfl (Nat.le_of_ble_eq_true rfl) ha) (fun v => rfl) rfl hr (fun r1 h1 => t_Reader_spells _ _ _ _ h1) (fun x2 h1 hr => ?_)
      refine j_if_eq (pc := 123) (tgt := 149) d_Reader_readRule_123 hr (fun hr => ?_) (fun hr => ?_)
      · exact j_vret (pc := 149) d_Reader_readRule_149 rfl hr
      · refine j_iload (pc := 126) d_Reader_readRule_126 rfl ?_
        refine j_iconst (pc := 128) d_Reader_readRule_128 ?_
        refine j_icmp_ne (pc := 129) (tgt := 137) d_Reader_readRule_129 hr (fun hr => ?_) (fun hr => ?_)
        · exact mJ_weak (ls' := [(2, v0), (2, v1), (0, v2), (9, 0), (9, 0), (0, v5)]) (mwk_s (mwk_s (mwk_s (mwk_s (mwk_s (mwk_s mwk_n)))))) (t_Reader_readRule_J137 hR111 hr)
        · refine j_aload_n (pc := 132) d_Reader_readRule_132 rfl ?_
          refine j_iconst (pc := 133) d_Reader_readRule_133 ?_
          obtain ⟨ha, hr⟩ := chk_some hr
          refine j_callG (pc := 134) (stk := [(0, 4), (2, v0)]) (as := [(2, v0), (0, 4)]) (P := (fun v9 => [])) (tg := 3) (My := M_Reader_blame) (mRunV (as := [(0, 4)]) (st := []) d_Reader_readRule_134 (mc_Reader_blame (by decide)) rfl (mv_Reader_blame tb_ml_Reader_68) rfl (Nat.le_of_ble_eq_true rfl) ha) (fun v => rfl) rfl hr (fun r1 h1 => t_Reader_blame _ _ _ _ h1) (fun x4 h3 hr => ?_)
          exact mJ_weak (ls' := [(2, v0), (2, v1), (0, v2), (9, 0), (9, 0), (0, v5)]) (mwk_s (mwk_s (mwk_s (mwk_s (mwk_s (mwk_s mwk_n)))))) (t_Reader_readRule_J137 hR111 hr)
theorem t_Reader_readRule_J102 {G : mG} {r : mR} {v0 v1 v2 : Int} {h : mH}  (hr : f_Reader_readRule_J102 v0 v1 v2 h = some r) : mJ G M_Reader_readRule 102 [(2, v0), (2, v1), (0, v2), (9, 0), (9, 0), (9, 0)] [] h r := by
  unfold f_Reader_readRule_J102 at hr
  refine j_aload_n (pc := 102) d_Reader_readRule_102 rfl ?_
  refine j_aload_n (pc := 103) d_Reader_readRule_103 rfl ?_
  refine j_iload_n (pc := 104) d_Reader_readRule_104 rfl ?_
  obtain ⟨ha, hr⟩ := chk_some hr
  refine j_callG (pc := 105) (stk := [(0, v2), (2, v1), (2, v0)]) (as := [(2, v0), (2, v1), (0, v2)]) (P := (fun v9 => [])) (tg := 3) (My := M_Reader_readFact) (mRunV (as := [(2, v1), (0, v2)]) (st := []) d_Reader_readRule_105 (mc_Reader_readFact (by decide)) rfl (mv_Reader_readFact tb_ml_Reader_125) rfl (Nat.le_of_ble_eq_true rfl) ha) (fun v => rfl) rfl hr (fun r1 h1 => t_Reader_readFact _ _ _ _ _ h1) (fun x2 h1 hr => ?_)
  refine j_iconst (pc := 108) d_Reader_readRule_108 ?_
  refine j_istore (pc := 109) (ls' := [(2, v0), (2, v1), (0, v2), (9, 0), (9, 0), (0, 1)]) d_Reader_readRule_109 rfl ?_
  refine mJ_weak (ls' := [(2, v0), (2, v1), (0, v2), (9, 0), (9, 0), (0, 1)]) (mwk_s (mwk_s (mwk_s (mwk_s (mwk_s (mwk_s mwk_n)))))) (t_Reader_readRule_L111  _ _ _ hr)
theorem t_Reader_readRule_J81 {G : mG} {r : mR} {v0 v1 v2 v3 v4 : Int} {h : mH}  (hr : f_Reader_readRule_J81 v0 v1 v2 v3 v4 h = some r) : mJ G M_Reader_readRule 81 [(2, v0), (2, v1), (0, v2), (0, v3), (0, v4), (9, 0)] [] h r := by
  unfold f_Reader_readRule_J81 at hr
  refine j_aload_n (pc := 81) d_Reader_readRule_81 rfl ?_
  refine j_ldcS (pc := 82) (tx := "if") (k := 7) d_Reader_readRule_82 (by decide +kernel) ?_
  obtain ⟨ha, hr⟩ := chk_some hr
  refine j_callG (pc := 84) (stk := [(2, (-(((7 : Nat) : Int) + 2))), (2, v0)]) (as := [(2, v0), (2, (-(((7 : Nat) : Int) + 2)))]) (P := (fun v9 => [])) (tg := 3) (My := M_Reader_readWord) (mRunV (as := [(2, (-(((7 : Nat) : Int) + 2)))]) (st := []) d_Reader_readRule_84 (mc_Reader_readWord (by decide)) rfl (mv_Reader_readWord tb_ml_Reader_116) rfl (Nat.le_of_ble_eq_true rfl) ha) (fun v => rfl) rfl hr (fun r1 h1 => t_Reader_readWord _ _ _ _ h1) (fun x2 h1 hr => ?_)
  refine j_aload_n (pc := 87) d_Reader_readRule_87 rfl ?_
  refine j_getf (pc := 88) d_Reader_readRule_88 (fd_Reader_31 rfl) hr (fun hr => ?_)
  refine j_if_ne (pc := 91) (tgt := 102) d_Reader_readRule_91 hr (fun hr => ?_) (fun hr => ?_)
  · exact mJ_weak (ls' := [(2, v0), (2, v1), (0, v2), (9, 0), (9, 0), (9, 0)]) (mwk_s (mwk_s (mwk_s (mwk_d (mwk_d (mwk_s mwk_n)))))) (t_Reader_readRule_J102  hr)
  · refine j_aload_n (pc := 94) d_Reader_readRule_94 rfl ?_
    refine j_iload_n (pc := 95) d_Reader_readRule_95 rfl ?_
    refine j_iload_n (pc := 96) d_Reader_readRule_96 rfl ?_
    refine j_iload (pc := 97) d_Reader_readRule_97 rfl ?_
    obtain ⟨ha, hr⟩ := chk_some hr
    refine j_callG (pc := 99) (stk := [(0, v4), (0, v3), (0, v2), (2, v1)]) (as := [(2, v1), (0, v2), (0, v3), (0, v4)]) (P := (fun v9 => [])) (tg := 3) (My := M_Box_addRule) (mRunV (as := [(0, v2), (0, v3), (0, v4)]) (st := []) d_Reader_readRule_99 (mc_Box_addRule (by decide)) rfl (mv_Box_addRule tb_ml_Reader_122) rfl (Nat.le_of_ble_eq_true rfl) ha) (fun v => rfl) rfl hr (fun r1 h1 => t_Box_addRule _ _ _ _ _ _ h1) (fun x4 h3 hr => ?_)
    exact mJ_weak (ls' := [(2, v0), (2, v1), (0, v2), (9, 0), (9, 0), (9, 0)]) (mwk_s (mwk_s (mwk_s (mwk_d (mwk_d (mwk_s mwk_n)))))) (t_Reader_readRule_J102  hr)
theorem t_Reader_readRule {G : mG} (h : mH) (v0 v1 : Int) (r : mR) (hr : f_Reader_readRule h v0 v1 = some r) : mJM G M_Reader_readRule [(2, v0), (2, v1)] h r := by
  refine mJM_of (L := [(2, v0), (2, v1), (9, 0), (9, 0), (9, 0), (9, 0)]) rfl rfl rfl (Nat.le_of_ble_eq_true rfl) ?_
  unfold f_Reader_readRule at hr
  refine j_aload_n (pc := 0) d_Reader_readRule_0 rfl ?_
  refine j_getf (pc := 1) d_Reader_readRule_1 (fd_Reader_107 rfl) hr (fun hr => ?_)
  refine j_bipush (pc := 4) d_Reader_readRule_4 ?_
  refine j_icmp_ne (pc := 6) (tgt := 15) d_Reader_readRule_6 hr (fun hr => ?_) (fun hr => ?_)
  · refine j_aload_n (pc := 15) d_Reader_readRule_15 rfl ?_
    refine j_iconst (pc := 16) d_Reader_readRule_16 ?_
    refine j_aload_n (pc := 17) d_Reader_readRule_17 rfl ?_
    refine j_getf (pc := 18) d_Reader_readRule_18 (fd_Reader_84 rfl) hr (fun hr => ?_)
    refine j_iconst (pc := 21) d_Reader_readRule_21 ?_
    refine j_isub (pc := 22) d_Reader_readRule_22 ?_
    obtain ⟨ha, hr⟩ := chk_some hr
    refine j_callG (pc := 23) (stk := [(0, w32 ((hpV h v1 2) - 1)), (0, 0), (2, v0)]) (as := [(2, v0), (0, 0), (0, w32 ((hpV h v1 2) - 1))]) (P := (fun v9 => ((0 : Nat), v9) :: [])) (tg := 0) (My := M_Reader_readNumber) (mRunV (as := [(0, 0), (0, w32 ((hpV h v1 2) - 1))]) (st := []) d_Reader_readRule_23 (mc_Reader_readNumber (by decide)) rfl (mv_Reader_readNumber tb_ml_Reader_87) rfl (Nat.le_of_ble_eq_true rfl) ha) (fun v => rfl) rfl hr (fun r1 h1 => t_Reader_readNumber _ _ _ _ _ h1) (fun x2 h1 hr => ?_)
    refine j_istore_n (pc := 26) (ls' := [(2, v0), (2, v1), (0, x2), (9, 0), (9, 0), (9, 0)]) d_Reader_readRule_26 rfl ?_
    refine j_aload_n (pc := 27) d_Reader_readRule_27 rfl ?_
    refine j_iconst (pc := 28) d_Reader_readRule_28 ?_
    refine j_aload_n (pc := 29) d_Reader_readRule_29 rfl ?_
    refine j_iload_n (pc := 30) d_Reader_readRule_30 rfl ?_
    obtain ⟨ha, hr⟩ := chk_some hr
    refine j_callG (pc := 31) (stk := [(0, x2), (2, v1), (0, 0), (2, v0)]) (as := [(2, v1), (0, x2)]) (P := (fun v9 => ((0 : Nat), v9) :: [(0, 0), (2, v0)])) (tg := 0) (My := M_Box_placesOf) (mRunV (as := [(0, x2)]) (st := [(0, 0), (2, v0)]) d_Reader_readRule_31 (mc_Box_placesOf (by decide)) rfl (mv_Box_placesOf tb_ml_Reader_110) rfl (Nat.le_of_ble_eq_true rfl) ha) (fun v => rfl) rfl hr (fun r1 h1 => t_Box_placesOf _ _ _ _ h1) (fun x4 h3 hr => ?_)
    refine j_iconst (pc := 34) d_Reader_readRule_34 ?_
    refine j_isub (pc := 35) d_Reader_readRule_35 ?_
    obtain ⟨ha, hr⟩ := chk_some hr
    refine j_callG (pc := 36) (stk := [(0, w32 (x4 - 1)), (0, 0), (2, v0)]) (as := [(2, v0), (0, 0), (0, w32 (x4 - 1))]) (P := (fun v9 => ((0 : Nat), v9) :: [])) (tg := 0) (My := M_Reader_readNumber) (mRunV (as := [(0, 0), (0, w32 (x4 - 1))]) (st := []) d_Reader_readRule_36 (mc_Reader_readNumber (by decide)) rfl (mv_Reader_readNumber tb_ml_Reader_87) rfl (Nat.le_of_ble_eq_true rfl) ha) (fun v => rfl) rfl hr (fun r1 h1 => t_Reader_readNumber _ _ _ _ _ h1) (fun x6 h5 hr => ?_)
    refine j_istore_n (pc := 39) (ls' := [(2, v0), (2, v1), (0, x2), (0, x6), (9, 0), (9, 0)]) d_Reader_readRule_39 rfl ?_
    refine j_aload_n (pc := 40) d_Reader_readRule_40 rfl ?_
    refine j_ldcS (pc := 41) (tx := "to") (k := 6) d_Reader_readRule_41 (by decide +kernel) ?_
    obtain ⟨ha, hr⟩ := chk_some hr
    refine j_callG (pc := 43) (stk := [(2, (-(((6 : Nat) : Int) + 2))), (2, v0)]) (as := [(2, v0), (2, (-(((6 : Nat) : Int) + 2)))]) (P := (fun v9 => [])) (tg := 3) (My := M_Reader_readWord) (mRunV (as := [(2, (-(((6 : Nat) : Int) + 2)))]) (st := []) d_Reader_readRule_43 (mc_Reader_readWord (by decide)) rfl (mv_Reader_readWord tb_ml_Reader_116) rfl (Nat.le_of_ble_eq_true rfl) ha) (fun v => rfl) rfl hr (fun r1 h1 => t_Reader_readWord _ _ _ _ h1) (fun x8 h7 hr => ?_)
    refine j_aload_n (pc := 46) d_Reader_readRule_46 rfl ?_
    refine j_iconst (pc := 47) d_Reader_readRule_47 ?_
    refine j_aload_n (pc := 48) d_Reader_readRule_48 rfl ?_
    refine j_iload_n (pc := 49) d_Reader_readRule_49 rfl ?_
    obtain ⟨ha, hr⟩ := chk_some hr
    refine j_callG (pc := 50) (stk := [(0, x2), (2, v1), (0, 0), (2, v0)]) (as := [(2, v1), (0, x2)]) (P := (fun v9 => ((0 : Nat), v9) :: [(0, 0), (2, v0)])) (tg := 0) (My := M_Box_placesOf) (mRunV (as := [(0, x2)]) (st := [(0, 0), (2, v0)]) d_Reader_readRule_50 (mc_Box_placesOf (by decide)) rfl (mv_Box_placesOf tb_ml_Reader_110) rfl (Nat.le_of_ble_eq_true rfl) ha) (fun v => rfl) rfl hr (fun r1 h1 => t_Box_placesOf _ _ _ _ h1) (fun x10 h9 hr => ?_)
    refine j_iconst (pc := 53) d_Reader_readRule_53 ?_
    refine j_isub (pc := 54) d_Reader_readRule_54 ?_
    obtain ⟨ha, hr⟩ := chk_some hr
    refine j_callG (pc := 55) (stk := [(0, w32 (x10 - 1)), (0, 0), (2, v0)]) (as := [(2, v0), (0, 0), (0, w32 (x10 - 1))]) (P := (fun v9 => ((0 : Nat), v9) :: [])) (tg := 0) (My := M_Reader_readNumber) (mRunV (as := [(0, 0), (0, w32 (x10 - 1))]) (st := []) d_Reader_readRule_55 (mc_Reader_readNumber (by decide)) rfl (mv_Reader_readNumber tb_ml_Reader_87) rfl (Nat.le_of_ble_eq_true rfl) ha) (fun v => rfl) rfl hr (fun r1 h1 => t_Reader_readNumber _ _ _ _ _ h1) (fun x12 h11 hr => ?_)
    refine j_istore (pc := 58) (ls' := [(2, v0), (2, v1), (0, x2), (0, x6), (0, x12), (9, 0)]) d_Reader_readRule_58 rfl ?_
    refine j_iload (pc := 60) d_Reader_readRule_60 rfl ?_
    refine j_iload_n (pc := 62) d_Reader_readRule_62 rfl ?_
    refine j_iconst (pc := 63) d_Reader_readRule_63 ?_
    refine j_isub (pc := 64) d_Reader_readRule_64 ?_
    refine j_icmp_eq (pc := 65) (tgt := 81) d_Reader_readRule_65 hr (fun hr => ?_) (fun hr => ?_)
    · exact mJ_weak (ls' := [(2, v0), (2, v1), (0, x2), (0, x6), (0, x12), (9, 0)]) (mwk_s (mwk_s (mwk_s (mwk_s (mwk_s (mwk_s mwk_n)))))) (t_Reader_readRule_J81  hr)
    · refine j_iload (pc := 68) d_Reader_readRule_68 rfl ?_
      refine j_iload_n (pc := 70) d_Reader_readRule_70 rfl ?_
      refine j_iconst (pc := 71) d_Reader_readRule_71 ?_
      refine j_iadd (pc := 72) d_Reader_readRule_72 ?_
      refine j_icmp_eq (pc := 73) (tgt := 81) d_Reader_readRule_73 hr (fun hr => ?_) (fun hr => ?_)
      · exact mJ_weak (ls' := [(2, v0), (2, v1), (0, x2), (0, x6), (0, x12), (9, 0)]) (mwk_s (mwk_s (mwk_s (mwk_s (mwk_s (mwk_s mwk_n)))))) (t_Reader_readRule_J81  hr)
      · refine j_aload_n (pc := 76) d_Reader_readRule_76 rfl ?_
        refine j_iconst (pc := 77) d_Reader_readRule_77 ?_
        obtain ⟨ha, hr⟩ := chk_some hr
        refine j_callG (pc := 78) (stk := [(0, 3), (2, v0)]) (as := [(2, v0), (0, 3)]) (P := (fun v9 => [])) (tg := 3) (My := M_Reader_blame) (mRunV (as := [(0, 3)]) (st := []) d_Reader_readRule_78 (mc_Reader_blame (by decide)) rfl (mv_Reader_blame tb_ml_Reader_68) rfl (Nat.le_of_ble_eq_true rfl) ha) (fun v => rfl) rfl hr (fun r1 h1 => t_Reader_blame _ _ _ _ h1) (fun x14 h13 hr => ?_)
        exact mJ_weak (ls' := [(2, v0), (2, v1), (0, x2), (0, x6), (0, x12), (9, 0)]) (mwk_s (mwk_s (mwk_s (mwk_s (mwk_s (mwk_s mwk_n)))))) (t_Reader_readRule_J81  hr)
  · refine j_aload_n (pc := 9) d_Reader_readRule_9 rfl ?_
    refine j_iconst (pc := 10) d_Reader_readRule_10 ?_
    obtain ⟨ha, hr⟩ := chk_some hr
    refine j_callG (pc := 11) (stk := [(0, 4), (2, v0)]) (as := [(2, v0), (0, 4)]) (P := (fun v9 => [])) (tg := 3) (My := M_Reader_blame) (mRunV (as := [(0, 4)]) (st := []) d_Reader_readRule_11 (mc_Reader_blame (by decide)) rfl (mv_Reader_blame tb_ml_Reader_68) rfl (Nat.le_of_ble_eq_true rfl) ha) (fun v => rfl) rfl hr (fun r1 h1 => t_Reader_blame _ _ _ _ h1) (fun x16 h15 hr => ?_)
    exact j_vret (pc := 14) d_Reader_readRule_14 rfl hr
def M_Reader_readLine : mM := ("NineBars$Reader", ⟨"NineBars$Reader", "readLine", "(LNineBars$Box;)V"⟩, prog_10_method_8_code, 2, none, [], 11)
theorem tb_co_Reader_readLine : mTB (Cond.code ⟨"NineBars$Reader", "readLine", "(LNineBars$Box;)V"⟩ prog_10_method_8_code 2 (none)) := tbq3 233 (by decide +kernel) rfl
theorem mc_Reader_readLine {M : mM} (hd : 11 < mDp M) : mCal M M_Reader_readLine 1 := ⟨tb_co_Reader_readLine, tb_in_NineBars_Reader, ⟨by decide +kernel, by decide +kernel⟩, by decide +kernel, hd, by decide⟩
theorem d_Reader_readLine_0 : decode prog_10_method_8_code 0 = .ok (.aload_n 0, 1) := by decide +kernel
theorem d_Reader_readLine_1 : decode prog_10_method_8_code 1 = .ok (.ldc 72, 2) := by decide +kernel
theorem d_Reader_readLine_3 : decode prog_10_method_8_code 3 = .ok (.invokevirtual 64, 3) := by decide +kernel
theorem d_Reader_readLine_6 : decode prog_10_method_8_code 6 = .ok (.ifCond .eq 11, 3) := by decide +kernel
theorem d_Reader_readLine_17 : decode prog_10_method_8_code 17 = .ok (.aload_n 0, 1) := by decide +kernel
theorem d_Reader_readLine_18 : decode prog_10_method_8_code 18 = .ok (.ldc 77, 2) := by decide +kernel
theorem d_Reader_readLine_20 : decode prog_10_method_8_code 20 = .ok (.invokevirtual 64, 3) := by decide +kernel
theorem d_Reader_readLine_23 : decode prog_10_method_8_code 23 = .ok (.ifCond .eq 11, 3) := by decide +kernel
theorem d_Reader_readLine_34 : decode prog_10_method_8_code 34 = .ok (.aload_n 0, 1) := by decide +kernel
theorem d_Reader_readLine_35 : decode prog_10_method_8_code 35 = .ok (.ldc 82, 2) := by decide +kernel
theorem d_Reader_readLine_37 : decode prog_10_method_8_code 37 = .ok (.invokevirtual 64, 3) := by decide +kernel
theorem d_Reader_readLine_40 : decode prog_10_method_8_code 40 = .ok (.ifCond .eq 23, 3) := by decide +kernel
theorem d_Reader_readLine_63 : decode prog_10_method_8_code 63 = .ok (.aload_n 0, 1) := by decide +kernel
theorem d_Reader_readLine_64 : decode prog_10_method_8_code 64 = .ok (.ldc 92, 2) := by decide +kernel
theorem d_Reader_readLine_66 : decode prog_10_method_8_code 66 = .ok (.invokevirtual 64, 3) := by decide +kernel
theorem d_Reader_readLine_69 : decode prog_10_method_8_code 69 = .ok (.ifCond .eq 21, 3) := by decide +kernel
theorem d_Reader_readLine_90 : decode prog_10_method_8_code 90 = .ok (.aload_n 0, 1) := by decide +kernel
theorem d_Reader_readLine_91 : decode prog_10_method_8_code 91 = .ok (.iconst 2, 1) := by decide +kernel
theorem d_Reader_readLine_92 : decode prog_10_method_8_code 92 = .ok (.invokevirtual 68, 3) := by decide +kernel
theorem d_Reader_readLine_95 : decode prog_10_method_8_code 95 = .ok (.aload_n 0, 1) := by decide +kernel
theorem d_Reader_readLine_96 : decode prog_10_method_8_code 96 = .ok (.getfield 42, 3) := by decide +kernel
theorem d_Reader_readLine_99 : decode prog_10_method_8_code 99 = .ok (.iconst 4, 1) := by decide +kernel
theorem d_Reader_readLine_100 : decode prog_10_method_8_code 100 = .ok (.if_icmp .eq 8, 3) := by decide +kernel
theorem d_Reader_readLine_108 : decode prog_10_method_8_code 108 = .ok (.aload_n 1, 1) := by decide +kernel
theorem d_Reader_readLine_109 : decode prog_10_method_8_code 109 = .ok (.dup, 1) := by decide +kernel
theorem tb_fl_Reader_96 : mTN (Cond.fieldLinkNest "NineBars$Reader" 96 "NineBars$Box" "lines" "I" "NineBars") := tbqn1 80 (by decide +kernel) rfl
theorem fd_Reader_96 {M : mM} (h : mO M = "NineBars$Reader") : mFld M 96 0 1 0 := ⟨_, _, _, tyX0, rfl, by decide, by decide, rfl, uw_0, tyX0_ok, nmX0, by rw [h]; exact Or.inr ⟨_, tb_fl_Reader_96⟩⟩
theorem d_Reader_readLine_110 : decode prog_10_method_8_code 110 = .ok (.getfield 96, 3) := by decide +kernel
theorem d_Reader_readLine_113 : decode prog_10_method_8_code 113 = .ok (.iconst 1, 1) := by decide +kernel
theorem d_Reader_readLine_114 : decode prog_10_method_8_code 114 = .ok (.iadd, 1) := by decide +kernel
theorem d_Reader_readLine_115 : decode prog_10_method_8_code 115 = .ok (.putfield 96, 3) := by decide +kernel
theorem d_Reader_readLine_118 : decode prog_10_method_8_code 118 = .ok (.return_, 1) := by decide +kernel
theorem d_Reader_readLine_103 : decode prog_10_method_8_code 103 = .ok (.aload_n 0, 1) := by decide +kernel
theorem d_Reader_readLine_104 : decode prog_10_method_8_code 104 = .ok (.iconst 2, 1) := by decide +kernel
theorem d_Reader_readLine_105 : decode prog_10_method_8_code 105 = .ok (.invokevirtual 68, 3) := by decide +kernel
theorem d_Reader_readLine_72 : decode prog_10_method_8_code 72 = .ok (.aload_n 1, 1) := by decide +kernel
theorem d_Reader_readLine_73 : decode prog_10_method_8_code 73 = .ok (.aload_n 0, 1) := by decide +kernel
theorem d_Reader_readLine_74 : decode prog_10_method_8_code 74 = .ok (.iconst 0, 1) := by decide +kernel
theorem d_Reader_readLine_75 : decode prog_10_method_8_code 75 = .ok (.bipush 99, 2) := by decide +kernel
theorem d_Reader_readLine_77 : decode prog_10_method_8_code 77 = .ok (.invokevirtual 87, 3) := by decide +kernel
theorem tb_fl_Reader_94 : mTN (Cond.fieldLinkNest "NineBars$Reader" 94 "NineBars$Box" "wear" "I" "NineBars") := tbqn1 94 (by decide +kernel) rfl
theorem fd_Reader_94 {M : mM} (h : mO M = "NineBars$Reader") : mFld M 94 0 5 0 := ⟨_, _, _, tyX0, rfl, by decide, by decide, rfl, uw_0, tyX0_ok, nmX0, by rw [h]; exact Or.inr ⟨_, tb_fl_Reader_94⟩⟩
theorem d_Reader_readLine_80 : decode prog_10_method_8_code 80 = .ok (.putfield 94, 3) := by decide +kernel
theorem d_Reader_readLine_83 : decode prog_10_method_8_code 83 = .ok (.aload_n 0, 1) := by decide +kernel
theorem d_Reader_readLine_84 : decode prog_10_method_8_code 84 = .ok (.invokevirtual 39, 3) := by decide +kernel
theorem d_Reader_readLine_87 : decode prog_10_method_8_code 87 = .ok (.goto 8, 3) := by decide +kernel
theorem d_Reader_readLine_43 : decode prog_10_method_8_code 43 = .ok (.aload_n 1, 1) := by decide +kernel
theorem d_Reader_readLine_44 : decode prog_10_method_8_code 44 = .ok (.aload_n 0, 1) := by decide +kernel
theorem d_Reader_readLine_45 : decode prog_10_method_8_code 45 = .ok (.iconst 2, 1) := by decide +kernel
theorem d_Reader_readLine_46 : decode prog_10_method_8_code 46 = .ok (.aload_n 1, 1) := by decide +kernel
theorem d_Reader_readLine_47 : decode prog_10_method_8_code 47 = .ok (.getfield 84, 3) := by decide +kernel
theorem d_Reader_readLine_50 : decode prog_10_method_8_code 50 = .ok (.invokevirtual 87, 3) := by decide +kernel
theorem tb_fl_Reader_90 : mTN (Cond.fieldLinkNest "NineBars$Reader" 90 "NineBars$Box" "nested" "I" "NineBars") := tbqn1 91 (by decide +kernel) rfl
theorem fd_Reader_90 {M : mM} (h : mO M = "NineBars$Reader") : mFld M 90 0 4 0 := ⟨_, _, _, tyX0, rfl, by decide, by decide, rfl, uw_0, tyX0_ok, nmX0, by rw [h]; exact Or.inr ⟨_, tb_fl_Reader_90⟩⟩
theorem d_Reader_readLine_53 : decode prog_10_method_8_code 53 = .ok (.putfield 90, 3) := by decide +kernel
theorem d_Reader_readLine_56 : decode prog_10_method_8_code 56 = .ok (.aload_n 0, 1) := by decide +kernel
theorem d_Reader_readLine_57 : decode prog_10_method_8_code 57 = .ok (.invokevirtual 39, 3) := by decide +kernel
theorem d_Reader_readLine_60 : decode prog_10_method_8_code 60 = .ok (.goto 35, 3) := by decide +kernel
theorem d_Reader_readLine_26 : decode prog_10_method_8_code 26 = .ok (.aload_n 0, 1) := by decide +kernel
theorem d_Reader_readLine_27 : decode prog_10_method_8_code 27 = .ok (.aload_n 1, 1) := by decide +kernel
theorem d_Reader_readLine_28 : decode prog_10_method_8_code 28 = .ok (.invokevirtual 79, 3) := by decide +kernel
theorem tb_ml_Reader_79 : mTB (Cond.methodLink "NineBars$Reader" 79 ⟨"NineBars$Reader", "readRule", "(LNineBars$Box;)V"⟩) := tbq4 66 (by decide +kernel) rfl
theorem tb_im_Reader_readRule : mTB (Cond.instanceMethod ⟨"NineBars$Reader", "readRule", "(LNineBars$Box;)V"⟩) := tbq4 68 (by decide +kernel) rfl
theorem tb_se_Reader_readRule : mTB (Cond.selects "NineBars$Reader" ⟨"NineBars$Reader", "readRule", "(LNineBars$Box;)V"⟩ ⟨"NineBars$Reader", "readRule", "(LNineBars$Box;)V"⟩) := tbqp 17 (by decide +kernel) rfl
theorem mv_Reader_readRule {M : mM} {idx : Nat} (h : mTB (Cond.methodLink (mO M) idx ⟨"NineBars$Reader", "readRule", "(LNineBars$Box;)V"⟩)) : mCaV M M_Reader_readRule idx 8 := ⟨h, tb_im_Reader_readRule, tb_se_Reader_readRule, by decide, TX8, 8, rfl⟩
theorem d_Reader_readLine_31 : decode prog_10_method_8_code 31 = .ok (.goto 64, 3) := by decide +kernel
theorem d_Reader_readLine_9 : decode prog_10_method_8_code 9 = .ok (.aload_n 0, 1) := by decide +kernel
theorem d_Reader_readLine_10 : decode prog_10_method_8_code 10 = .ok (.aload_n 1, 1) := by decide +kernel
theorem d_Reader_readLine_11 : decode prog_10_method_8_code 11 = .ok (.invokevirtual 74, 3) := by decide +kernel
theorem tb_ml_Reader_74 : mTB (Cond.methodLink "NineBars$Reader" 74 ⟨"NineBars$Reader", "readBar", "(LNineBars$Box;)V"⟩) := tbq4 47 (by decide +kernel) rfl
theorem tb_im_Reader_readBar : mTB (Cond.instanceMethod ⟨"NineBars$Reader", "readBar", "(LNineBars$Box;)V"⟩) := tbq4 49 (by decide +kernel) rfl
theorem tb_se_Reader_readBar : mTB (Cond.selects "NineBars$Reader" ⟨"NineBars$Reader", "readBar", "(LNineBars$Box;)V"⟩ ⟨"NineBars$Reader", "readBar", "(LNineBars$Box;)V"⟩) := tbqp 14 (by decide +kernel) rfl
theorem mv_Reader_readBar {M : mM} {idx : Nat} (h : mTB (Cond.methodLink (mO M) idx ⟨"NineBars$Reader", "readBar", "(LNineBars$Box;)V"⟩)) : mCaV M M_Reader_readBar idx 8 := ⟨h, tb_im_Reader_readBar, tb_se_Reader_readBar, by decide, TX8, 8, rfl⟩
theorem d_Reader_readLine_14 : decode prog_10_method_8_code 14 = .ok (.goto 81, 3) := by decide +kernel
theorem t_Reader_readLine_J108 {G : mG} {r : mR} {v1 : Int} {h : mH}  (hr : f_Reader_readLine_J108 v1 h = some r) : mJ G M_Reader_readLine 108 [(9, 0), (2, v1)] [] h r := by
  unfold f_Reader_readLine_J108 at hr
  refine j_aload_n (pc := 108) d_Reader_readLine_108 rfl ?_
  refine j_dup (pc := 109) d_Reader_readLine_109 ?_
  refine j_getf (pc := 110) d_Reader_readLine_110 (fd_Reader_96 rfl) hr (fun hr => ?_)
  refine j_iconst (pc := 113) d_Reader_readLine_113 ?_
  refine j_iadd (pc := 114) d_Reader_readLine_114 ?_
  refine j_puti (pc := 115) d_Reader_readLine_115 (fd_Reader_96 rfl) (⟨_, _, _, rfl, Or.inl rfl, rfl⟩ : mFldW M_Reader_readLine 96 0 1 .int) hr (fun h1 hr => ?_)
  exact j_vret (pc := 118) d_Reader_readLine_118 rfl hr
theorem t_Reader_readLine_J95 {G : mG} {r : mR} {v0 v1 : Int} {h : mH}  (hr : f_Reader_readLine_J95 v0 v1 h = some r) : mJ G M_Reader_readLine 95 [(2, v0), (2, v1)] [] h r := by
  unfold f_Reader_readLine_J95 at hr
  refine j_aload_n (pc := 95) d_Reader_readLine_95 rfl ?_
  refine j_getf (pc := 96) d_Reader_readLine_96 (fd_Reader_42 rfl) hr (fun hr => ?_)
  refine j_iconst (pc := 99) d_Reader_readLine_99 ?_
  refine j_icmp_eq (pc := 100) (tgt := 108) d_Reader_readLine_100 hr (fun hr => ?_) (fun hr => ?_)
  · exact mJ_weak (ls' := [(9, 0), (2, v1)]) (mwk_d (mwk_s mwk_n)) (t_Reader_readLine_J108  hr)
  · refine j_aload_n (pc := 103) d_Reader_readLine_103 rfl ?_
    refine j_iconst (pc := 104) d_Reader_readLine_104 ?_
    obtain ⟨ha, hr⟩ := chk_some hr
    refine j_callG (pc := 105) (stk := [(0, 2), (2, v0)]) (as := [(2, v0), (0, 2)]) (P := (fun v9 => [])) (tg := 3) (My := M_Reader_blame) (mRunV (as := [(0, 2)]) (st := []) d_Reader_readLine_105 (mc_Reader_blame (by decide)) rfl (mv_Reader_blame tb_ml_Reader_68) rfl (Nat.le_of_ble_eq_true rfl) ha) (fun v => rfl) rfl hr (fun r1 h1 => t_Reader_blame _ _ _ _ h1) (fun x2 h1 hr => ?_)
    exact mJ_weak (ls' := [(9, 0), (2, v1)]) (mwk_d (mwk_s mwk_n)) (t_Reader_readLine_J108  hr)
theorem t_Reader_readLine {G : mG} (h : mH) (v0 v1 : Int) (r : mR) (hr : f_Reader_readLine h v0 v1 = some r) : mJM G M_Reader_readLine [(2, v0), (2, v1)] h r := by
  refine mJM_of (L := [(2, v0), (2, v1)]) rfl rfl rfl (Nat.le_of_ble_eq_true rfl) ?_
  unfold f_Reader_readLine at hr
  refine j_aload_n (pc := 0) d_Reader_readLine_0 rfl ?_
  refine j_ldcS (pc := 1) (tx := "bar") (k := 0) d_Reader_readLine_1 (by decide +kernel) ?_
  obtain ⟨ha, hr⟩ := chk_some hr
  refine j_callG (pc := 3) (stk := [(2, (-(((0 : Nat) : Int) + 2))), (2, v0)]) (as := [(2, v0), (2, (-(((0 : Nat) : Int) + 2)))]) (P := (fun v9 => ((0 : Nat), v9) :: [])) (tg := 0) (My := M_Reader_spells) (mRunV (as := [(2, (-(((0 : Nat) : Int) + 2)))]) (st := []) d_Reader_readLine_3 (mc_Reader_spells (by decide)) rfl (mv_Reader_spells tb_ml_Reader_64) rfl (Nat.le_of_ble_eq_true rfl) ha) (fun v => rfl) rfl hr (fun r1 h1 => t_Reader_spells _ _ _ _ h1) (fun x2 h1 hr => ?_)
  refine j_if_eq (pc := 6) (tgt := 17) d_Reader_readLine_6 hr (fun hr => ?_) (fun hr => ?_)
  · refine j_aload_n (pc := 17) d_Reader_readLine_17 rfl ?_
    refine j_ldcS (pc := 18) (tx := "rule") (k := 1) d_Reader_readLine_18 (by decide +kernel) ?_
    obtain ⟨ha, hr⟩ := chk_some hr
    refine j_callG (pc := 20) (stk := [(2, (-(((1 : Nat) : Int) + 2))), (2, v0)]) (as := [(2, v0), (2, (-(((1 : Nat) : Int) + 2)))]) (P := (fun v9 => ((0 : Nat), v9) :: [])) (tg := 0) (My := M_Reader_spells) (mRunV (as := [(2, (-(((1 : Nat) : Int) + 2)))]) (st := []) d_Reader_readLine_20 (mc_Reader_spells (by decide)) rfl (mv_Reader_spells tb_ml_Reader_64) rfl (Nat.le_of_ble_eq_true rfl) ha) (fun v => rfl) rfl hr (fun r1 h1 => t_Reader_spells _ _ _ _ h1) (fun x4 h3 hr => ?_)
    refine j_if_eq (pc := 23) (tgt := 34) d_Reader_readLine_23 hr (fun hr => ?_) (fun hr => ?_)
    · refine j_aload_n (pc := 34) d_Reader_readLine_34 rfl ?_
      refine j_ldcS (pc := 35) (tx := "nested") (k := 2) d_Reader_readLine_35 (by decide +kernel) ?_
      obtain ⟨ha, hr⟩ := chk_some hr
      refine j_callG (pc := 37) (stk := [(2, (-(((2 : Nat) : Int) + 2))), (2, v0)]) (as := [(2, v0), (2, (-(((2 : Nat) : Int) + 2)))]) (P := (fun v9 => ((0 : Nat), v9) :: [])) (tg := 0) (My := M_Reader_spells) (mRunV (as := [(2, (-(((2 : Nat) : Int) + 2)))]) (st := []) d_Reader_readLine_37 (mc_Reader_spells (by decide)) rfl (mv_Reader_spells tb_ml_Reader_64) rfl (Nat.le_of_ble_eq_true rfl) ha) (fun v => rfl) rfl hr (fun r1 h1 => t_Reader_spells _ _ _ _ h1) (fun x6 h5 hr => ?_)
      refine j_if_eq (pc := 40) (tgt := 63) d_Reader_readLine_40 hr (fun hr => ?_) (fun hr => ?_)
      · refine j_aload_n (pc := 63) d_Reader_readLine_63 rfl ?_
        refine j_ldcS (pc := 64) (tx := "wear") (k := 3) d_Reader_readLine_64 (by decide +kernel) ?_
        obtain ⟨ha, hr⟩ := chk_some hr
        refine j_callG (pc := 66) (stk := [(2, (-(((3 : Nat) : Int) + 2))), (2, v0)]) (as := [(2, v0), (2, (-(((3 : Nat) : Int) + 2)))]) (P := (fun v9 => ((0 : Nat), v9) :: [])) (tg := 0) (My := M_Reader_spells) (mRunV (as := [(2, (-(((3 : Nat) : Int) + 2)))]) (st := []) d_Reader_readLine_66 (mc_Reader_spells (by decide)) rfl (mv_Reader_spells tb_ml_Reader_64) rfl (Nat.le_of_ble_eq_true rfl) ha) (fun v => rfl) rfl hr (fun r1 h1 => t_Reader_spells _ _ _ _ h1) (fun x8 h7 hr => ?_)
        refine j_if_eq (pc := 69) (tgt := 90) d_Reader_readLine_69 hr (fun hr => ?_) (fun hr => ?_)
        · refine j_aload_n (pc := 90) d_Reader_readLine_90 rfl ?_
          refine j_iconst (pc := 91) d_Reader_readLine_91 ?_
          obtain ⟨ha, hr⟩ := chk_some hr
          refine j_callG (pc := 92) (stk := [(0, 2), (2, v0)]) (as := [(2, v0), (0, 2)]) (P := (fun v9 => [])) (tg := 3) (My := M_Reader_blame) (mRunV (as := [(0, 2)]) (st := []) d_Reader_readLine_92 (mc_Reader_blame (by decide)) rfl (mv_Reader_blame tb_ml_Reader_68) rfl (Nat.le_of_ble_eq_true rfl) ha) (fun v => rfl) rfl hr (fun r1 h1 => t_Reader_blame _ _ _ _ h1) (fun x10 h9 hr => ?_)
          exact mJ_weak (ls' := [(2, v0), (2, v1)]) (mwk_s (mwk_s mwk_n)) (t_Reader_readLine_J95  hr)
        · refine j_aload_n (pc := 72) d_Reader_readLine_72 rfl ?_
          refine j_aload_n (pc := 73) d_Reader_readLine_73 rfl ?_
          refine j_iconst (pc := 74) d_Reader_readLine_74 ?_
          refine j_bipush (pc := 75) d_Reader_readLine_75 ?_
          obtain ⟨ha, hr⟩ := chk_some hr
          refine j_callG (pc := 77) (stk := [(0, 99), (0, 0), (2, v0), (2, v1)]) (as := [(2, v0), (0, 0), (0, 99)]) (P := (fun v9 => ((0 : Nat), v9) :: [(2, v1)])) (tg := 0) (My := M_Reader_readNumber) (mRunV (as := [(0, 0), (0, 99)]) (st := [(2, v1)]) d_Reader_readLine_77 (mc_Reader_readNumber (by decide)) rfl (mv_Reader_readNumber tb_ml_Reader_87) rfl (Nat.le_of_ble_eq_true rfl) ha) (fun v => rfl) rfl hr (fun r1 h1 => t_Reader_readNumber _ _ _ _ _ h1) (fun x12 h11 hr => ?_)
          refine j_puti (pc := 80) d_Reader_readLine_80 (fd_Reader_94 rfl) (⟨_, _, _, rfl, Or.inl rfl, rfl⟩ : mFldW M_Reader_readLine 94 0 5 .int) hr (fun h13 hr => ?_)
          refine j_aload_n (pc := 83) d_Reader_readLine_83 rfl ?_
          obtain ⟨ha, hr⟩ := chk_some hr
          refine j_callG (pc := 84) (stk := [(2, v0)]) (as := [(2, v0)]) (P := (fun v9 => [])) (tg := 3) (My := M_Reader_readToken) (mRunV (as := []) (st := []) d_Reader_readLine_84 (mc_Reader_readToken (by decide)) rfl (mv_Reader_readToken tb_ml_Reader_39) rfl (Nat.le_of_ble_eq_true rfl) ha) (fun v => rfl) rfl hr (fun r1 h1 => t_Reader_readToken _ _ _ h1) (fun x15 h14 hr => ?_)
          refine j_goto (pc := 87) (tgt := 95) d_Reader_readLine_87 ?_
          exact mJ_weak (ls' := [(2, v0), (2, v1)]) (mwk_s (mwk_s mwk_n)) (t_Reader_readLine_J95  hr)
      · refine j_aload_n (pc := 43) d_Reader_readLine_43 rfl ?_
        refine j_aload_n (pc := 44) d_Reader_readLine_44 rfl ?_
        refine j_iconst (pc := 45) d_Reader_readLine_45 ?_
        refine j_aload_n (pc := 46) d_Reader_readLine_46 rfl ?_
        refine j_getf (pc := 47) d_Reader_readLine_47 (fd_Reader_84 rfl) hr (fun hr => ?_)
        obtain ⟨ha, hr⟩ := chk_some hr
        refine j_callG (pc := 50) (stk := [(0, hpV h5 v1 2), (0, 2), (2, v0), (2, v1)]) (as := [(2, v0), (0, 2), (0, hpV h5 v1 2)]) (P := (fun v9 => ((0 : Nat), v9) :: [(2, v1)])) (tg := 0) (My := M_Reader_readNumber) (mRunV (as := [(0, 2), (0, hpV h5 v1 2)]) (st := [(2, v1)]) d_Reader_readLine_50 (mc_Reader_readNumber (by decide)) rfl (mv_Reader_readNumber tb_ml_Reader_87) rfl (Nat.le_of_ble_eq_true rfl) ha) (fun v => rfl) rfl hr (fun r1 h1 => t_Reader_readNumber _ _ _ _ _ h1) (fun x17 h16 hr => ?_)
        refine j_puti (pc := 53) d_Reader_readLine_53 (fd_Reader_90 rfl) (⟨_, _, _, rfl, Or.inl rfl, rfl⟩ : mFldW M_Reader_readLine 90 0 4 .int) hr (fun h18 hr => ?_)
        refine j_aload_n (pc := 56) d_Reader_readLine_56 rfl ?_
        obtain ⟨ha, hr⟩ := chk_some hr
        refine j_callG (pc := 57) (stk := [(2, v0)]) (as := [(2, v0)]) (P := (fun v9 => [])) (tg := 3) (My := M_Reader_readToken) (mRunV (as := []) (st := []) d_Reader_readLine_57 (mc_Reader_readToken (by decide)) rfl (mv_Reader_readToken tb_ml_Reader_39) rfl (Nat.le_of_ble_eq_true rfl) ha) (fun v => rfl) rfl hr (fun r1 h1 => t_Reader_readToken _ _ _ h1) (fun x20 h19 hr => ?_)
        refine j_goto (pc := 60) (tgt := 95) d_Reader_readLine_60 ?_
        exact mJ_weak (ls' := [(2, v0), (2, v1)]) (mwk_s (mwk_s mwk_n)) (t_Reader_readLine_J95  hr)
    · refine j_aload_n (pc := 26) d_Reader_readLine_26 rfl ?_
      refine j_aload_n (pc := 27) d_Reader_readLine_27 rfl ?_
      obtain ⟨ha, hr⟩ := chk_some hr
      refine j_callG (pc := 28) (stk := [(2, v1), (2, v0)]) (as := [(2, v0), (2, v1)]) (P := (fun v9 => [])) (tg := 3) (My := M_Reader_readRule) (mRunV (as := [(2, v1)]) (st := []) d_Reader_readLine_28 (mc_Reader_readRule (by decide)) rfl (mv_Reader_readRule tb_ml_Reader_79) rfl (Nat.le_of_ble_eq_true rfl) ha) (fun v => rfl) rfl hr (fun r1 h1 => t_Reader_readRule _ _ _ _ h1) (fun x22 h21 hr => ?_)
      refine j_goto (pc := 31) (tgt := 95) d_Reader_readLine_31 ?_
      exact mJ_weak (ls' := [(2, v0), (2, v1)]) (mwk_s (mwk_s mwk_n)) (t_Reader_readLine_J95  hr)
  · refine j_aload_n (pc := 9) d_Reader_readLine_9 rfl ?_
    refine j_aload_n (pc := 10) d_Reader_readLine_10 rfl ?_
    obtain ⟨ha, hr⟩ := chk_some hr
    refine j_callG (pc := 11) (stk := [(2, v1), (2, v0)]) (as := [(2, v0), (2, v1)]) (P := (fun v9 => [])) (tg := 3) (My := M_Reader_readBar) (mRunV (as := [(2, v1)]) (st := []) d_Reader_readLine_11 (mc_Reader_readBar (by decide)) rfl (mv_Reader_readBar tb_ml_Reader_74) rfl (Nat.le_of_ble_eq_true rfl) ha) (fun v => rfl) rfl hr (fun r1 h1 => t_Reader_readBar _ _ _ _ h1) (fun x24 h23 hr => ?_)
    refine j_goto (pc := 14) (tgt := 95) d_Reader_readLine_14 ?_
    exact mJ_weak (ls' := [(2, v0), (2, v1)]) (mwk_s (mwk_s mwk_n)) (t_Reader_readLine_J95  hr)
def M_Reader_readText : mM := ("NineBars$Reader", ⟨"NineBars$Reader", "readText", "([BILNineBars$Box;)V"⟩, prog_10_method_2_code, 5, none, [], 13)
theorem tb_co_Reader_readText : mTB (Cond.code ⟨"NineBars$Reader", "readText", "([BILNineBars$Box;)V"⟩ prog_10_method_2_code 5 (none)) := tbq3 220 (by decide +kernel) rfl
theorem mc_Reader_readText {M : mM} (hd : 13 < mDp M) : mCal M M_Reader_readText 3 := ⟨tb_co_Reader_readText, tb_in_NineBars_Reader, ⟨by decide +kernel, by decide +kernel⟩, by decide +kernel, hd, by decide⟩
theorem d_Reader_readText_0 : decode prog_10_method_2_code 0 = .ok (.aload_n 0, 1) := by decide +kernel
theorem d_Reader_readText_1 : decode prog_10_method_2_code 1 = .ok (.aload_n 1, 1) := by decide +kernel
theorem d_Reader_readText_2 : decode prog_10_method_2_code 2 = .ok (.putfield 9, 3) := by decide +kernel
theorem d_Reader_readText_5 : decode prog_10_method_2_code 5 = .ok (.aload_n 0, 1) := by decide +kernel
theorem d_Reader_readText_6 : decode prog_10_method_2_code 6 = .ok (.iload_n 2, 1) := by decide +kernel
theorem d_Reader_readText_7 : decode prog_10_method_2_code 7 = .ok (.aload_n 1, 1) := by decide +kernel
theorem d_Reader_readText_8 : decode prog_10_method_2_code 8 = .ok (.arraylength, 1) := by decide +kernel
theorem d_Reader_readText_9 : decode prog_10_method_2_code 9 = .ok (.invokestatic 19, 3) := by decide +kernel
theorem tb_ml_Reader_19 : mTB (Cond.methodLink "NineBars$Reader" 19 ⟨"java/lang/Math", "min", "(II)I"⟩) := tbq3 221 (by decide +kernel) rfl
theorem tb_sm_Math_min : mTB (Cond.static ⟨"java/lang/Math", "min", "(II)I"⟩) := tbq3 77 (by decide +kernel) rfl
theorem tb_co_Math_min : mTB (Cond.code ⟨"java/lang/Math", "min", "(II)I"⟩ prog_22_method_69_code 2 (some .int)) := tbq3 78 (by decide +kernel) rfl
theorem tb_in_java_lang_Math : mTB (Cond.initialized "java/lang/Math") := tbq1 17 (by decide +kernel) rfl
theorem d_Reader_readText_12 : decode prog_10_method_2_code 12 = .ok (.putfield 25, 3) := by decide +kernel
theorem d_Reader_readText_15 : decode prog_10_method_2_code 15 = .ok (.aload_n 0, 1) := by decide +kernel
theorem d_Reader_readText_16 : decode prog_10_method_2_code 16 = .ok (.iconst 0, 1) := by decide +kernel
theorem d_Reader_readText_17 : decode prog_10_method_2_code 17 = .ok (.putfield 28, 3) := by decide +kernel
theorem d_Reader_readText_20 : decode prog_10_method_2_code 20 = .ok (.aload_n 0, 1) := by decide +kernel
theorem d_Reader_readText_21 : decode prog_10_method_2_code 21 = .ok (.iconst 0, 1) := by decide +kernel
theorem d_Reader_readText_22 : decode prog_10_method_2_code 22 = .ok (.putfield 31, 3) := by decide +kernel
theorem d_Reader_readText_25 : decode prog_10_method_2_code 25 = .ok (.aload_n 0, 1) := by decide +kernel
theorem d_Reader_readText_26 : decode prog_10_method_2_code 26 = .ok (.iconst (-1), 1) := by decide +kernel
theorem d_Reader_readText_27 : decode prog_10_method_2_code 27 = .ok (.putfield 15, 3) := by decide +kernel
theorem d_Reader_readText_30 : decode prog_10_method_2_code 30 = .ok (.aload_n 3, 1) := by decide +kernel
theorem d_Reader_readText_31 : decode prog_10_method_2_code 31 = .ok (.invokevirtual 34, 3) := by decide +kernel
theorem tb_ml_Reader_34 : mTB (Cond.methodLink "NineBars$Reader" 34 ⟨"NineBars$Box", "becomeEmpty", "()V"⟩) := tbq3 222 (by decide +kernel) rfl
theorem tb_im_Box_becomeEmpty : mTB (Cond.instanceMethod ⟨"NineBars$Box", "becomeEmpty", "()V"⟩) := tbq3 223 (by decide +kernel) rfl
theorem tb_se_Box_becomeEmpty : mTB (Cond.selects "NineBars$Box" ⟨"NineBars$Box", "becomeEmpty", "()V"⟩ ⟨"NineBars$Box", "becomeEmpty", "()V"⟩) := tbq3 224 (by decide +kernel) rfl
theorem mv_Box_becomeEmpty {M : mM} {idx : Nat} (h : mTB (Cond.methodLink (mO M) idx ⟨"NineBars$Box", "becomeEmpty", "()V"⟩)) : mCaV M M_Box_becomeEmpty idx 0 := ⟨h, tb_im_Box_becomeEmpty, tb_se_Box_becomeEmpty, by decide, TX0, 18, rfl⟩
theorem d_Reader_readText_34 : decode prog_10_method_2_code 34 = .ok (.aload_n 0, 1) := by decide +kernel
theorem d_Reader_readText_35 : decode prog_10_method_2_code 35 = .ok (.invokevirtual 39, 3) := by decide +kernel
theorem d_Reader_readText_38 : decode prog_10_method_2_code 38 = .ok (.iconst 0, 1) := by decide +kernel
theorem d_Reader_readText_39 : decode prog_10_method_2_code 39 = .ok (.istore 4, 2) := by decide +kernel
theorem d_Reader_readText_41 : decode prog_10_method_2_code 41 = .ok (.iload 4, 2) := by decide +kernel
theorem d_Reader_readText_43 : decode prog_10_method_2_code 43 = .ok (.sipush 900, 3) := by decide +kernel
theorem d_Reader_readText_46 : decode prog_10_method_2_code 46 = .ok (.if_icmp .gt 32, 3) := by decide +kernel
theorem d_Reader_readText_78 : decode prog_10_method_2_code 78 = .ok (.return_, 1) := by decide +kernel
theorem d_Reader_readText_49 : decode prog_10_method_2_code 49 = .ok (.aload_n 0, 1) := by decide +kernel
theorem d_Reader_readText_50 : decode prog_10_method_2_code 50 = .ok (.getfield 31, 3) := by decide +kernel
theorem d_Reader_readText_53 : decode prog_10_method_2_code 53 = .ok (.ifCond .ne 25, 3) := by decide +kernel
theorem d_Reader_readText_56 : decode prog_10_method_2_code 56 = .ok (.aload_n 0, 1) := by decide +kernel
theorem d_Reader_readText_57 : decode prog_10_method_2_code 57 = .ok (.getfield 42, 3) := by decide +kernel
theorem d_Reader_readText_60 : decode prog_10_method_2_code 60 = .ok (.ifCond .eq 18, 3) := by decide +kernel
theorem d_Reader_readText_63 : decode prog_10_method_2_code 63 = .ok (.aload_n 0, 1) := by decide +kernel
theorem d_Reader_readText_64 : decode prog_10_method_2_code 64 = .ok (.aload_n 3, 1) := by decide +kernel
theorem d_Reader_readText_65 : decode prog_10_method_2_code 65 = .ok (.invokevirtual 45, 3) := by decide +kernel
theorem tb_ml_Reader_45 : mTB (Cond.methodLink "NineBars$Reader" 45 ⟨"NineBars$Reader", "readLine", "(LNineBars$Box;)V"⟩) := tbq3 230 (by decide +kernel) rfl
theorem tb_im_Reader_readLine : mTB (Cond.instanceMethod ⟨"NineBars$Reader", "readLine", "(LNineBars$Box;)V"⟩) := tbq3 232 (by decide +kernel) rfl
theorem tb_se_Reader_readLine : mTB (Cond.selects "NineBars$Reader" ⟨"NineBars$Reader", "readLine", "(LNineBars$Box;)V"⟩ ⟨"NineBars$Reader", "readLine", "(LNineBars$Box;)V"⟩) := tbqp 12 (by decide +kernel) rfl
theorem mv_Reader_readLine {M : mM} {idx : Nat} (h : mTB (Cond.methodLink (mO M) idx ⟨"NineBars$Reader", "readLine", "(LNineBars$Box;)V"⟩)) : mCaV M M_Reader_readLine idx 8 := ⟨h, tb_im_Reader_readLine, tb_se_Reader_readLine, by decide, TX8, 8, rfl⟩
theorem d_Reader_readText_68 : decode prog_10_method_2_code 68 = .ok (.aload_n 0, 1) := by decide +kernel
theorem d_Reader_readText_69 : decode prog_10_method_2_code 69 = .ok (.invokevirtual 39, 3) := by decide +kernel
theorem d_Reader_readText_72 : decode prog_10_method_2_code 72 = .ok (.iinc 4 1, 3) := by decide +kernel
theorem d_Reader_readText_75 : decode prog_10_method_2_code 75 = .ok (.goto (-34), 3) := by decide +kernel
theorem t_Reader_readText_L41 {G : mG} {r : mR} {v0 v3 : Int}  : ∀ (n : Nat) (h : mH) (v4 : Int), f_Reader_readText_L41 v0 v3 n h v4 = some r → mJ G M_Reader_readText 41 [(2, v0), (9, 0), (9, 0), (2, v3), (0, v4)] [] h r := by
  intro n
  induction n with
  | zero =>
    intro h v4 hr
    rw [f_Reader_readText_L41] at hr
    cases hr
  | succ n hR41 =>
    intro h v4 hr
    rw [f_Reader_readText_L41] at hr
    refine j_iload (pc := 41) d_Reader_readText_41 rfl ?_
    refine j_sipush (pc := 43) d_Reader_readText_43 ?_
    refine j_icmp_gt (pc := 46) (tgt := 78) d_Reader_readText_46 hr (fun hr => ?_) (fun hr => ?_)
    · exact j_vret (pc := 78) d_Reader_readText_78 rfl hr
    · refine j_aload_n (pc := 49) d_Reader_readText_49 rfl ?_
      refine j_getf (pc := 50) d_Reader_readText_50 (fd_Reader_31 rfl) hr (fun hr => ?_)
      refine j_if_ne (pc := 53) (tgt := 78) d_Reader_readText_53 hr (fun hr => ?_) (fun hr => ?_)
      · exact j_vret (pc := 78) d_Reader_readText_78 rfl hr
      · refine j_aload_n (pc := 56) d_Reader_readText_56 rfl ?_
        refine j_getf (pc := 57) d_Reader_readText_57 (fd_Reader_42 rfl) hr (fun hr => ?_)
        refine j_if_eq (pc := 60) (tgt := 78) d_Reader_readText_60 hr (fun hr => ?_) (fun hr => ?_)
        · exact j_vret (pc := 78) d_Reader_readText_78 rfl hr
        · refine j_aload_n (pc := 63) d_Reader_readText_63 rfl ?_
          refine j_aload_n (pc := 64) d_Reader_readText_64 rfl ?_
          obtain ⟨ha, hr⟩ := chk_some hr
          refine j_callG (pc := 65) (stk := [(2, v3), (2, v0)]) (as := [(2, v0), (2, v3)]) (P := (fun v9 => [])) (tg := 3) (My := M_Reader_readLine) (mRunV (as := [(2, v3)]) (st := []) d_Reader_readText_65 (mc_Reader_readLine (by decide)) rfl (mv_Reader_readLine tb_ml_Reader_45) rfl (Nat.le_of_ble_eq_true rfl) ha) (fun v => rfl) rfl hr (fun r1 h1 => t_Reader_readLine _ _ _ _ h1) (fun x2 h1 hr => ?_)
          refine j_aload_n (pc := 68) d_Reader_readText_68 rfl ?_
          obtain ⟨ha, hr⟩ := chk_some hr
          refine j_callG (pc := 69) (stk := [(2, v0)]) (as := [(2, v0)]) (P := (fun v9 => [])) (tg := 3) (My := M_Reader_readToken) (mRunV (as := []) (st := []) d_Reader_readText_69 (mc_Reader_readToken (by decide)) rfl (mv_Reader_readToken tb_ml_Reader_39) rfl (Nat.le_of_ble_eq_true rfl) ha) (fun v => rfl) rfl hr (fun r1 h1 => t_Reader_readToken _ _ _ h1) (fun x4 h3 hr => ?_)
          refine j_iincW (pc := 72) (L := fun x5 => [(2, v0), (9, 0), (9, 0), (2, v3), (0, x5)]) d_Reader_readText_72 rfl (fun _ => rfl) hr (fun x5 hr => ?_)
          refine j_goto (pc := 75) (tgt := 41) d_Reader_readText_75 ?_
          exact mJ_weak (ls' := [(2, v0), (9, 0), (9, 0), (2, v3), (0, x5)]) (mwk_s (mwk_s (mwk_s (mwk_s (mwk_s mwk_n))))) (hR41 h3 _ hr)
theorem t_Reader_readText {G : mG} (h : mH) (v0 v1 v2 v3 : Int) (r : mR) (hr : f_Reader_readText h v0 v1 v2 v3 = some r) : mJM G M_Reader_readText [(2, v0), (2, v1), (0, v2), (2, v3)] h r := by
  refine mJM_of (L := [(2, v0), (2, v1), (0, v2), (2, v3), (9, 0)]) rfl rfl rfl (Nat.le_of_ble_eq_true rfl) ?_
  unfold f_Reader_readText at hr
  refine j_aload_n (pc := 0) d_Reader_readText_0 rfl ?_
  refine j_aload_n (pc := 1) d_Reader_readText_1 rfl ?_
  refine j_puta (pc := 2) d_Reader_readText_2 (fd_Reader_9 rfl) (⟨_, _, _, rfl, Or.inl rfl, rfl⟩ : mFldW M_Reader_readText 9 8 0 (.array .byte)) (Or.inr ⟨_, rfl⟩) hr (fun h1 hr => ?_)
  refine j_aload_n (pc := 5) d_Reader_readText_5 rfl ?_
  refine j_iload_n (pc := 6) d_Reader_readText_6 rfl ?_
  refine j_aload_n (pc := 7) d_Reader_readText_7 rfl ?_
  refine j_alen (pc := 8) d_Reader_readText_8 hr (fun hr => ?_)
  refine j_min (pc := 9) d_Reader_readText_9 tb_ml_Reader_19 tb_sm_Math_min tb_in_java_lang_Math tb_co_Math_min (Nat.le_of_ble_eq_true rfl) ?_
  refine j_puti (pc := 12) d_Reader_readText_12 (fd_Reader_25 rfl) (⟨_, _, _, rfl, Or.inl rfl, rfl⟩ : mFldW M_Reader_readText 25 8 1 .int) hr (fun h2 hr => ?_)
  refine j_aload_n (pc := 15) d_Reader_readText_15 rfl ?_
  refine j_iconst (pc := 16) d_Reader_readText_16 ?_
  refine j_puti (pc := 17) d_Reader_readText_17 (fd_Reader_28 rfl) (⟨_, _, _, rfl, Or.inl rfl, rfl⟩ : mFldW M_Reader_readText 28 8 2 .int) hr (fun h3 hr => ?_)
  refine j_aload_n (pc := 20) d_Reader_readText_20 rfl ?_
  refine j_iconst (pc := 21) d_Reader_readText_21 ?_
  refine j_puti (pc := 22) d_Reader_readText_22 (fd_Reader_31 rfl) (⟨_, _, _, rfl, Or.inl rfl, rfl⟩ : mFldW M_Reader_readText 31 8 6 .int) hr (fun h4 hr => ?_)
  refine j_aload_n (pc := 25) d_Reader_readText_25 rfl ?_
  refine j_iconst (pc := 26) d_Reader_readText_26 ?_
  refine j_puti (pc := 27) d_Reader_readText_27 (fd_Reader_15 rfl) (⟨_, _, _, rfl, Or.inl rfl, rfl⟩ : mFldW M_Reader_readText 15 8 7 .int) hr (fun h5 hr => ?_)
  refine j_aload_n (pc := 30) d_Reader_readText_30 rfl ?_
  obtain ⟨ha, hr⟩ := chk_some hr
  refine j_callG (pc := 31) (stk := [(2, v3)]) (as := [(2, v3)]) (P := (fun v9 => [])) (tg := 3) (My := M_Box_becomeEmpty) (mRunV (as := []) (st := []) d_Reader_readText_31 (mc_Box_becomeEmpty (by decide)) rfl (mv_Box_becomeEmpty tb_ml_Reader_34) rfl (Nat.le_of_ble_eq_true rfl) ha) (fun v => rfl) rfl hr (fun r1 h1 => t_Box_becomeEmpty _ _ _ h1) (fun x7 h6 hr => ?_)
  refine j_aload_n (pc := 34) d_Reader_readText_34 rfl ?_
  obtain ⟨ha, hr⟩ := chk_some hr
  refine j_callG (pc := 35) (stk := [(2, v0)]) (as := [(2, v0)]) (P := (fun v9 => [])) (tg := 3) (My := M_Reader_readToken) (mRunV (as := []) (st := []) d_Reader_readText_35 (mc_Reader_readToken (by decide)) rfl (mv_Reader_readToken tb_ml_Reader_39) rfl (Nat.le_of_ble_eq_true rfl) ha) (fun v => rfl) rfl hr (fun r1 h1 => t_Reader_readToken _ _ _ h1) (fun x9 h8 hr => ?_)
  refine j_iconst (pc := 38) d_Reader_readText_38 ?_
  refine j_istore (pc := 39) (ls' := [(2, v0), (2, v1), (0, v2), (2, v3), (0, 0)]) d_Reader_readText_39 rfl ?_
  refine mJ_weak (ls' := [(2, v0), (9, 0), (9, 0), (2, v3), (0, 0)]) (mwk_s (mwk_d (mwk_d (mwk_s (mwk_s mwk_n))))) (t_Reader_readText_L41  _ _ _ hr)
def M_Nb_box : mM := ("NineBars", ⟨"NineBars", "box", "(I)I"⟩, prog_1_method_3_code, 2, some .int, [], 15)
theorem tb_co_Nb_box : mTB (Cond.code ⟨"NineBars", "box", "(I)I"⟩ prog_1_method_3_code 2 (some .int)) := tbq3 148 (by decide +kernel) rfl
theorem mc_Nb_box {M : mM} (hd : 15 < mDp M) : mCal M M_Nb_box 1 := ⟨tb_co_Nb_box, tb_in_NineBars, ⟨by decide +kernel, by decide +kernel⟩, by decide +kernel, hd, by decide⟩
theorem d_Nb_box_0 : decode prog_1_method_3_code 0 = .ok (.iload_n 1, 1) := by decide +kernel
theorem d_Nb_box_1 : decode prog_1_method_3_code 1 = .ok (.ifCond .lt 11, 3) := by decide +kernel
theorem d_Nb_box_12 : decode prog_1_method_3_code 12 = .ok (.new 109, 3) := by decide +kernel
theorem d_Nb_box_15 : decode prog_1_method_3_code 15 = .ok (.dup, 1) := by decide +kernel
theorem d_Nb_box_16 : decode prog_1_method_3_code 16 = .ok (.ldc 111, 2) := by decide +kernel
theorem d_Nb_box_18 : decode prog_1_method_3_code 18 = .ok (.invokespecial 113, 3) := by decide +kernel
theorem d_Nb_box_21 : decode prog_1_method_3_code 21 = .ok (.athrow, 1) := by decide +kernel
theorem tb_cl_Nb_109 : mTB (Cond.classLink "NineBars" 109 "java/lang/IllegalArgumentException") := tbq3 149 (by decide +kernel) rfl
theorem tb_in_java_lang_IllegalArgumentException : mTB (Cond.initialized "java/lang/IllegalArgumentException") := tbq1 16 (by decide +kernel) rfl
theorem d_Nb_box_4 : decode prog_1_method_3_code 4 = .ok (.iload_n 1, 1) := by decide +kernel
theorem d_Nb_box_5 : decode prog_1_method_3_code 5 = .ok (.aload_n 0, 1) := by decide +kernel
theorem d_Nb_box_6 : decode prog_1_method_3_code 6 = .ok (.getfield 102, 3) := by decide +kernel
theorem d_Nb_box_9 : decode prog_1_method_3_code 9 = .ok (.if_icmp .le 13, 3) := by decide +kernel
theorem d_Nb_box_22 : decode prog_1_method_3_code 22 = .ok (.aload_n 0, 1) := by decide +kernel
theorem d_Nb_box_23 : decode prog_1_method_3_code 23 = .ok (.getfield 20, 3) := by decide +kernel
theorem d_Nb_box_26 : decode prog_1_method_3_code 26 = .ok (.aload_n 0, 1) := by decide +kernel
theorem d_Nb_box_27 : decode prog_1_method_3_code 27 = .ok (.getfield 9, 3) := by decide +kernel
theorem d_Nb_box_30 : decode prog_1_method_3_code 30 = .ok (.iload_n 1, 1) := by decide +kernel
theorem d_Nb_box_31 : decode prog_1_method_3_code 31 = .ok (.aload_n 0, 1) := by decide +kernel
theorem d_Nb_box_32 : decode prog_1_method_3_code 32 = .ok (.getfield 31, 3) := by decide +kernel
theorem d_Nb_box_35 : decode prog_1_method_3_code 35 = .ok (.invokevirtual 116, 3) := by decide +kernel
theorem tb_ml_Nb_116 : mTB (Cond.methodLink "NineBars" 116 ⟨"NineBars$Reader", "readText", "([BILNineBars$Box;)V"⟩) := tbq3 217 (by decide +kernel) rfl
theorem tb_im_Reader_readText : mTB (Cond.instanceMethod ⟨"NineBars$Reader", "readText", "([BILNineBars$Box;)V"⟩) := tbq3 218 (by decide +kernel) rfl
theorem tb_se_Reader_readText : mTB (Cond.selects "NineBars$Reader" ⟨"NineBars$Reader", "readText", "([BILNineBars$Box;)V"⟩ ⟨"NineBars$Reader", "readText", "([BILNineBars$Box;)V"⟩) := tbq3 219 (by decide +kernel) rfl
theorem mv_Reader_readText {M : mM} {idx : Nat} (h : mTB (Cond.methodLink (mO M) idx ⟨"NineBars$Reader", "readText", "([BILNineBars$Box;)V"⟩)) : mCaV M M_Reader_readText idx 8 := ⟨h, tb_im_Reader_readText, tb_se_Reader_readText, by decide, TX8, 8, rfl⟩
theorem d_Nb_box_38 : decode prog_1_method_3_code 38 = .ok (.aload_n 0, 1) := by decide +kernel
theorem d_Nb_box_39 : decode prog_1_method_3_code 39 = .ok (.iconst 0, 1) := by decide +kernel
theorem d_Nb_box_40 : decode prog_1_method_3_code 40 = .ok (.putfield 102, 3) := by decide +kernel
theorem d_Nb_box_43 : decode prog_1_method_3_code 43 = .ok (.aload_n 0, 1) := by decide +kernel
theorem d_Nb_box_44 : decode prog_1_method_3_code 44 = .ok (.aload_n 0, 1) := by decide +kernel
theorem d_Nb_box_45 : decode prog_1_method_3_code 45 = .ok (.getfield 20, 3) := by decide +kernel
theorem tb_fl_Nb_120 : mTN (Cond.fieldLinkNest "NineBars" 120 "NineBars$Reader" "fault" "I" "NineBars") := tbqn1 48 (by decide +kernel) rfl
theorem fd_Nb_120 {M : mM} (h : mO M = "NineBars") : mFld M 120 8 6 0 := ⟨_, _, _, tyX8, rfl, by decide, by decide, rfl, uw_8, tyX8_ok, nmX8, by rw [h]; exact Or.inr ⟨_, tb_fl_Nb_120⟩⟩
theorem d_Nb_box_48 : decode prog_1_method_3_code 48 = .ok (.getfield 120, 3) := by decide +kernel
theorem tb_fl_Nb_123 : mTB (Cond.fieldLink "NineBars" 123 "NineBars" "latestFault" "I") := tbq2 159 (by decide +kernel) rfl
theorem fd_Nb_123 {M : mM} (h : mO M = "NineBars") : mFld M 123 10 2 0 := ⟨_, _, _, tyX10, rfl, by decide, by decide, rfl, uw_10, tyX10_ok, nmX10, by rw [h]; exact Or.inl tb_fl_Nb_123⟩
theorem d_Nb_box_51 : decode prog_1_method_3_code 51 = .ok (.putfield 123, 3) := by decide +kernel
theorem d_Nb_box_54 : decode prog_1_method_3_code 54 = .ok (.aload_n 0, 1) := by decide +kernel
theorem d_Nb_box_55 : decode prog_1_method_3_code 55 = .ok (.aload_n 0, 1) := by decide +kernel
theorem d_Nb_box_56 : decode prog_1_method_3_code 56 = .ok (.getfield 20, 3) := by decide +kernel
theorem tb_fl_Nb_126 : mTN (Cond.fieldLinkNest "NineBars" 126 "NineBars$Reader" "faultAt" "I" "NineBars") := tbqn1 50 (by decide +kernel) rfl
theorem fd_Nb_126 {M : mM} (h : mO M = "NineBars") : mFld M 126 8 7 0 := ⟨_, _, _, tyX8, rfl, by decide, by decide, rfl, uw_8, tyX8_ok, nmX8, by rw [h]; exact Or.inr ⟨_, tb_fl_Nb_126⟩⟩
theorem d_Nb_box_59 : decode prog_1_method_3_code 59 = .ok (.getfield 126, 3) := by decide +kernel
theorem d_Nb_box_62 : decode prog_1_method_3_code 62 = .ok (.putfield 13, 3) := by decide +kernel
theorem d_Nb_box_65 : decode prog_1_method_3_code 65 = .ok (.aload_n 0, 1) := by decide +kernel
theorem d_Nb_box_66 : decode prog_1_method_3_code 66 = .ok (.getfield 123, 3) := by decide +kernel
theorem d_Nb_box_69 : decode prog_1_method_3_code 69 = .ok (.ifCond .eq 11, 3) := by decide +kernel
theorem d_Nb_box_80 : decode prog_1_method_3_code 80 = .ok (.aload_n 0, 1) := by decide +kernel
theorem d_Nb_box_81 : decode prog_1_method_3_code 81 = .ok (.dup, 1) := by decide +kernel
theorem tb_fl_Nb_129 : mTB (Cond.fieldLink "NineBars" 129 "NineBars" "editions" "I") := tbq2 161 (by decide +kernel) rfl
theorem fd_Nb_129 {M : mM} (h : mO M = "NineBars") : mFld M 129 10 4 0 := ⟨_, _, _, tyX10, rfl, by decide, by decide, rfl, uw_10, tyX10_ok, nmX10, by rw [h]; exact Or.inl tb_fl_Nb_129⟩
theorem d_Nb_box_82 : decode prog_1_method_3_code 82 = .ok (.getfield 129, 3) := by decide +kernel
theorem d_Nb_box_85 : decode prog_1_method_3_code 85 = .ok (.iconst 1, 1) := by decide +kernel
theorem d_Nb_box_86 : decode prog_1_method_3_code 86 = .ok (.iadd, 1) := by decide +kernel
theorem d_Nb_box_87 : decode prog_1_method_3_code 87 = .ok (.putfield 129, 3) := by decide +kernel
theorem d_Nb_box_90 : decode prog_1_method_3_code 90 = .ok (.aload_n 0, 1) := by decide +kernel
theorem d_Nb_box_91 : decode prog_1_method_3_code 91 = .ok (.getfield 31, 3) := by decide +kernel
theorem d_Nb_box_94 : decode prog_1_method_3_code 94 = .ok (.aload_n 0, 1) := by decide +kernel
theorem d_Nb_box_95 : decode prog_1_method_3_code 95 = .ok (.getfield 129, 3) := by decide +kernel
theorem tb_fl_Nb_132 : mTN (Cond.fieldLinkNest "NineBars" 132 "NineBars$Box" "edition" "I" "NineBars") := tbqn1 77 (by decide +kernel) rfl
theorem fd_Nb_132 {M : mM} (h : mO M = "NineBars") : mFld M 132 0 0 0 := ⟨_, _, _, tyX0, rfl, by decide, by decide, rfl, uw_0, tyX0_ok, nmX0, by rw [h]; exact Or.inr ⟨_, tb_fl_Nb_132⟩⟩
theorem d_Nb_box_98 : decode prog_1_method_3_code 98 = .ok (.putfield 132, 3) := by decide +kernel
theorem d_Nb_box_101 : decode prog_1_method_3_code 101 = .ok (.aload_n 0, 1) := by decide +kernel
theorem d_Nb_box_102 : decode prog_1_method_3_code 102 = .ok (.getfield 27, 3) := by decide +kernel
theorem d_Nb_box_105 : decode prog_1_method_3_code 105 = .ok (.aload_n 0, 1) := by decide +kernel
theorem d_Nb_box_106 : decode prog_1_method_3_code 106 = .ok (.getfield 31, 3) := by decide +kernel
theorem d_Nb_box_109 : decode prog_1_method_3_code 109 = .ok (.invokevirtual 135, 3) := by decide +kernel
theorem tb_ml_Nb_135 : mTB (Cond.methodLink "NineBars" 135 ⟨"NineBars$Box", "become", "(LNineBars$Box;)V"⟩) := tbq4 96 (by decide +kernel) rfl
theorem tb_im_Box_become : mTB (Cond.instanceMethod ⟨"NineBars$Box", "become", "(LNineBars$Box;)V"⟩) := tbq4 97 (by decide +kernel) rfl
theorem tb_se_Box_become : mTB (Cond.selects "NineBars$Box" ⟨"NineBars$Box", "become", "(LNineBars$Box;)V"⟩ ⟨"NineBars$Box", "become", "(LNineBars$Box;)V"⟩) := tbq4 98 (by decide +kernel) rfl
theorem mv_Box_become {M : mM} {idx : Nat} (h : mTB (Cond.methodLink (mO M) idx ⟨"NineBars$Box", "become", "(LNineBars$Box;)V"⟩)) : mCaV M M_Box_become idx 0 := ⟨h, tb_im_Box_become, tb_se_Box_become, by decide, TX0, 18, rfl⟩
theorem d_Nb_box_112 : decode prog_1_method_3_code 112 = .ok (.aload_n 0, 1) := by decide +kernel
theorem d_Nb_box_113 : decode prog_1_method_3_code 113 = .ok (.getfield 27, 3) := by decide +kernel
theorem tb_fl_Nb_139 : mTN (Cond.fieldLinkNest "NineBars" 139 "NineBars$Box" "lines" "I" "NineBars") := tbqn1 79 (by decide +kernel) rfl
theorem fd_Nb_139 {M : mM} (h : mO M = "NineBars") : mFld M 139 0 1 0 := ⟨_, _, _, tyX0, rfl, by decide, by decide, rfl, uw_0, tyX0_ok, nmX0, by rw [h]; exact Or.inr ⟨_, tb_fl_Nb_139⟩⟩
theorem d_Nb_box_116 : decode prog_1_method_3_code 116 = .ok (.getfield 139, 3) := by decide +kernel
theorem d_Nb_box_119 : decode prog_1_method_3_code 119 = .ok (.ireturn, 1) := by decide +kernel
theorem d_Nb_box_72 : decode prog_1_method_3_code 72 = .ok (.bipush (-10), 2) := by decide +kernel
theorem d_Nb_box_74 : decode prog_1_method_3_code 74 = .ok (.aload_n 0, 1) := by decide +kernel
theorem d_Nb_box_75 : decode prog_1_method_3_code 75 = .ok (.getfield 123, 3) := by decide +kernel
theorem d_Nb_box_78 : decode prog_1_method_3_code 78 = .ok (.isub, 1) := by decide +kernel
theorem d_Nb_box_79 : decode prog_1_method_3_code 79 = .ok (.ireturn, 1) := by decide +kernel
theorem t_Nb_box {G : mG} (h : mH) (v0 v1 : Int) (r : mR) (hr : f_Nb_box h v0 v1 = some r) : mJM G M_Nb_box [(2, v0), (0, v1)] h r := by
  refine mJM_of (L := [(2, v0), (0, v1)]) rfl rfl rfl (Nat.le_of_ble_eq_true rfl) ?_
  unfold f_Nb_box at hr
  refine j_iload_n (pc := 0) d_Nb_box_0 rfl ?_
  refine j_if_lt (pc := 1) (tgt := 12) d_Nb_box_1 hr (fun hr => ?_) (fun hr => ?_)
  · exact j_throw (pc := 12) (x9 := 7) (text := "not so many bytes are on the tape") (k := 10) d_Nb_box_12 d_Nb_box_15 d_Nb_box_16 d_Nb_box_18 d_Nb_box_21 rfl (by decide +kernel) tb_cl_Nb_109 tb_in_java_lang_IllegalArgumentException (by decide +kernel) rfl (Nat.le_of_ble_eq_true rfl) hr
  · refine j_iload_n (pc := 4) d_Nb_box_4 rfl ?_
    refine j_aload_n (pc := 5) d_Nb_box_5 rfl ?_
    refine j_getf (pc := 6) d_Nb_box_6 (fd_Nb_102 rfl) hr (fun hr => ?_)
    refine j_icmp_le (pc := 9) (tgt := 22) d_Nb_box_9 hr (fun hr => ?_) (fun hr => ?_)
    · refine j_aload_n (pc := 22) d_Nb_box_22 rfl ?_
      refine j_getf (pc := 23) d_Nb_box_23 (fd_Nb_20 rfl) hr (fun hr => ?_)
      refine j_aload_n (pc := 26) d_Nb_box_26 rfl ?_
      refine j_getf (pc := 27) d_Nb_box_27 (fd_Nb_9 rfl) hr (fun hr => ?_)
      refine j_iload_n (pc := 30) d_Nb_box_30 rfl ?_
      refine j_aload_n (pc := 31) d_Nb_box_31 rfl ?_
      refine j_getf (pc := 32) d_Nb_box_32 (fd_Nb_31 rfl) hr (fun hr => ?_)
      obtain ⟨ha, hr⟩ := chk_some hr
      refine j_callG (pc := 35) (stk := [(2, hpV h v0 7), (0, v1), (2, hpV h v0 0), (2, hpV h v0 5)]) (as := [(2, hpV h v0 5), (2, hpV h v0 0), (0, v1), (2, hpV h v0 7)]) (P := (fun v9 => [])) (tg := 3) (My := M_Reader_readText) (mRunV (as := [(2, hpV h v0 0), (0, v1), (2, hpV h v0 7)]) (st := []) d_Nb_box_35 (mc_Reader_readText (by decide)) rfl (mv_Reader_readText tb_ml_Nb_116) rfl (Nat.le_of_ble_eq_true rfl) ha) (fun v => rfl) rfl hr (fun r1 h1 => t_Reader_readText _ _ _ _ _ _ h1) (fun x2 h1 hr => ?_)
      refine j_aload_n (pc := 38) d_Nb_box_38 rfl ?_
      refine j_iconst (pc := 39) d_Nb_box_39 ?_
      refine j_puti (pc := 40) d_Nb_box_40 (fd_Nb_102 rfl) (⟨_, _, _, rfl, Or.inl rfl, rfl⟩ : mFldW M_Nb_box 102 10 1 .int) hr (fun h3 hr => ?_)
      refine j_aload_n (pc := 43) d_Nb_box_43 rfl ?_
      refine j_aload_n (pc := 44) d_Nb_box_44 rfl ?_
      refine j_getf (pc := 45) d_Nb_box_45 (fd_Nb_20 rfl) hr (fun hr => ?_)
      refine j_getf (pc := 48) d_Nb_box_48 (fd_Nb_120 rfl) hr (fun hr => ?_)
      refine j_puti (pc := 51) d_Nb_box_51 (fd_Nb_123 rfl) (⟨_, _, _, rfl, Or.inl rfl, rfl⟩ : mFldW M_Nb_box 123 10 2 .int) hr (fun h4 hr => ?_)
      refine j_aload_n (pc := 54) d_Nb_box_54 rfl ?_
      refine j_aload_n (pc := 55) d_Nb_box_55 rfl ?_
      refine j_getf (pc := 56) d_Nb_box_56 (fd_Nb_20 rfl) hr (fun hr => ?_)
      refine j_getf (pc := 59) d_Nb_box_59 (fd_Nb_126 rfl) hr (fun hr => ?_)
      refine j_puti (pc := 62) d_Nb_box_62 (fd_Nb_13 rfl) (⟨_, _, _, rfl, Or.inl rfl, rfl⟩ : mFldW M_Nb_box 13 10 3 .int) hr (fun h5 hr => ?_)
      refine j_aload_n (pc := 65) d_Nb_box_65 rfl ?_
      refine j_getf (pc := 66) d_Nb_box_66 (fd_Nb_123 rfl) hr (fun hr => ?_)
      refine j_if_eq (pc := 69) (tgt := 80) d_Nb_box_69 hr (fun hr => ?_) (fun hr => ?_)
      · refine j_aload_n (pc := 80) d_Nb_box_80 rfl ?_
        refine j_dup (pc := 81) d_Nb_box_81 ?_
        refine j_getf (pc := 82) d_Nb_box_82 (fd_Nb_129 rfl) hr (fun hr => ?_)
        refine j_iconst (pc := 85) d_Nb_box_85 ?_
        refine j_iadd (pc := 86) d_Nb_box_86 ?_
        refine j_puti (pc := 87) d_Nb_box_87 (fd_Nb_129 rfl) (⟨_, _, _, rfl, Or.inl rfl, rfl⟩ : mFldW M_Nb_box 129 10 4 .int) hr (fun h6 hr => ?_)
        refine j_aload_n (pc := 90) d_Nb_box_90 rfl ?_
        refine j_getf (pc := 91) d_Nb_box_91 (fd_Nb_31 rfl) hr (fun hr => ?_)
        refine j_aload_n (pc := 94) d_Nb_box_94 rfl ?_
        refine j_getf (pc := 95) d_Nb_box_95 (fd_Nb_129 rfl) hr (fun hr => ?_)
        refine j_puti (pc := 98) d_Nb_box_98 (fd_Nb_132 rfl) (⟨_, _, _, rfl, Or.inl rfl, rfl⟩ : mFldW M_Nb_box 132 0 0 .int) hr (fun h7 hr => ?_)
        refine j_aload_n (pc := 101) d_Nb_box_101 rfl ?_
        refine j_getf (pc := 102) d_Nb_box_102 (fd_Nb_27 rfl) hr (fun hr => ?_)
        refine j_aload_n (pc := 105) d_Nb_box_105 rfl ?_
        refine j_getf (pc := 106) d_Nb_box_106 (fd_Nb_31 rfl) hr (fun hr => ?_)
        obtain ⟨ha, hr⟩ := chk_some hr
        refine j_callG (pc := 109) (stk := [(2, hpV h7 v0 7), (2, hpV h7 v0 6)]) (as := [(2, hpV h7 v0 6), (2, hpV h7 v0 7)]) (P := (fun v9 => [])) (tg := 3) (My := M_Box_become) (mRunV (as := [(2, hpV h7 v0 7)]) (st := []) d_Nb_box_109 (mc_Box_become (by decide)) rfl (mv_Box_become tb_ml_Nb_135) rfl (Nat.le_of_ble_eq_true rfl) ha) (fun v => rfl) rfl hr (fun r1 h1 => t_Box_become _ _ _ _ h1) (fun x9 h8 hr => ?_)
        refine j_aload_n (pc := 112) d_Nb_box_112 rfl ?_
        refine j_getf (pc := 113) d_Nb_box_113 (fd_Nb_27 rfl) hr (fun hr => ?_)
        refine j_getf (pc := 116) d_Nb_box_116 (fd_Nb_139 rfl) hr (fun hr => ?_)
        exact j_iret (pc := 119) d_Nb_box_119 rfl hr
      · refine j_bipush (pc := 72) d_Nb_box_72 ?_
        refine j_aload_n (pc := 74) d_Nb_box_74 rfl ?_
        refine j_getf (pc := 75) d_Nb_box_75 (fd_Nb_123 rfl) hr (fun hr => ?_)
        refine j_isub (pc := 78) d_Nb_box_78 ?_
        exact j_iret (pc := 79) d_Nb_box_79 rfl hr
    · exact j_throw (pc := 12) (x9 := 7) (text := "not so many bytes are on the tape") (k := 10) d_Nb_box_12 d_Nb_box_15 d_Nb_box_16 d_Nb_box_18 d_Nb_box_21 rfl (by decide +kernel) tb_cl_Nb_109 tb_in_java_lang_IllegalArgumentException (by decide +kernel) rfl (Nat.le_of_ble_eq_true rfl) hr
def M_Nb_fault : mM := ("NineBars", ⟨"NineBars", "fault", "(I)I"⟩, prog_1_method_4_code, 2, some .int, [], 1)
theorem tb_co_Nb_fault : mTB (Cond.code ⟨"NineBars", "fault", "(I)I"⟩ prog_1_method_4_code 2 (some .int)) := tbq2 226 (by decide +kernel) rfl
theorem mc_Nb_fault {M : mM} (hd : 1 < mDp M) : mCal M M_Nb_fault 1 := ⟨tb_co_Nb_fault, tb_in_NineBars, ⟨by decide +kernel, by decide +kernel⟩, by decide +kernel, hd, by decide⟩
theorem d_Nb_fault_0 : decode prog_1_method_4_code 0 = .ok (.iload_n 1, 1) := by decide +kernel
theorem d_Nb_fault_1 : decode prog_1_method_4_code 1 = .ok (.ifCond .ne 10, 3) := by decide +kernel
theorem d_Nb_fault_11 : decode prog_1_method_4_code 11 = .ok (.iload_n 1, 1) := by decide +kernel
theorem d_Nb_fault_12 : decode prog_1_method_4_code 12 = .ok (.iconst 1, 1) := by decide +kernel
theorem d_Nb_fault_13 : decode prog_1_method_4_code 13 = .ok (.if_icmp .ne 10, 3) := by decide +kernel
theorem d_Nb_fault_23 : decode prog_1_method_4_code 23 = .ok (.iconst (-1), 1) := by decide +kernel
theorem d_Nb_fault_24 : decode prog_1_method_4_code 24 = .ok (.ireturn, 1) := by decide +kernel
theorem d_Nb_fault_16 : decode prog_1_method_4_code 16 = .ok (.aload_n 0, 1) := by decide +kernel
theorem d_Nb_fault_17 : decode prog_1_method_4_code 17 = .ok (.getfield 13, 3) := by decide +kernel
theorem d_Nb_fault_20 : decode prog_1_method_4_code 20 = .ok (.goto 4, 3) := by decide +kernel
theorem d_Nb_fault_4 : decode prog_1_method_4_code 4 = .ok (.aload_n 0, 1) := by decide +kernel
theorem d_Nb_fault_5 : decode prog_1_method_4_code 5 = .ok (.getfield 123, 3) := by decide +kernel
theorem d_Nb_fault_8 : decode prog_1_method_4_code 8 = .ok (.goto 16, 3) := by decide +kernel
theorem t_Nb_fault {G : mG} (h : mH) (v0 v1 : Int) (r : mR) (hr : f_Nb_fault h v0 v1 = some r) : mJM G M_Nb_fault [(2, v0), (0, v1)] h r := by
  refine mJM_of (L := [(2, v0), (0, v1)]) rfl rfl rfl (Nat.le_of_ble_eq_true rfl) ?_
  unfold f_Nb_fault at hr
  refine j_iload_n (pc := 0) d_Nb_fault_0 rfl ?_
  refine j_if_ne (pc := 1) (tgt := 11) d_Nb_fault_1 hr (fun hr => ?_) (fun hr => ?_)
  · refine j_iload_n (pc := 11) d_Nb_fault_11 rfl ?_
    refine j_iconst (pc := 12) d_Nb_fault_12 ?_
    refine j_icmp_ne (pc := 13) (tgt := 23) d_Nb_fault_13 hr (fun hr => ?_) (fun hr => ?_)
    · refine j_iconst (pc := 23) d_Nb_fault_23 ?_
      exact j_iret (pc := 24) d_Nb_fault_24 rfl hr
    · refine j_aload_n (pc := 16) d_Nb_fault_16 rfl ?_
      refine j_getf (pc := 17) d_Nb_fault_17 (fd_Nb_13 rfl) hr (fun hr => ?_)
      refine j_goto (pc := 20) (tgt := 24) d_Nb_fault_20 ?_
      exact j_iret (pc := 24) d_Nb_fault_24 rfl hr
  · refine j_aload_n (pc := 4) d_Nb_fault_4 rfl ?_
    refine j_getf (pc := 5) d_Nb_fault_5 (fd_Nb_123 rfl) hr (fun hr => ?_)
    refine j_goto (pc := 8) (tgt := 24) d_Nb_fault_8 ?_
    exact j_iret (pc := 24) d_Nb_fault_24 rfl hr
