def M_Md_laysNow : mM := ("NineBarsModel", ⟨"NineBarsModel", "laysNow", "()V"⟩, prog_13_method_41_code, 2, none, [], 3)
theorem tb_co_Md_laysNow : mTB (Cond.code ⟨"NineBarsModel", "laysNow", "()V"⟩ prog_13_method_41_code 2 (none)) := tbq7 218 (by decide +kernel) rfl
theorem mc_Md_laysNow {M : mM} (hd : 3 < mDp M) : mCal M M_Md_laysNow 0 := ⟨tb_co_Md_laysNow, tb_in_NineBarsModel, ⟨by decide +kernel, by decide +kernel⟩, by decide +kernel, hd, by decide⟩
theorem d_Md_laysNow_0 : decode prog_13_method_41_code 0 = .ok (.iconst 0, 1) := by decide +kernel
theorem d_Md_laysNow_1 : decode prog_13_method_41_code 1 = .ok (.istore_n 1, 1) := by decide +kernel
theorem d_Md_laysNow_2 : decode prog_13_method_41_code 2 = .ok (.iload_n 1, 1) := by decide +kernel
theorem d_Md_laysNow_3 : decode prog_13_method_41_code 3 = .ok (.aload_n 0, 1) := by decide +kernel
theorem d_Md_laysNow_4 : decode prog_13_method_41_code 4 = .ok (.invokevirtual 210, 3) := by decide +kernel
theorem d_Md_laysNow_7 : decode prog_13_method_41_code 7 = .ok (.if_icmp .ge 21, 3) := by decide +kernel
theorem d_Md_laysNow_28 : decode prog_13_method_41_code 28 = .ok (.return_, 1) := by decide +kernel
theorem d_Md_laysNow_10 : decode prog_13_method_41_code 10 = .ok (.aload_n 0, 1) := by decide +kernel
theorem d_Md_laysNow_11 : decode prog_13_method_41_code 11 = .ok (.getfield 33, 3) := by decide +kernel
theorem d_Md_laysNow_14 : decode prog_13_method_41_code 14 = .ok (.iload_n 1, 1) := by decide +kernel
theorem d_Md_laysNow_15 : decode prog_13_method_41_code 15 = .ok (.aload_n 0, 1) := by decide +kernel
theorem d_Md_laysNow_16 : decode prog_13_method_41_code 16 = .ok (.iload_n 1, 1) := by decide +kernel
theorem d_Md_laysNow_17 : decode prog_13_method_41_code 17 = .ok (.iconst 1, 1) := by decide +kernel
theorem d_Md_laysNow_18 : decode prog_13_method_41_code 18 = .ok (.invokevirtual 213, 3) := by decide +kernel
theorem d_Md_laysNow_21 : decode prog_13_method_41_code 21 = .ok (.iastore, 1) := by decide +kernel
theorem d_Md_laysNow_22 : decode prog_13_method_41_code 22 = .ok (.iinc 1 1, 3) := by decide +kernel
theorem d_Md_laysNow_25 : decode prog_13_method_41_code 25 = .ok (.goto (-23), 3) := by decide +kernel
theorem t_Md_laysNow_L2 {G : mG} {r : mR} {v0 : Int}  : ∀ (n : Nat) (h : mH) (v1 : Int), f_Md_laysNow_L2 v0 n h v1 = some r → mJ G M_Md_laysNow 2 [(2, v0), (0, v1)] [] h r := by
  intro n
  induction n with
  | zero =>
    intro h v1 hr
    rw [f_Md_laysNow_L2] at hr
    cases hr
  | succ n hR2 =>
    intro h v1 hr
    rw [f_Md_laysNow_L2] at hr
    refine j_iload_n (pc := 2) d_Md_laysNow_2 rfl ?_
    refine j_aload_n (pc := 3) d_Md_laysNow_3 rfl ?_
    obtain ⟨ha, hr⟩ := chk_some hr
    refine j_callG (pc := 4) (stk := [(2, v0), (0, v1)]) (as := [(2, v0)]) (P := (fun v9 => ((0 : Nat), v9) :: [(0, v1)])) (tg := 0) (My := M_Md_bars) (mRunV (as := []) (st := [(0, v1)]) d_Md_laysNow_4 (mc_Md_bars (by decide)) rfl (mv_Md_bars tb_ml_Md_210) rfl (Nat.le_of_ble_eq_true rfl) ha) (fun v => rfl) rfl hr (fun r1 h1 => t_Md_bars _ _ _ h1) (fun x2 h1 hr => ?_)
    refine j_icmp_ge (pc := 7) (tgt := 28) d_Md_laysNow_7 hr (fun hr => ?_) (fun hr => ?_)
    · exact j_vret (pc := 28) d_Md_laysNow_28 rfl hr
    · refine j_aload_n (pc := 10) d_Md_laysNow_10 rfl ?_
      refine j_getf (pc := 11) d_Md_laysNow_11 (fd_Md_33 rfl) hr (fun hr => ?_)
      refine j_iload_n (pc := 14) d_Md_laysNow_14 rfl ?_
      refine j_aload_n (pc := 15) d_Md_laysNow_15 rfl ?_
      refine j_iload_n (pc := 16) d_Md_laysNow_16 rfl ?_
      refine j_iconst (pc := 17) d_Md_laysNow_17 ?_
      obtain ⟨ha, hr⟩ := chk_some hr
      refine j_callG (pc := 18) (stk := [(0, 1), (0, v1), (2, v0), (0, v1), (2, hpV h1 v0 17)]) (as := [(2, v0), (0, v1), (0, 1)]) (P := (fun v9 => ((0 : Nat), v9) :: [(0, v1), (2, hpV h1 v0 17)])) (tg := 0) (My := M_Md_of) (mRunV (as := [(0, v1), (0, 1)]) (st := [(0, v1), (2, hpV h1 v0 17)]) d_Md_laysNow_18 (mc_Md_of (by decide)) rfl (mv_Md_of tb_ml_Md_213) rfl (Nat.le_of_ble_eq_true rfl) ha) (fun v => rfl) rfl hr (fun r1 h1 => t_Md_of _ _ _ _ _ h1) (fun x4 h3 hr => ?_)
      refine j_iastore (pc := 21) d_Md_laysNow_21 hr (fun h5 hr => ?_)
      refine j_iincW (pc := 22) (L := fun x6 => [(2, v0), (0, x6)]) d_Md_laysNow_22 rfl (fun _ => rfl) hr (fun x6 hr => ?_)
      refine j_goto (pc := 25) (tgt := 2) d_Md_laysNow_25 ?_
      exact mJ_weak (ls' := [(2, v0), (0, x6)]) (mwk_s (mwk_s mwk_n)) (hR2 h5 _ hr)
theorem t_Md_laysNow {G : mG} (h : mH) (v0 : Int) (r : mR) (hr : f_Md_laysNow h v0 = some r) : mJM G M_Md_laysNow [(2, v0)] h r := by
  refine mJM_of (L := [(2, v0), (9, 0)]) rfl rfl rfl (Nat.le_of_ble_eq_true rfl) ?_
  unfold f_Md_laysNow at hr
  refine j_iconst (pc := 0) d_Md_laysNow_0 ?_
  refine j_istore_n (pc := 1) (ls' := [(2, v0), (0, 0)]) d_Md_laysNow_1 rfl ?_
  refine mJ_weak (ls' := [(2, v0), (0, 0)]) (mwk_s (mwk_s mwk_n)) (t_Md_laysNow_L2  _ _ _ hr)
def M_Md_whyNow : mM := ("NineBarsModel", ⟨"NineBarsModel", "whyNow", "(IZ)I"⟩, prog_13_method_42_code, 3, some .int, [], 7)
theorem tb_co_Md_whyNow : mTB (Cond.code ⟨"NineBarsModel", "whyNow", "(IZ)I"⟩ prog_13_method_42_code 3 (some .int)) := tbq8 29 (by decide +kernel) rfl
theorem mc_Md_whyNow {M : mM} (hd : 7 < mDp M) : mCal M M_Md_whyNow 2 := ⟨tb_co_Md_whyNow, tb_in_NineBarsModel, ⟨by decide +kernel, by decide +kernel⟩, by decide +kernel, hd, by decide⟩
theorem d_Md_whyNow_0 : decode prog_13_method_42_code 0 = .ok (.aload_n 0, 1) := by decide +kernel
theorem d_Md_whyNow_1 : decode prog_13_method_42_code 1 = .ok (.invokevirtual 241, 3) := by decide +kernel
theorem tb_ml_Md_241 : mTB (Cond.methodLink "NineBarsModel" 241 ⟨"NineBarsModel", "laysNow", "()V"⟩) := tbq7 215 (by decide +kernel) rfl
theorem tb_im_Md_laysNow : mTB (Cond.instanceMethod ⟨"NineBarsModel", "laysNow", "()V"⟩) := tbq7 217 (by decide +kernel) rfl
theorem tb_se_Md_laysNow : mTB (Cond.selects "NineBarsModel" ⟨"NineBarsModel", "laysNow", "()V"⟩ ⟨"NineBarsModel", "laysNow", "()V"⟩) := tbqp 64 (by decide +kernel) rfl
theorem mv_Md_laysNow {M : mM} {idx : Nat} (h : mTB (Cond.methodLink (mO M) idx ⟨"NineBarsModel", "laysNow", "()V"⟩)) : mCaV M M_Md_laysNow idx 11 := ⟨h, tb_im_Md_laysNow, tb_se_Md_laysNow, by decide, TX11, 40, rfl⟩
theorem d_Md_whyNow_4 : decode prog_13_method_42_code 4 = .ok (.aload_n 0, 1) := by decide +kernel
theorem d_Md_whyNow_5 : decode prog_13_method_42_code 5 = .ok (.iload_n 1, 1) := by decide +kernel
theorem d_Md_whyNow_6 : decode prog_13_method_42_code 6 = .ok (.iload_n 2, 1) := by decide +kernel
theorem d_Md_whyNow_7 : decode prog_13_method_42_code 7 = .ok (.aload_n 0, 1) := by decide +kernel
theorem d_Md_whyNow_8 : decode prog_13_method_42_code 8 = .ok (.invokevirtual 244, 3) := by decide +kernel
theorem tb_ml_Md_244 : mTB (Cond.methodLink "NineBarsModel" 244 ⟨"NineBarsModel", "worn", "()I"⟩) := tbq8 30 (by decide +kernel) rfl
theorem tb_im_Md_worn : mTB (Cond.instanceMethod ⟨"NineBarsModel", "worn", "()I"⟩) := tbq8 32 (by decide +kernel) rfl
theorem tb_se_Md_worn : mTB (Cond.selects "NineBarsModel" ⟨"NineBarsModel", "worn", "()I"⟩ ⟨"NineBarsModel", "worn", "()I"⟩) := tbqp 73 (by decide +kernel) rfl
theorem mv_Md_worn {M : mM} {idx : Nat} (h : mTB (Cond.methodLink (mO M) idx ⟨"NineBarsModel", "worn", "()I"⟩)) : mCaV M M_Md_worn idx 11 := ⟨h, tb_im_Md_worn, tb_se_Md_worn, by decide, TX11, 40, rfl⟩
theorem d_Md_whyNow_11 : decode prog_13_method_42_code 11 = .ok (.invokevirtual 247, 3) := by decide +kernel
theorem tb_ml_Md_247 : mTB (Cond.methodLink "NineBarsModel" 247 ⟨"NineBarsModel", "whyNot", "(IZI)I"⟩) := tbq8 34 (by decide +kernel) rfl
theorem tb_im_Md_whyNot : mTB (Cond.instanceMethod ⟨"NineBarsModel", "whyNot", "(IZI)I"⟩) := tbq8 36 (by decide +kernel) rfl
theorem tb_se_Md_whyNot : mTB (Cond.selects "NineBarsModel" ⟨"NineBarsModel", "whyNot", "(IZI)I"⟩ ⟨"NineBarsModel", "whyNot", "(IZI)I"⟩) := tbqp 74 (by decide +kernel) rfl
theorem mv_Md_whyNot {M : mM} {idx : Nat} (h : mTB (Cond.methodLink (mO M) idx ⟨"NineBarsModel", "whyNot", "(IZI)I"⟩)) : mCaV M M_Md_whyNot idx 11 := ⟨h, tb_im_Md_whyNot, tb_se_Md_whyNot, by decide, TX11, 40, rfl⟩
theorem d_Md_whyNow_14 : decode prog_13_method_42_code 14 = .ok (.ireturn, 1) := by decide +kernel
theorem t_Md_whyNow {G : mG} (h : mH) (v0 v1 v2 : Int) (r : mR) (hr : f_Md_whyNow h v0 v1 v2 = some r) : mJM G M_Md_whyNow [(2, v0), (0, v1), (0, v2)] h r := by
  refine mJM_of (L := [(2, v0), (0, v1), (0, v2)]) rfl rfl rfl (Nat.le_of_ble_eq_true rfl) ?_
  unfold f_Md_whyNow at hr
  refine j_aload_n (pc := 0) d_Md_whyNow_0 rfl ?_
  obtain ⟨ha, hr⟩ := chk_some hr
  refine j_callG (pc := 1) (stk := [(2, v0)]) (as := [(2, v0)]) (P := (fun v9 => [])) (tg := 3) (My := M_Md_laysNow) (mRunV (as := []) (st := []) d_Md_whyNow_1 (mc_Md_laysNow (by decide)) rfl (mv_Md_laysNow tb_ml_Md_241) rfl (Nat.le_of_ble_eq_true rfl) ha) (fun v => rfl) rfl hr (fun r1 h1 => t_Md_laysNow _ _ _ h1) (fun x2 h1 hr => ?_)
  refine j_aload_n (pc := 4) d_Md_whyNow_4 rfl ?_
  refine j_iload_n (pc := 5) d_Md_whyNow_5 rfl ?_
  refine j_iload_n (pc := 6) d_Md_whyNow_6 rfl ?_
  refine j_aload_n (pc := 7) d_Md_whyNow_7 rfl ?_
  obtain ⟨ha, hr⟩ := chk_some hr
  refine j_callG (pc := 8) (stk := [(2, v0), (0, v2), (0, v1), (2, v0)]) (as := [(2, v0)]) (P := (fun v9 => ((0 : Nat), v9) :: [(0, v2), (0, v1), (2, v0)])) (tg := 0) (My := M_Md_worn) (mRunV (as := []) (st := [(0, v2), (0, v1), (2, v0)]) d_Md_whyNow_8 (mc_Md_worn (by decide)) rfl (mv_Md_worn tb_ml_Md_244) rfl (Nat.le_of_ble_eq_true rfl) ha) (fun v => rfl) rfl hr (fun r1 h1 => t_Md_worn _ _ _ h1) (fun x4 h3 hr => ?_)
  obtain ⟨ha, hr⟩ := chk_some hr
  refine j_callG (pc := 11) (stk := [(0, x4), (0, v2), (0, v1), (2, v0)]) (as := [(2, v0), (0, v1), (0, v2), (0, x4)]) (P := (fun v9 => ((0 : Nat), v9) :: [])) (tg := 0) (My := M_Md_whyNot) (mRunV (as := [(0, v1), (0, v2), (0, x4)]) (st := []) d_Md_whyNow_11 (mc_Md_whyNot (by decide)) rfl (mv_Md_whyNot tb_ml_Md_247) rfl (Nat.le_of_ble_eq_true rfl) ha) (fun v => rfl) rfl hr (fun r1 h1 => t_Md_whyNot _ _ _ _ _ _ h1) (fun x6 h5 hr => ?_)
  exact j_iret (pc := 14) d_Md_whyNow_14 rfl hr
def M_Md_then : mM := ("NineBarsModel", ⟨"NineBarsModel", "then", "(III)I"⟩, prog_13_method_43_code, 4, some .int, [], 7)
theorem tb_co_Md_then : mTB (Cond.code ⟨"NineBarsModel", "then", "(III)I"⟩ prog_13_method_43_code 4 (some .int)) := tbq8 108 (by decide +kernel) rfl
theorem mc_Md_then {M : mM} (hd : 7 < mDp M) : mCal M M_Md_then 3 := ⟨tb_co_Md_then, tb_in_NineBarsModel, ⟨by decide +kernel, by decide +kernel⟩, by decide +kernel, hd, by decide⟩
theorem d_Md_then_0 : decode prog_13_method_43_code 0 = .ok (.aload_n 0, 1) := by decide +kernel
theorem d_Md_then_1 : decode prog_13_method_43_code 1 = .ok (.iload_n 1, 1) := by decide +kernel
theorem d_Md_then_2 : decode prog_13_method_43_code 2 = .ok (.invokevirtual 251, 3) := by decide +kernel
theorem tb_ml_Md_251 : mTB (Cond.methodLink "NineBarsModel" 251 ⟨"NineBarsModel", "lays", "(I)V"⟩) := tbq8 109 (by decide +kernel) rfl
theorem tb_im_Md_lays : mTB (Cond.instanceMethod ⟨"NineBarsModel", "lays", "(I)V"⟩) := tbq8 111 (by decide +kernel) rfl
theorem tb_se_Md_lays : mTB (Cond.selects "NineBarsModel" ⟨"NineBarsModel", "lays", "(I)V"⟩ ⟨"NineBarsModel", "lays", "(I)V"⟩) := tbqp 85 (by decide +kernel) rfl
theorem mv_Md_lays {M : mM} {idx : Nat} (h : mTB (Cond.methodLink (mO M) idx ⟨"NineBarsModel", "lays", "(I)V"⟩)) : mCaV M M_Md_lays idx 11 := ⟨h, tb_im_Md_lays, tb_se_Md_lays, by decide, TX11, 40, rfl⟩
theorem d_Md_then_5 : decode prog_13_method_43_code 5 = .ok (.aload_n 0, 1) := by decide +kernel
theorem d_Md_then_6 : decode prog_13_method_43_code 6 = .ok (.iload_n 2, 1) := by decide +kernel
theorem d_Md_then_7 : decode prog_13_method_43_code 7 = .ok (.iconst 2, 1) := by decide +kernel
theorem d_Md_then_8 : decode prog_13_method_43_code 8 = .ok (.idiv, 1) := by decide +kernel
theorem d_Md_then_9 : decode prog_13_method_43_code 9 = .ok (.iload_n 2, 1) := by decide +kernel
theorem d_Md_then_10 : decode prog_13_method_43_code 10 = .ok (.iconst 2, 1) := by decide +kernel
theorem d_Md_then_11 : decode prog_13_method_43_code 11 = .ok (.irem, 1) := by decide +kernel
theorem d_Md_then_12 : decode prog_13_method_43_code 12 = .ok (.iconst 1, 1) := by decide +kernel
theorem d_Md_then_13 : decode prog_13_method_43_code 13 = .ok (.if_icmp .ne 7, 3) := by decide +kernel
theorem d_Md_then_20 : decode prog_13_method_43_code 20 = .ok (.iconst 0, 1) := by decide +kernel
theorem d_Md_then_21 : decode prog_13_method_43_code 21 = .ok (.iload_n 3, 1) := by decide +kernel
theorem d_Md_then_22 : decode prog_13_method_43_code 22 = .ok (.invokevirtual 247, 3) := by decide +kernel
theorem d_Md_then_25 : decode prog_13_method_43_code 25 = .ok (.ifCond .eq 5, 3) := by decide +kernel
theorem d_Md_then_30 : decode prog_13_method_43_code 30 = .ok (.iload_n 2, 1) := by decide +kernel
theorem d_Md_then_31 : decode prog_13_method_43_code 31 = .ok (.iconst 2, 1) := by decide +kernel
theorem d_Md_then_32 : decode prog_13_method_43_code 32 = .ok (.irem, 1) := by decide +kernel
theorem d_Md_then_33 : decode prog_13_method_43_code 33 = .ok (.iconst 1, 1) := by decide +kernel
theorem d_Md_then_34 : decode prog_13_method_43_code 34 = .ok (.if_icmp .ne 15, 3) := by decide +kernel
theorem d_Md_then_49 : decode prog_13_method_43_code 49 = .ok (.iload_n 1, 1) := by decide +kernel
theorem d_Md_then_50 : decode prog_13_method_43_code 50 = .ok (.aload_n 0, 1) := by decide +kernel
theorem d_Md_then_51 : decode prog_13_method_43_code 51 = .ok (.iload_n 2, 1) := by decide +kernel
theorem d_Md_then_52 : decode prog_13_method_43_code 52 = .ok (.iconst 2, 1) := by decide +kernel
theorem d_Md_then_53 : decode prog_13_method_43_code 53 = .ok (.idiv, 1) := by decide +kernel
theorem d_Md_then_54 : decode prog_13_method_43_code 54 = .ok (.invokevirtual 254, 3) := by decide +kernel
theorem tb_ml_Md_254 : mTB (Cond.methodLink "NineBarsModel" 254 ⟨"NineBarsModel", "weight", "(I)I"⟩) := tbq8 113 (by decide +kernel) rfl
theorem tb_im_Md_weight : mTB (Cond.instanceMethod ⟨"NineBarsModel", "weight", "(I)I"⟩) := tbq8 115 (by decide +kernel) rfl
theorem tb_se_Md_weight : mTB (Cond.selects "NineBarsModel" ⟨"NineBarsModel", "weight", "(I)I"⟩ ⟨"NineBarsModel", "weight", "(I)I"⟩) := tbqp 86 (by decide +kernel) rfl
theorem mv_Md_weight {M : mM} {idx : Nat} (h : mTB (Cond.methodLink (mO M) idx ⟨"NineBarsModel", "weight", "(I)I"⟩)) : mCaV M M_Md_weight idx 11 := ⟨h, tb_im_Md_weight, tb_se_Md_weight, by decide, TX11, 40, rfl⟩
theorem d_Md_then_57 : decode prog_13_method_43_code 57 = .ok (.isub, 1) := by decide +kernel
theorem d_Md_then_58 : decode prog_13_method_43_code 58 = .ok (.ireturn, 1) := by decide +kernel
theorem d_Md_then_37 : decode prog_13_method_43_code 37 = .ok (.iload_n 1, 1) := by decide +kernel
theorem d_Md_then_38 : decode prog_13_method_43_code 38 = .ok (.aload_n 0, 1) := by decide +kernel
theorem d_Md_then_39 : decode prog_13_method_43_code 39 = .ok (.iload_n 2, 1) := by decide +kernel
theorem d_Md_then_40 : decode prog_13_method_43_code 40 = .ok (.iconst 2, 1) := by decide +kernel
theorem d_Md_then_41 : decode prog_13_method_43_code 41 = .ok (.idiv, 1) := by decide +kernel
theorem d_Md_then_42 : decode prog_13_method_43_code 42 = .ok (.invokevirtual 254, 3) := by decide +kernel
theorem d_Md_then_45 : decode prog_13_method_43_code 45 = .ok (.iadd, 1) := by decide +kernel
theorem d_Md_then_46 : decode prog_13_method_43_code 46 = .ok (.goto 12, 3) := by decide +kernel
theorem d_Md_then_28 : decode prog_13_method_43_code 28 = .ok (.iconst (-1), 1) := by decide +kernel
theorem d_Md_then_29 : decode prog_13_method_43_code 29 = .ok (.ireturn, 1) := by decide +kernel
theorem d_Md_then_16 : decode prog_13_method_43_code 16 = .ok (.iconst 1, 1) := by decide +kernel
theorem d_Md_then_17 : decode prog_13_method_43_code 17 = .ok (.goto 4, 3) := by decide +kernel
theorem t_Md_then_J21 {G : mG} {r : mR} {v0 v1 v2 v3 s0 s1 s2 : Int} {h : mH}  (hr : f_Md_then_J21 v0 v1 v2 v3 s0 s1 s2 h = some r) : mJ G M_Md_then 21 [(2, v0), (0, v1), (0, v2), (0, v3)] [(0, s2), (0, s1), (2, s0)] h r := by
  unfold f_Md_then_J21 at hr
  refine j_iload_n (pc := 21) d_Md_then_21 rfl ?_
  obtain ⟨ha, hr⟩ := chk_some hr
  refine j_callG (pc := 22) (stk := [(0, v3), (0, s2), (0, s1), (2, s0)]) (as := [(2, s0), (0, s1), (0, s2), (0, v3)]) (P := (fun v9 => ((0 : Nat), v9) :: [])) (tg := 0) (My := M_Md_whyNot) (mRunV (as := [(0, s1), (0, s2), (0, v3)]) (st := []) d_Md_then_22 (mc_Md_whyNot (by decide)) rfl (mv_Md_whyNot tb_ml_Md_247) rfl (Nat.le_of_ble_eq_true rfl) ha) (fun v => rfl) rfl hr (fun r1 h1 => t_Md_whyNot _ _ _ _ _ _ h1) (fun x2 h1 hr => ?_)
  refine j_if_eq (pc := 25) (tgt := 30) d_Md_then_25 hr (fun hr => ?_) (fun hr => ?_)
  · refine j_iload_n (pc := 30) d_Md_then_30 rfl ?_
    refine j_iconst (pc := 31) d_Md_then_31 ?_
    refine j_irem (pc := 32) d_Md_then_32 hr (fun hr => ?_)
    refine j_iconst (pc := 33) d_Md_then_33 ?_
    refine j_icmp_ne (pc := 34) (tgt := 49) d_Md_then_34 hr (fun hr => ?_) (fun hr => ?_)
    · refine j_iload_n (pc := 49) d_Md_then_49 rfl ?_
      refine j_aload_n (pc := 50) d_Md_then_50 rfl ?_
      refine j_iload_n (pc := 51) d_Md_then_51 rfl ?_
      refine j_iconst (pc := 52) d_Md_then_52 ?_
      refine j_idiv (pc := 53) d_Md_then_53 hr (fun hr => ?_)
      obtain ⟨ha, hr⟩ := chk_some hr
      refine j_callG (pc := 54) (stk := [(0, w32 (Int.tdiv v2 2)), (2, v0), (0, v1)]) (as := [(2, v0), (0, w32 (Int.tdiv v2 2))]) (P := (fun v9 => ((0 : Nat), v9) :: [(0, v1)])) (tg := 0) (My := M_Md_weight) (mRunV (as := [(0, w32 (Int.tdiv v2 2))]) (st := [(0, v1)]) d_Md_then_54 (mc_Md_weight (by decide)) rfl (mv_Md_weight tb_ml_Md_254) rfl (Nat.le_of_ble_eq_true rfl) ha) (fun v => rfl) rfl hr (fun r1 h1 => t_Md_weight _ _ _ _ h1) (fun x4 h3 hr => ?_)
      refine j_isub (pc := 57) d_Md_then_57 ?_
      exact j_iret (pc := 58) d_Md_then_58 rfl hr
    · refine j_iload_n (pc := 37) d_Md_then_37 rfl ?_
      refine j_aload_n (pc := 38) d_Md_then_38 rfl ?_
      refine j_iload_n (pc := 39) d_Md_then_39 rfl ?_
      refine j_iconst (pc := 40) d_Md_then_40 ?_
      refine j_idiv (pc := 41) d_Md_then_41 hr (fun hr => ?_)
      obtain ⟨ha, hr⟩ := chk_some hr
      refine j_callG (pc := 42) (stk := [(0, w32 (Int.tdiv v2 2)), (2, v0), (0, v1)]) (as := [(2, v0), (0, w32 (Int.tdiv v2 2))]) (P := (fun v9 => ((0 : Nat), v9) :: [(0, v1)])) (tg := 0) (My := M_Md_weight) (mRunV (as := [(0, w32 (Int.tdiv v2 2))]) (st := [(0, v1)]) d_Md_then_42 (mc_Md_weight (by decide)) rfl (mv_Md_weight tb_ml_Md_254) rfl (Nat.le_of_ble_eq_true rfl) ha) (fun v => rfl) rfl hr (fun r1 h1 => t_Md_weight _ _ _ _ h1) (fun x6 h5 hr => ?_)
      refine j_iadd (pc := 45) d_Md_then_45 ?_
      refine j_goto (pc := 46) (tgt := 58) d_Md_then_46 ?_
      exact j_iret (pc := 58) d_Md_then_58 rfl hr
  · refine j_iconst (pc := 28) d_Md_then_28 ?_
    exact j_iret (pc := 29) d_Md_then_29 rfl hr
theorem t_Md_then {G : mG} (h : mH) (v0 v1 v2 v3 : Int) (r : mR) (hr : f_Md_then h v0 v1 v2 v3 = some r) : mJM G M_Md_then [(2, v0), (0, v1), (0, v2), (0, v3)] h r := by
  refine mJM_of (L := [(2, v0), (0, v1), (0, v2), (0, v3)]) rfl rfl rfl (Nat.le_of_ble_eq_true rfl) ?_
  unfold f_Md_then at hr
  refine j_aload_n (pc := 0) d_Md_then_0 rfl ?_
  refine j_iload_n (pc := 1) d_Md_then_1 rfl ?_
  obtain ⟨ha, hr⟩ := chk_some hr
  refine j_callG (pc := 2) (stk := [(0, v1), (2, v0)]) (as := [(2, v0), (0, v1)]) (P := (fun v9 => [])) (tg := 3) (My := M_Md_lays) (mRunV (as := [(0, v1)]) (st := []) d_Md_then_2 (mc_Md_lays (by decide)) rfl (mv_Md_lays tb_ml_Md_251) rfl (Nat.le_of_ble_eq_true rfl) ha) (fun v => rfl) rfl hr (fun r1 h1 => t_Md_lays _ _ _ _ h1) (fun x2 h1 hr => ?_)
  refine j_aload_n (pc := 5) d_Md_then_5 rfl ?_
  refine j_iload_n (pc := 6) d_Md_then_6 rfl ?_
  refine j_iconst (pc := 7) d_Md_then_7 ?_
  refine j_idiv (pc := 8) d_Md_then_8 hr (fun hr => ?_)
  refine j_iload_n (pc := 9) d_Md_then_9 rfl ?_
  refine j_iconst (pc := 10) d_Md_then_10 ?_
  refine j_irem (pc := 11) d_Md_then_11 hr (fun hr => ?_)
  refine j_iconst (pc := 12) d_Md_then_12 ?_
  refine j_icmp_ne (pc := 13) (tgt := 20) d_Md_then_13 hr (fun hr => ?_) (fun hr => ?_)
  · refine j_iconst (pc := 20) d_Md_then_20 ?_
    exact mJ_weak (ls' := [(2, v0), (0, v1), (0, v2), (0, v3)]) (mwk_s (mwk_s (mwk_s (mwk_s mwk_n)))) (t_Md_then_J21  hr)
  · refine j_iconst (pc := 16) d_Md_then_16 ?_
    refine j_goto (pc := 17) (tgt := 21) d_Md_then_17 ?_
    exact mJ_weak (ls' := [(2, v0), (0, v1), (0, v2), (0, v3)]) (mwk_s (mwk_s (mwk_s (mwk_s mwk_n)))) (t_Md_then_J21  hr)
def M_Md_bar : mM := ("NineBarsModel", ⟨"NineBarsModel", "bar", "(II)I"⟩, prog_13_method_44_code, 5, some .int, [], 5)
theorem tb_co_Md_bar : mTB (Cond.code ⟨"NineBarsModel", "bar", "(II)I"⟩ prog_13_method_44_code 5 (some .int)) := tbq7 192 (by decide +kernel) rfl
theorem mc_Md_bar {M : mM} (hd : 5 < mDp M) : mCal M M_Md_bar 2 := ⟨tb_co_Md_bar, tb_in_NineBarsModel, ⟨by decide +kernel, by decide +kernel⟩, by decide +kernel, hd, by decide⟩
theorem d_Md_bar_0 : decode prog_13_method_44_code 0 = .ok (.aload_n 0, 1) := by decide +kernel
theorem d_Md_bar_1 : decode prog_13_method_44_code 1 = .ok (.iconst 0, 1) := by decide +kernel
theorem d_Md_bar_2 : decode prog_13_method_44_code 2 = .ok (.putfield 86, 3) := by decide +kernel
theorem d_Md_bar_5 : decode prog_13_method_44_code 5 = .ok (.aload_n 0, 1) := by decide +kernel
theorem d_Md_bar_6 : decode prog_13_method_44_code 6 = .ok (.iload_n 1, 1) := by decide +kernel
theorem d_Md_bar_7 : decode prog_13_method_44_code 7 = .ok (.i2l, 1) := by decide +kernel
theorem d_Md_bar_8 : decode prog_13_method_44_code 8 = .ok (.invokevirtual 226, 3) := by decide +kernel
theorem d_Md_bar_11 : decode prog_13_method_44_code 11 = .ok (.ifCond .ne 9, 3) := by decide +kernel
theorem d_Md_bar_20 : decode prog_13_method_44_code 20 = .ok (.iload_n 2, 1) := by decide +kernel
theorem d_Md_bar_21 : decode prog_13_method_44_code 21 = .ok (.i2l, 1) := by decide +kernel
theorem d_Md_bar_22 : decode prog_13_method_44_code 22 = .ok (.lconst 0, 1) := by decide +kernel
theorem tb_cj_Md_257 : mTB (Cond.constantLong "NineBarsModel" 257 5) := tbq7 201 (by decide +kernel) rfl
theorem d_Md_bar_23 : decode prog_13_method_44_code 23 = .ok (.ldc2_w 257, 3) := by decide +kernel
theorem d_Md_bar_26 : decode prog_13_method_44_code 26 = .ok (.invokestatic 147, 3) := by decide +kernel
theorem d_Md_bar_29 : decode prog_13_method_44_code 29 = .ok (.ifCond .ne 9, 3) := by decide +kernel
theorem d_Md_bar_38 : decode prog_13_method_44_code 38 = .ok (.iload_n 2, 1) := by decide +kernel
theorem d_Md_bar_39 : decode prog_13_method_44_code 39 = .ok (.iconst 3, 1) := by decide +kernel
theorem d_Md_bar_40 : decode prog_13_method_44_code 40 = .ok (.if_icmp .ge 10, 3) := by decide +kernel
theorem d_Md_bar_50 : decode prog_13_method_44_code 50 = .ok (.iload_n 2, 1) := by decide +kernel
theorem d_Md_bar_51 : decode prog_13_method_44_code 51 = .ok (.iconst 3, 1) := by decide +kernel
theorem d_Md_bar_52 : decode prog_13_method_44_code 52 = .ok (.if_icmp .ne 10, 3) := by decide +kernel
theorem d_Md_bar_62 : decode prog_13_method_44_code 62 = .ok (.iload_n 2, 1) := by decide +kernel
theorem d_Md_bar_63 : decode prog_13_method_44_code 63 = .ok (.iconst 4, 1) := by decide +kernel
theorem d_Md_bar_64 : decode prog_13_method_44_code 64 = .ok (.if_icmp .ne 17, 3) := by decide +kernel
theorem d_Md_bar_81 : decode prog_13_method_44_code 81 = .ok (.iconst 0, 1) := by decide +kernel
theorem d_Md_bar_82 : decode prog_13_method_44_code 82 = .ok (.istore_n 3, 1) := by decide +kernel
theorem d_Md_bar_83 : decode prog_13_method_44_code 83 = .ok (.iconst 0, 1) := by decide +kernel
theorem d_Md_bar_84 : decode prog_13_method_44_code 84 = .ok (.istore 4, 2) := by decide +kernel
theorem d_Md_bar_86 : decode prog_13_method_44_code 86 = .ok (.iload 4, 2) := by decide +kernel
theorem d_Md_bar_88 : decode prog_13_method_44_code 88 = .ok (.aload_n 0, 1) := by decide +kernel
theorem d_Md_bar_89 : decode prog_13_method_44_code 89 = .ok (.getfield 9, 3) := by decide +kernel
theorem d_Md_bar_92 : decode prog_13_method_44_code 92 = .ok (.iconst 2, 1) := by decide +kernel
theorem d_Md_bar_93 : decode prog_13_method_44_code 93 = .ok (.iaload, 1) := by decide +kernel
theorem d_Md_bar_94 : decode prog_13_method_44_code 94 = .ok (.if_icmp .ge 34, 3) := by decide +kernel
theorem d_Md_bar_128 : decode prog_13_method_44_code 128 = .ok (.iload_n 3, 1) := by decide +kernel
theorem d_Md_bar_129 : decode prog_13_method_44_code 129 = .ok (.ireturn, 1) := by decide +kernel
theorem d_Md_bar_97 : decode prog_13_method_44_code 97 = .ok (.iload_n 3, 1) := by decide +kernel
theorem d_Md_bar_98 : decode prog_13_method_44_code 98 = .ok (.aload_n 0, 1) := by decide +kernel
theorem d_Md_bar_99 : decode prog_13_method_44_code 99 = .ok (.getfield 9, 3) := by decide +kernel
theorem d_Md_bar_102 : decode prog_13_method_44_code 102 = .ok (.bipush 41, 2) := by decide +kernel
theorem d_Md_bar_104 : decode prog_13_method_44_code 104 = .ok (.bipush 16, 2) := by decide +kernel
theorem d_Md_bar_106 : decode prog_13_method_44_code 106 = .ok (.iload 4, 2) := by decide +kernel
theorem d_Md_bar_108 : decode prog_13_method_44_code 108 = .ok (.imul, 1) := by decide +kernel
theorem d_Md_bar_109 : decode prog_13_method_44_code 109 = .ok (.iadd, 1) := by decide +kernel
theorem d_Md_bar_110 : decode prog_13_method_44_code 110 = .ok (.iaload, 1) := by decide +kernel
theorem d_Md_bar_111 : decode prog_13_method_44_code 111 = .ok (.iload_n 1, 1) := by decide +kernel
theorem d_Md_bar_112 : decode prog_13_method_44_code 112 = .ok (.if_icmp .ne 7, 3) := by decide +kernel
theorem d_Md_bar_119 : decode prog_13_method_44_code 119 = .ok (.iconst 0, 1) := by decide +kernel
theorem d_Md_bar_120 : decode prog_13_method_44_code 120 = .ok (.iadd, 1) := by decide +kernel
theorem d_Md_bar_121 : decode prog_13_method_44_code 121 = .ok (.istore_n 3, 1) := by decide +kernel
theorem d_Md_bar_122 : decode prog_13_method_44_code 122 = .ok (.iinc 4 1, 3) := by decide +kernel
theorem d_Md_bar_125 : decode prog_13_method_44_code 125 = .ok (.goto (-39), 3) := by decide +kernel
theorem d_Md_bar_115 : decode prog_13_method_44_code 115 = .ok (.iconst 1, 1) := by decide +kernel
theorem d_Md_bar_116 : decode prog_13_method_44_code 116 = .ok (.goto 4, 3) := by decide +kernel
theorem d_Md_bar_67 : decode prog_13_method_44_code 67 = .ok (.aload_n 0, 1) := by decide +kernel
theorem d_Md_bar_68 : decode prog_13_method_44_code 68 = .ok (.iload_n 1, 1) := by decide +kernel
theorem d_Md_bar_69 : decode prog_13_method_44_code 69 = .ok (.invokevirtual 216, 3) := by decide +kernel
theorem d_Md_bar_72 : decode prog_13_method_44_code 72 = .ok (.ifCond .eq 7, 3) := by decide +kernel
theorem d_Md_bar_79 : decode prog_13_method_44_code 79 = .ok (.iconst 0, 1) := by decide +kernel
theorem d_Md_bar_80 : decode prog_13_method_44_code 80 = .ok (.ireturn, 1) := by decide +kernel
theorem d_Md_bar_75 : decode prog_13_method_44_code 75 = .ok (.iconst 1, 1) := by decide +kernel
theorem d_Md_bar_76 : decode prog_13_method_44_code 76 = .ok (.goto 4, 3) := by decide +kernel
theorem d_Md_bar_55 : decode prog_13_method_44_code 55 = .ok (.aload_n 0, 1) := by decide +kernel
theorem d_Md_bar_56 : decode prog_13_method_44_code 56 = .ok (.iload_n 1, 1) := by decide +kernel
theorem d_Md_bar_57 : decode prog_13_method_44_code 57 = .ok (.iconst 3, 1) := by decide +kernel
theorem d_Md_bar_58 : decode prog_13_method_44_code 58 = .ok (.invokevirtual 213, 3) := by decide +kernel
theorem d_Md_bar_61 : decode prog_13_method_44_code 61 = .ok (.ireturn, 1) := by decide +kernel
theorem d_Md_bar_43 : decode prog_13_method_44_code 43 = .ok (.aload_n 0, 1) := by decide +kernel
theorem d_Md_bar_44 : decode prog_13_method_44_code 44 = .ok (.iload_n 1, 1) := by decide +kernel
theorem d_Md_bar_45 : decode prog_13_method_44_code 45 = .ok (.iload_n 2, 1) := by decide +kernel
theorem d_Md_bar_46 : decode prog_13_method_44_code 46 = .ok (.invokevirtual 213, 3) := by decide +kernel
theorem d_Md_bar_49 : decode prog_13_method_44_code 49 = .ok (.ireturn, 1) := by decide +kernel
theorem d_Md_bar_32 : decode prog_13_method_44_code 32 = .ok (.aload_n 0, 1) := by decide +kernel
theorem d_Md_bar_33 : decode prog_13_method_44_code 33 = .ok (.iconst 2, 1) := by decide +kernel
theorem d_Md_bar_34 : decode prog_13_method_44_code 34 = .ok (.invokevirtual 197, 3) := by decide +kernel
theorem d_Md_bar_37 : decode prog_13_method_44_code 37 = .ok (.ireturn, 1) := by decide +kernel
theorem d_Md_bar_14 : decode prog_13_method_44_code 14 = .ok (.aload_n 0, 1) := by decide +kernel
theorem d_Md_bar_15 : decode prog_13_method_44_code 15 = .ok (.iconst 1, 1) := by decide +kernel
theorem d_Md_bar_16 : decode prog_13_method_44_code 16 = .ok (.invokevirtual 197, 3) := by decide +kernel
theorem d_Md_bar_19 : decode prog_13_method_44_code 19 = .ok (.ireturn, 1) := by decide +kernel
theorem t_Md_bar_J120 {G : mG} {r : mR} {v0 v1 v4 s0 s1 : Int} {h : mH} {R86 : mH → Int → Int → Option mR} (hR86 : ∀ (h : mH) (w3 w4 : Int) , R86 h w3 w4 = some r → mJ G M_Md_bar 86 [(2, v0), (0, v1), (9, 0), (0, w3), (0, w4)] [] h r) (hr : f_Md_bar_J120 R86 v4 s0 s1 h = some r) : mJ G M_Md_bar 120 [(2, v0), (0, v1), (9, 0), (9, 0), (0, v4)] [(0, s1), (0, s0)] h r := by
  unfold f_Md_bar_J120 at hr
  refine j_iadd (pc := 120) d_Md_bar_120 ?_
  refine j_istoreW_n (pc := 121) (L := fun x1 => [(2, v0), (0, v1), (9, 0), (0, x1), (0, v4)]) d_Md_bar_121 (fun _ => rfl) hr (fun x1 hr => ?_)
  refine j_iincW (pc := 122) (L := fun x2 => [(2, v0), (0, v1), (9, 0), (0, x1), (0, x2)]) d_Md_bar_122 rfl (fun _ => rfl) hr (fun x2 hr => ?_)
  refine j_goto (pc := 125) (tgt := 86) d_Md_bar_125 ?_
  exact mJ_weak (ls' := [(2, v0), (0, v1), (9, 0), (0, x1), (0, x2)]) (mwk_s (mwk_s (mwk_s (mwk_s (mwk_s mwk_n))))) (hR86 h _ _ hr)
theorem t_Md_bar_L86 {G : mG} {r : mR} {v0 v1 : Int}  : ∀ (n : Nat) (h : mH) (v3 v4 : Int), f_Md_bar_L86 v0 v1 n h v3 v4 = some r → mJ G M_Md_bar 86 [(2, v0), (0, v1), (9, 0), (0, v3), (0, v4)] [] h r := by
  intro n
  induction n with
  | zero =>
    intro h v3 v4 hr
    rw [f_Md_bar_L86] at hr
    cases hr
  | succ n hR86 =>
    intro h v3 v4 hr
    rw [f_Md_bar_L86] at hr
    refine j_iload (pc := 86) d_Md_bar_86 rfl ?_
    refine j_aload_n (pc := 88) d_Md_bar_88 rfl ?_
    refine j_getf (pc := 89) d_Md_bar_89 (fd_Md_9 rfl) hr (fun hr => ?_)
    refine j_iconst (pc := 92) d_Md_bar_92 ?_
    refine j_iaload (pc := 93) d_Md_bar_93 hr (fun hr => ?_)
    refine j_icmp_ge (pc := 94) (tgt := 128) d_Md_bar_94 hr (fun hr => ?_) (fun hr => ?_)
    · refine j_iload_n (pc := 128) d_Md_bar_128 rfl ?_
      exact j_iret (pc := 129) d_Md_bar_129 rfl hr
    · refine j_iload_n (pc := 97) d_Md_bar_97 rfl ?_
      refine j_aload_n (pc := 98) d_Md_bar_98 rfl ?_
      refine j_getf (pc := 99) d_Md_bar_99 (fd_Md_9 rfl) hr (fun hr => ?_)
      refine j_bipush (pc := 102) d_Md_bar_102 ?_
      refine j_bipush (pc := 104) d_Md_bar_104 ?_
      refine j_iload (pc := 106) d_Md_bar_106 rfl ?_
      refine j_imul (pc := 108) d_Md_bar_108 ?_
      refine j_iadd (pc := 109) d_Md_bar_109 ?_
      refine j_iaload (pc := 110) d_Md_bar_110 hr (fun hr => ?_)
      refine j_iload_n (pc := 111) d_Md_bar_111 rfl ?_
      refine j_icmp_ne (pc := 112) (tgt := 119) d_Md_bar_112 hr (fun hr => ?_) (fun hr => ?_)
      · refine j_iconst (pc := 119) d_Md_bar_119 ?_
        exact mJ_weak (ls' := [(2, v0), (0, v1), (9, 0), (9, 0), (0, v4)]) (mwk_s (mwk_s (mwk_s (mwk_d (mwk_s mwk_n))))) (t_Md_bar_J120 hR86 hr)
      · refine j_iconst (pc := 115) d_Md_bar_115 ?_
        refine j_goto (pc := 116) (tgt := 120) d_Md_bar_116 ?_
        exact mJ_weak (ls' := [(2, v0), (0, v1), (9, 0), (9, 0), (0, v4)]) (mwk_s (mwk_s (mwk_s (mwk_d (mwk_s mwk_n))))) (t_Md_bar_J120 hR86 hr)
theorem t_Md_bar {G : mG} (h : mH) (v0 v1 v2 : Int) (r : mR) (hr : f_Md_bar h v0 v1 v2 = some r) : mJM G M_Md_bar [(2, v0), (0, v1), (0, v2)] h r := by
  refine mJM_of (L := [(2, v0), (0, v1), (0, v2), (9, 0), (9, 0)]) rfl rfl rfl (Nat.le_of_ble_eq_true rfl) ?_
  unfold f_Md_bar at hr
  refine j_aload_n (pc := 0) d_Md_bar_0 rfl ?_
  refine j_iconst (pc := 1) d_Md_bar_1 ?_
  refine j_puti (pc := 2) d_Md_bar_2 (fd_Md_86 rfl) (⟨_, _, _, rfl, Or.inl rfl, rfl⟩ : mFldW M_Md_bar 86 11 5 .int) hr (fun h1 hr => ?_)
  refine j_aload_n (pc := 5) d_Md_bar_5 rfl ?_
  refine j_iload_n (pc := 6) d_Md_bar_6 rfl ?_
  refine j_i2l (pc := 7) d_Md_bar_7 ?_
  obtain ⟨ha, hr⟩ := chk_some hr
  refine j_callG (pc := 8) (stk := [(1, v1), (2, v0)]) (as := [(2, v0), (1, v1)]) (P := (fun v9 => ((0 : Nat), v9) :: [])) (tg := 0) (My := M_Md_isBar) (mRunV (as := [(1, v1)]) (st := []) d_Md_bar_8 (mc_Md_isBar (by decide)) rfl (mv_Md_isBar tb_ml_Md_226) rfl (Nat.le_of_ble_eq_true rfl) ha) (fun v => rfl) rfl hr (fun r1 h1 => t_Md_isBar _ _ _ _ h1) (fun x3 h2 hr => ?_)
  refine j_if_ne (pc := 11) (tgt := 20) d_Md_bar_11 hr (fun hr => ?_) (fun hr => ?_)
  · refine j_iload_n (pc := 20) d_Md_bar_20 rfl ?_
    refine j_i2l (pc := 21) d_Md_bar_21 ?_
    refine j_lconst (pc := 22) (z := 0) d_Md_bar_22 ?_
    refine j_ldc2 (pc := 23) (z := 5) d_Md_bar_23 tb_cj_Md_257 rfl ?_
    refine j_callG (pc := 26) (stk := [(1, 5), (1, 0), (1, v2)]) (as := [(1, v2), (1, 0), (1, 5)]) (P := (fun v9 => ((0 : Nat), v9) :: [])) (tg := 0) (My := M_Md_amid) (mRunS (as := [(1, v2), (1, 0), (1, 5)]) (st := []) d_Md_bar_26 (mc_Md_amid (by decide)) rfl ⟨tb_ml_Md_147, tb_sm_Md_amid⟩ rfl (Nat.le_of_ble_eq_true rfl)) (fun v => rfl) rfl hr (fun r1 h1 => t_Md_amid _ _ _ _ _ h1) (fun x5 h4 hr => ?_)
    refine j_if_ne (pc := 29) (tgt := 38) d_Md_bar_29 hr (fun hr => ?_) (fun hr => ?_)
    · refine j_iload_n (pc := 38) d_Md_bar_38 rfl ?_
      refine j_iconst (pc := 39) d_Md_bar_39 ?_
      refine j_icmp_ge (pc := 40) (tgt := 50) d_Md_bar_40 hr (fun hr => ?_) (fun hr => ?_)
      · refine j_iload_n (pc := 50) d_Md_bar_50 rfl ?_
        refine j_iconst (pc := 51) d_Md_bar_51 ?_
        refine j_icmp_ne (pc := 52) (tgt := 62) d_Md_bar_52 hr (fun hr => ?_) (fun hr => ?_)
        · refine j_iload_n (pc := 62) d_Md_bar_62 rfl ?_
          refine j_iconst (pc := 63) d_Md_bar_63 ?_
          refine j_icmp_ne (pc := 64) (tgt := 81) d_Md_bar_64 hr (fun hr => ?_) (fun hr => ?_)
          · refine j_iconst (pc := 81) d_Md_bar_81 ?_
            refine j_istore_n (pc := 82) (ls' := [(2, v0), (0, v1), (0, v2), (0, 0), (9, 0)]) d_Md_bar_82 rfl ?_
            refine j_iconst (pc := 83) d_Md_bar_83 ?_
            refine j_istore (pc := 84) (ls' := [(2, v0), (0, v1), (0, v2), (0, 0), (0, 0)]) d_Md_bar_84 rfl ?_
            refine mJ_weak (ls' := [(2, v0), (0, v1), (9, 0), (0, 0), (0, 0)]) (mwk_s (mwk_s (mwk_d (mwk_s (mwk_s mwk_n))))) (t_Md_bar_L86  _ _ _ _ hr)
          · refine j_aload_n (pc := 67) d_Md_bar_67 rfl ?_
            refine j_iload_n (pc := 68) d_Md_bar_68 rfl ?_
            obtain ⟨ha, hr⟩ := chk_some hr
            refine j_callG (pc := 69) (stk := [(0, v1), (2, v0)]) (as := [(2, v0), (0, v1)]) (P := (fun v9 => ((0 : Nat), v9) :: [])) (tg := 0) (My := M_Md_isWorn) (mRunV (as := [(0, v1)]) (st := []) d_Md_bar_69 (mc_Md_isWorn (by decide)) rfl (mv_Md_isWorn tb_ml_Md_216) rfl (Nat.le_of_ble_eq_true rfl) ha) (fun v => rfl) rfl hr (fun r1 h1 => t_Md_isWorn _ _ _ _ h1) (fun x7 h6 hr => ?_)
            refine j_if_eq (pc := 72) (tgt := 79) d_Md_bar_72 hr (fun hr => ?_) (fun hr => ?_)
            · refine j_iconst (pc := 79) d_Md_bar_79 ?_
              exact j_iret (pc := 80) d_Md_bar_80 rfl hr
            · refine j_iconst (pc := 75) d_Md_bar_75 ?_
              refine j_goto (pc := 76) (tgt := 80) d_Md_bar_76 ?_
              exact j_iret (pc := 80) d_Md_bar_80 rfl hr
        · refine j_aload_n (pc := 55) d_Md_bar_55 rfl ?_
          refine j_iload_n (pc := 56) d_Md_bar_56 rfl ?_
          refine j_iconst (pc := 57) d_Md_bar_57 ?_
          obtain ⟨ha, hr⟩ := chk_some hr
          refine j_callG (pc := 58) (stk := [(0, 3), (0, v1), (2, v0)]) (as := [(2, v0), (0, v1), (0, 3)]) (P := (fun v9 => ((0 : Nat), v9) :: [])) (tg := 0) (My := M_Md_of) (mRunV (as := [(0, v1), (0, 3)]) (st := []) d_Md_bar_58 (mc_Md_of (by decide)) rfl (mv_Md_of tb_ml_Md_213) rfl (Nat.le_of_ble_eq_true rfl) ha) (fun v => rfl) rfl hr (fun r1 h1 => t_Md_of _ _ _ _ _ h1) (fun x9 h8 hr => ?_)
          exact j_iret (pc := 61) d_Md_bar_61 rfl hr
      · refine j_aload_n (pc := 43) d_Md_bar_43 rfl ?_
        refine j_iload_n (pc := 44) d_Md_bar_44 rfl ?_
        refine j_iload_n (pc := 45) d_Md_bar_45 rfl ?_
        obtain ⟨ha, hr⟩ := chk_some hr
        refine j_callG (pc := 46) (stk := [(0, v2), (0, v1), (2, v0)]) (as := [(2, v0), (0, v1), (0, v2)]) (P := (fun v9 => ((0 : Nat), v9) :: [])) (tg := 0) (My := M_Md_of) (mRunV (as := [(0, v1), (0, v2)]) (st := []) d_Md_bar_46 (mc_Md_of (by decide)) rfl (mv_Md_of tb_ml_Md_213) rfl (Nat.le_of_ble_eq_true rfl) ha) (fun v => rfl) rfl hr (fun r1 h1 => t_Md_of _ _ _ _ _ h1) (fun x11 h10 hr => ?_)
        exact j_iret (pc := 49) d_Md_bar_49 rfl hr
    · refine j_aload_n (pc := 32) d_Md_bar_32 rfl ?_
      refine j_iconst (pc := 33) d_Md_bar_33 ?_
      obtain ⟨ha, hr⟩ := chk_some hr
      refine j_callG (pc := 34) (stk := [(0, 2), (2, v0)]) (as := [(2, v0), (0, 2)]) (P := (fun v9 => ((0 : Nat), v9) :: [])) (tg := 0) (My := M_Md_fails) (mRunV (as := [(0, 2)]) (st := []) d_Md_bar_34 (mc_Md_fails (by decide)) rfl (mv_Md_fails tb_ml_Md_197) rfl (Nat.le_of_ble_eq_true rfl) ha) (fun v => rfl) rfl hr (fun r1 h1 => t_Md_fails _ _ _ _ h1) (fun x13 h12 hr => ?_)
      exact j_iret (pc := 37) d_Md_bar_37 rfl hr
  · refine j_aload_n (pc := 14) d_Md_bar_14 rfl ?_
    refine j_iconst (pc := 15) d_Md_bar_15 ?_
    obtain ⟨ha, hr⟩ := chk_some hr
    refine j_callG (pc := 16) (stk := [(0, 1), (2, v0)]) (as := [(2, v0), (0, 1)]) (P := (fun v9 => ((0 : Nat), v9) :: [])) (tg := 0) (My := M_Md_fails) (mRunV (as := [(0, 1)]) (st := []) d_Md_bar_16 (mc_Md_fails (by decide)) rfl (mv_Md_fails tb_ml_Md_197) rfl (Nat.le_of_ble_eq_true rfl) ha) (fun v => rfl) rfl hr (fun r1 h1 => t_Md_fails _ _ _ _ h1) (fun x15 h14 hr => ?_)
    exact j_iret (pc := 19) d_Md_bar_19 rfl hr
def M_Md_rule : mM := ("NineBarsModel", ⟨"NineBarsModel", "rule", "(II)I"⟩, prog_13_method_45_code, 3, some .int, [], 5)
theorem tb_co_Md_rule : mTB (Cond.code ⟨"NineBarsModel", "rule", "(II)I"⟩ prog_13_method_45_code 3 (some .int)) := tbq7 213 (by decide +kernel) rfl
theorem mc_Md_rule {M : mM} (hd : 5 < mDp M) : mCal M M_Md_rule 2 := ⟨tb_co_Md_rule, tb_in_NineBarsModel, ⟨by decide +kernel, by decide +kernel⟩, by decide +kernel, hd, by decide⟩
theorem d_Md_rule_0 : decode prog_13_method_45_code 0 = .ok (.aload_n 0, 1) := by decide +kernel
theorem d_Md_rule_1 : decode prog_13_method_45_code 1 = .ok (.iconst 0, 1) := by decide +kernel
theorem d_Md_rule_2 : decode prog_13_method_45_code 2 = .ok (.putfield 86, 3) := by decide +kernel
theorem d_Md_rule_5 : decode prog_13_method_45_code 5 = .ok (.iload_n 1, 1) := by decide +kernel
theorem d_Md_rule_6 : decode prog_13_method_45_code 6 = .ok (.i2l, 1) := by decide +kernel
theorem d_Md_rule_7 : decode prog_13_method_45_code 7 = .ok (.lconst 0, 1) := by decide +kernel
theorem d_Md_rule_8 : decode prog_13_method_45_code 8 = .ok (.aload_n 0, 1) := by decide +kernel
theorem d_Md_rule_9 : decode prog_13_method_45_code 9 = .ok (.getfield 9, 3) := by decide +kernel
theorem d_Md_rule_12 : decode prog_13_method_45_code 12 = .ok (.iconst 2, 1) := by decide +kernel
theorem d_Md_rule_13 : decode prog_13_method_45_code 13 = .ok (.iaload, 1) := by decide +kernel
theorem d_Md_rule_14 : decode prog_13_method_45_code 14 = .ok (.iconst 1, 1) := by decide +kernel
theorem d_Md_rule_15 : decode prog_13_method_45_code 15 = .ok (.isub, 1) := by decide +kernel
theorem d_Md_rule_16 : decode prog_13_method_45_code 16 = .ok (.i2l, 1) := by decide +kernel
theorem d_Md_rule_17 : decode prog_13_method_45_code 17 = .ok (.invokestatic 147, 3) := by decide +kernel
theorem d_Md_rule_20 : decode prog_13_method_45_code 20 = .ok (.ifCond .ne 9, 3) := by decide +kernel
theorem d_Md_rule_29 : decode prog_13_method_45_code 29 = .ok (.iload_n 2, 1) := by decide +kernel
theorem d_Md_rule_30 : decode prog_13_method_45_code 30 = .ok (.i2l, 1) := by decide +kernel
theorem d_Md_rule_31 : decode prog_13_method_45_code 31 = .ok (.lconst 0, 1) := by decide +kernel
theorem tb_cj_Md_259 : mTB (Cond.constantLong "NineBarsModel" 259 4) := tbq7 214 (by decide +kernel) rfl
theorem d_Md_rule_32 : decode prog_13_method_45_code 32 = .ok (.ldc2_w 259, 3) := by decide +kernel
theorem d_Md_rule_35 : decode prog_13_method_45_code 35 = .ok (.invokestatic 147, 3) := by decide +kernel
theorem d_Md_rule_38 : decode prog_13_method_45_code 38 = .ok (.ifCond .ne 9, 3) := by decide +kernel
theorem d_Md_rule_47 : decode prog_13_method_45_code 47 = .ok (.aload_n 0, 1) := by decide +kernel
theorem d_Md_rule_48 : decode prog_13_method_45_code 48 = .ok (.invokevirtual 241, 3) := by decide +kernel
theorem d_Md_rule_51 : decode prog_13_method_45_code 51 = .ok (.iload_n 2, 1) := by decide +kernel
theorem d_Md_rule_52 : decode prog_13_method_45_code 52 = .ok (.iconst 4, 1) := by decide +kernel
theorem d_Md_rule_53 : decode prog_13_method_45_code 53 = .ok (.if_icmp .ge 20, 3) := by decide +kernel
theorem d_Md_rule_73 : decode prog_13_method_45_code 73 = .ok (.aload_n 0, 1) := by decide +kernel
theorem d_Md_rule_74 : decode prog_13_method_45_code 74 = .ok (.aload_n 0, 1) := by decide +kernel
theorem d_Md_rule_75 : decode prog_13_method_45_code 75 = .ok (.getfield 9, 3) := by decide +kernel
theorem d_Md_rule_78 : decode prog_13_method_45_code 78 = .ok (.bipush 41, 2) := by decide +kernel
theorem d_Md_rule_80 : decode prog_13_method_45_code 80 = .ok (.bipush 16, 2) := by decide +kernel
theorem d_Md_rule_82 : decode prog_13_method_45_code 82 = .ok (.iload_n 1, 1) := by decide +kernel
theorem d_Md_rule_83 : decode prog_13_method_45_code 83 = .ok (.imul, 1) := by decide +kernel
theorem d_Md_rule_84 : decode prog_13_method_45_code 84 = .ok (.iadd, 1) := by decide +kernel
theorem d_Md_rule_85 : decode prog_13_method_45_code 85 = .ok (.invokevirtual 233, 3) := by decide +kernel
theorem d_Md_rule_88 : decode prog_13_method_45_code 88 = .ok (.ifCond .eq 7, 3) := by decide +kernel
theorem d_Md_rule_95 : decode prog_13_method_45_code 95 = .ok (.iconst 0, 1) := by decide +kernel
theorem d_Md_rule_96 : decode prog_13_method_45_code 96 = .ok (.ireturn, 1) := by decide +kernel
theorem d_Md_rule_91 : decode prog_13_method_45_code 91 = .ok (.iconst 1, 1) := by decide +kernel
theorem d_Md_rule_92 : decode prog_13_method_45_code 92 = .ok (.goto 4, 3) := by decide +kernel
theorem d_Md_rule_56 : decode prog_13_method_45_code 56 = .ok (.aload_n 0, 1) := by decide +kernel
theorem d_Md_rule_57 : decode prog_13_method_45_code 57 = .ok (.getfield 9, 3) := by decide +kernel
theorem d_Md_rule_60 : decode prog_13_method_45_code 60 = .ok (.bipush 41, 2) := by decide +kernel
theorem d_Md_rule_62 : decode prog_13_method_45_code 62 = .ok (.bipush 16, 2) := by decide +kernel
theorem d_Md_rule_64 : decode prog_13_method_45_code 64 = .ok (.iload_n 1, 1) := by decide +kernel
theorem d_Md_rule_65 : decode prog_13_method_45_code 65 = .ok (.imul, 1) := by decide +kernel
theorem d_Md_rule_66 : decode prog_13_method_45_code 66 = .ok (.iadd, 1) := by decide +kernel
theorem d_Md_rule_67 : decode prog_13_method_45_code 67 = .ok (.iload_n 2, 1) := by decide +kernel
theorem d_Md_rule_68 : decode prog_13_method_45_code 68 = .ok (.iadd, 1) := by decide +kernel
theorem d_Md_rule_69 : decode prog_13_method_45_code 69 = .ok (.iaload, 1) := by decide +kernel
theorem d_Md_rule_70 : decode prog_13_method_45_code 70 = .ok (.goto 26, 3) := by decide +kernel
theorem d_Md_rule_41 : decode prog_13_method_45_code 41 = .ok (.aload_n 0, 1) := by decide +kernel
theorem d_Md_rule_42 : decode prog_13_method_45_code 42 = .ok (.iconst 2, 1) := by decide +kernel
theorem d_Md_rule_43 : decode prog_13_method_45_code 43 = .ok (.invokevirtual 197, 3) := by decide +kernel
theorem d_Md_rule_46 : decode prog_13_method_45_code 46 = .ok (.ireturn, 1) := by decide +kernel
theorem d_Md_rule_23 : decode prog_13_method_45_code 23 = .ok (.aload_n 0, 1) := by decide +kernel
theorem d_Md_rule_24 : decode prog_13_method_45_code 24 = .ok (.iconst 1, 1) := by decide +kernel
theorem d_Md_rule_25 : decode prog_13_method_45_code 25 = .ok (.invokevirtual 197, 3) := by decide +kernel
theorem d_Md_rule_28 : decode prog_13_method_45_code 28 = .ok (.ireturn, 1) := by decide +kernel
theorem t_Md_rule {G : mG} (h : mH) (v0 v1 v2 : Int) (r : mR) (hr : f_Md_rule h v0 v1 v2 = some r) : mJM G M_Md_rule [(2, v0), (0, v1), (0, v2)] h r := by
  refine mJM_of (L := [(2, v0), (0, v1), (0, v2)]) rfl rfl rfl (Nat.le_of_ble_eq_true rfl) ?_
  unfold f_Md_rule at hr
  refine j_aload_n (pc := 0) d_Md_rule_0 rfl ?_
  refine j_iconst (pc := 1) d_Md_rule_1 ?_
  refine j_puti (pc := 2) d_Md_rule_2 (fd_Md_86 rfl) (⟨_, _, _, rfl, Or.inl rfl, rfl⟩ : mFldW M_Md_rule 86 11 5 .int) hr (fun h1 hr => ?_)
  refine j_iload_n (pc := 5) d_Md_rule_5 rfl ?_
  refine j_i2l (pc := 6) d_Md_rule_6 ?_
  refine j_lconst (pc := 7) (z := 0) d_Md_rule_7 ?_
  refine j_aload_n (pc := 8) d_Md_rule_8 rfl ?_
  refine j_getf (pc := 9) d_Md_rule_9 (fd_Md_9 rfl) hr (fun hr => ?_)
  refine j_iconst (pc := 12) d_Md_rule_12 ?_
  refine j_iaload (pc := 13) d_Md_rule_13 hr (fun hr => ?_)
  refine j_iconst (pc := 14) d_Md_rule_14 ?_
  refine j_isub (pc := 15) d_Md_rule_15 ?_
  refine j_i2l (pc := 16) d_Md_rule_16 ?_
  refine j_callG (pc := 17) (stk := [(1, w32 ((hpV h1 (hpV h1 v0 0) 2) - 1)), (1, 0), (1, v1)]) (as := [(1, v1), (1, 0), (1, w32 ((hpV h1 (hpV h1 v0 0) 2) - 1))]) (P := (fun v9 => ((0 : Nat), v9) :: [])) (tg := 0) (My := M_Md_amid) (mRunS (as := [(1, v1), (1, 0), (1, w32 ((hpV h1 (hpV h1 v0 0) 2) - 1))]) (st := []) d_Md_rule_17 (mc_Md_amid (by decide)) rfl ⟨tb_ml_Md_147, tb_sm_Md_amid⟩ rfl (Nat.le_of_ble_eq_true rfl)) (fun v => rfl) rfl hr (fun r1 h1 => t_Md_amid _ _ _ _ _ h1) (fun x3 h2 hr => ?_)
  refine j_if_ne (pc := 20) (tgt := 29) d_Md_rule_20 hr (fun hr => ?_) (fun hr => ?_)
  · refine j_iload_n (pc := 29) d_Md_rule_29 rfl ?_
    refine j_i2l (pc := 30) d_Md_rule_30 ?_
    refine j_lconst (pc := 31) (z := 0) d_Md_rule_31 ?_
    refine j_ldc2 (pc := 32) (z := 4) d_Md_rule_32 tb_cj_Md_259 rfl ?_
    refine j_callG (pc := 35) (stk := [(1, 4), (1, 0), (1, v2)]) (as := [(1, v2), (1, 0), (1, 4)]) (P := (fun v9 => ((0 : Nat), v9) :: [])) (tg := 0) (My := M_Md_amid) (mRunS (as := [(1, v2), (1, 0), (1, 4)]) (st := []) d_Md_rule_35 (mc_Md_amid (by decide)) rfl ⟨tb_ml_Md_147, tb_sm_Md_amid⟩ rfl (Nat.le_of_ble_eq_true rfl)) (fun v => rfl) rfl hr (fun r1 h1 => t_Md_amid _ _ _ _ _ h1) (fun x5 h4 hr => ?_)
    refine j_if_ne (pc := 38) (tgt := 47) d_Md_rule_38 hr (fun hr => ?_) (fun hr => ?_)
    · refine j_aload_n (pc := 47) d_Md_rule_47 rfl ?_
      obtain ⟨ha, hr⟩ := chk_some hr
      refine j_callG (pc := 48) (stk := [(2, v0)]) (as := [(2, v0)]) (P := (fun v9 => [])) (tg := 3) (My := M_Md_laysNow) (mRunV (as := []) (st := []) d_Md_rule_48 (mc_Md_laysNow (by decide)) rfl (mv_Md_laysNow tb_ml_Md_241) rfl (Nat.le_of_ble_eq_true rfl) ha) (fun v => rfl) rfl hr (fun r1 h1 => t_Md_laysNow _ _ _ h1) (fun x7 h6 hr => ?_)
      refine j_iload_n (pc := 51) d_Md_rule_51 rfl ?_
      refine j_iconst (pc := 52) d_Md_rule_52 ?_
      refine j_icmp_ge (pc := 53) (tgt := 73) d_Md_rule_53 hr (fun hr => ?_) (fun hr => ?_)
      · refine j_aload_n (pc := 73) d_Md_rule_73 rfl ?_
        refine j_aload_n (pc := 74) d_Md_rule_74 rfl ?_
        refine j_getf (pc := 75) d_Md_rule_75 (fd_Md_9 rfl) hr (fun hr => ?_)
        refine j_bipush (pc := 78) d_Md_rule_78 ?_
        refine j_bipush (pc := 80) d_Md_rule_80 ?_
        refine j_iload_n (pc := 82) d_Md_rule_82 rfl ?_
        refine j_imul (pc := 83) d_Md_rule_83 ?_
        refine j_iadd (pc := 84) d_Md_rule_84 ?_
        obtain ⟨ha, hr⟩ := chk_some hr
        refine j_callG (pc := 85) (stk := [(0, w32 (41 + (w32 (16 * v1)))), (2, hpV h6 v0 0), (2, v0)]) (as := [(2, v0), (2, hpV h6 v0 0), (0, w32 (41 + (w32 (16 * v1))))]) (P := (fun v9 => ((0 : Nat), v9) :: [])) (tg := 0) (My := M_Md_holds) (mRunV (as := [(2, hpV h6 v0 0), (0, w32 (41 + (w32 (16 * v1))))]) (st := []) d_Md_rule_85 (mc_Md_holds (by decide)) rfl (mv_Md_holds tb_ml_Md_233) rfl (Nat.le_of_ble_eq_true rfl) ha) (fun v => rfl) rfl hr (fun r1 h1 => t_Md_holds _ _ _ _ _ h1) (fun x9 h8 hr => ?_)
        refine j_if_eq (pc := 88) (tgt := 95) d_Md_rule_88 hr (fun hr => ?_) (fun hr => ?_)
        · refine j_iconst (pc := 95) d_Md_rule_95 ?_
          exact j_iret (pc := 96) d_Md_rule_96 rfl hr
        · refine j_iconst (pc := 91) d_Md_rule_91 ?_
          refine j_goto (pc := 92) (tgt := 96) d_Md_rule_92 ?_
          exact j_iret (pc := 96) d_Md_rule_96 rfl hr
      · refine j_aload_n (pc := 56) d_Md_rule_56 rfl ?_
        refine j_getf (pc := 57) d_Md_rule_57 (fd_Md_9 rfl) hr (fun hr => ?_)
        refine j_bipush (pc := 60) d_Md_rule_60 ?_
        refine j_bipush (pc := 62) d_Md_rule_62 ?_
        refine j_iload_n (pc := 64) d_Md_rule_64 rfl ?_
        refine j_imul (pc := 65) d_Md_rule_65 ?_
        refine j_iadd (pc := 66) d_Md_rule_66 ?_
        refine j_iload_n (pc := 67) d_Md_rule_67 rfl ?_
        refine j_iadd (pc := 68) d_Md_rule_68 ?_
        refine j_iaload (pc := 69) d_Md_rule_69 hr (fun hr => ?_)
        refine j_goto (pc := 70) (tgt := 96) d_Md_rule_70 ?_
        exact j_iret (pc := 96) d_Md_rule_96 rfl hr
    · refine j_aload_n (pc := 41) d_Md_rule_41 rfl ?_
      refine j_iconst (pc := 42) d_Md_rule_42 ?_
      obtain ⟨ha, hr⟩ := chk_some hr
      refine j_callG (pc := 43) (stk := [(0, 2), (2, v0)]) (as := [(2, v0), (0, 2)]) (P := (fun v9 => ((0 : Nat), v9) :: [])) (tg := 0) (My := M_Md_fails) (mRunV (as := [(0, 2)]) (st := []) d_Md_rule_43 (mc_Md_fails (by decide)) rfl (mv_Md_fails tb_ml_Md_197) rfl (Nat.le_of_ble_eq_true rfl) ha) (fun v => rfl) rfl hr (fun r1 h1 => t_Md_fails _ _ _ _ h1) (fun x11 h10 hr => ?_)
      exact j_iret (pc := 46) d_Md_rule_46 rfl hr
  · refine j_aload_n (pc := 23) d_Md_rule_23 rfl ?_
    refine j_iconst (pc := 24) d_Md_rule_24 ?_
    obtain ⟨ha, hr⟩ := chk_some hr
    refine j_callG (pc := 25) (stk := [(0, 1), (2, v0)]) (as := [(2, v0), (0, 1)]) (P := (fun v9 => ((0 : Nat), v9) :: [])) (tg := 0) (My := M_Md_fails) (mRunV (as := [(0, 1)]) (st := []) d_Md_rule_25 (mc_Md_fails (by decide)) rfl (mv_Md_fails tb_ml_Md_197) rfl (Nat.le_of_ble_eq_true rfl) ha) (fun v => rfl) rfl hr (fun r1 h1 => t_Md_fails _ _ _ _ h1) (fun x13 h12 hr => ?_)
    exact j_iret (pc := 28) d_Md_rule_28 rfl hr
def M_Md_stand : mM := ("NineBarsModel", ⟨"NineBarsModel", "stand", "()I"⟩, prog_13_method_46_code, 1, some .int, [], 7)
theorem tb_co_Md_stand : mTB (Cond.code ⟨"NineBarsModel", "stand", "()I"⟩ prog_13_method_46_code 1 (some .int)) := tbq7 229 (by decide +kernel) rfl
theorem mc_Md_stand {M : mM} (hd : 7 < mDp M) : mCal M M_Md_stand 0 := ⟨tb_co_Md_stand, tb_in_NineBarsModel, ⟨by decide +kernel, by decide +kernel⟩, by decide +kernel, hd, by decide⟩
theorem d_Md_stand_0 : decode prog_13_method_46_code 0 = .ok (.aload_n 0, 1) := by decide +kernel
theorem d_Md_stand_1 : decode prog_13_method_46_code 1 = .ok (.iconst 0, 1) := by decide +kernel
theorem d_Md_stand_2 : decode prog_13_method_46_code 2 = .ok (.putfield 86, 3) := by decide +kernel
theorem d_Md_stand_5 : decode prog_13_method_46_code 5 = .ok (.aload_n 0, 1) := by decide +kernel
theorem d_Md_stand_6 : decode prog_13_method_46_code 6 = .ok (.invokevirtual 261, 3) := by decide +kernel
theorem tb_ml_Md_261 : mTB (Cond.methodLink "NineBarsModel" 261 ⟨"NineBarsModel", "isSpent", "()Z"⟩) := tbq7 230 (by decide +kernel) rfl
theorem tb_im_Md_isSpent : mTB (Cond.instanceMethod ⟨"NineBarsModel", "isSpent", "()Z"⟩) := tbq7 232 (by decide +kernel) rfl
theorem tb_se_Md_isSpent : mTB (Cond.selects "NineBarsModel" ⟨"NineBarsModel", "isSpent", "()Z"⟩ ⟨"NineBarsModel", "isSpent", "()Z"⟩) := tbqp 66 (by decide +kernel) rfl
theorem mv_Md_isSpent {M : mM} {idx : Nat} (h : mTB (Cond.methodLink (mO M) idx ⟨"NineBarsModel", "isSpent", "()Z"⟩)) : mCaV M M_Md_isSpent idx 11 := ⟨h, tb_im_Md_isSpent, tb_se_Md_isSpent, by decide, TX11, 40, rfl⟩
theorem d_Md_stand_9 : decode prog_13_method_46_code 9 = .ok (.ifCond .eq 9, 3) := by decide +kernel
theorem d_Md_stand_18 : decode prog_13_method_46_code 18 = .ok (.aload_n 0, 1) := by decide +kernel
theorem d_Md_stand_19 : decode prog_13_method_46_code 19 = .ok (.invokevirtual 265, 3) := by decide +kernel
theorem tb_ml_Md_265 : mTB (Cond.methodLink "NineBarsModel" 265 ⟨"NineBarsModel", "standNow", "()I"⟩) := tbq7 238 (by decide +kernel) rfl
theorem tb_im_Md_standNow : mTB (Cond.instanceMethod ⟨"NineBarsModel", "standNow", "()I"⟩) := tbq8 0 (by decide +kernel) rfl
theorem tb_se_Md_standNow : mTB (Cond.selects "NineBarsModel" ⟨"NineBarsModel", "standNow", "()I"⟩ ⟨"NineBarsModel", "standNow", "()I"⟩) := tbqp 68 (by decide +kernel) rfl
theorem mv_Md_standNow {M : mM} {idx : Nat} (h : mTB (Cond.methodLink (mO M) idx ⟨"NineBarsModel", "standNow", "()I"⟩)) : mCaV M M_Md_standNow idx 11 := ⟨h, tb_im_Md_standNow, tb_se_Md_standNow, by decide, TX11, 40, rfl⟩
theorem d_Md_stand_22 : decode prog_13_method_46_code 22 = .ok (.ireturn, 1) := by decide +kernel
theorem d_Md_stand_12 : decode prog_13_method_46_code 12 = .ok (.sipush (-1000), 3) := by decide +kernel
theorem d_Md_stand_15 : decode prog_13_method_46_code 15 = .ok (.goto 7, 3) := by decide +kernel
theorem t_Md_stand {G : mG} (h : mH) (v0 : Int) (r : mR) (hr : f_Md_stand h v0 = some r) : mJM G M_Md_stand [(2, v0)] h r := by
  refine mJM_of (L := [(2, v0)]) rfl rfl rfl (Nat.le_of_ble_eq_true rfl) ?_
  unfold f_Md_stand at hr
  refine j_aload_n (pc := 0) d_Md_stand_0 rfl ?_
  refine j_iconst (pc := 1) d_Md_stand_1 ?_
  refine j_puti (pc := 2) d_Md_stand_2 (fd_Md_86 rfl) (⟨_, _, _, rfl, Or.inl rfl, rfl⟩ : mFldW M_Md_stand 86 11 5 .int) hr (fun h1 hr => ?_)
  refine j_aload_n (pc := 5) d_Md_stand_5 rfl ?_
  obtain ⟨ha, hr⟩ := chk_some hr
  refine j_callG (pc := 6) (stk := [(2, v0)]) (as := [(2, v0)]) (P := (fun v9 => ((0 : Nat), v9) :: [])) (tg := 0) (My := M_Md_isSpent) (mRunV (as := []) (st := []) d_Md_stand_6 (mc_Md_isSpent (by decide)) rfl (mv_Md_isSpent tb_ml_Md_261) rfl (Nat.le_of_ble_eq_true rfl) ha) (fun v => rfl) rfl hr (fun r1 h1 => t_Md_isSpent _ _ _ h1) (fun x3 h2 hr => ?_)
  refine j_if_eq (pc := 9) (tgt := 18) d_Md_stand_9 hr (fun hr => ?_) (fun hr => ?_)
  · refine j_aload_n (pc := 18) d_Md_stand_18 rfl ?_
    obtain ⟨ha, hr⟩ := chk_some hr
    refine j_callG (pc := 19) (stk := [(2, v0)]) (as := [(2, v0)]) (P := (fun v9 => ((0 : Nat), v9) :: [])) (tg := 0) (My := M_Md_standNow) (mRunV (as := []) (st := []) d_Md_stand_19 (mc_Md_standNow (by decide)) rfl (mv_Md_standNow tb_ml_Md_265) rfl (Nat.le_of_ble_eq_true rfl) ha) (fun v => rfl) rfl hr (fun r1 h1 => t_Md_standNow _ _ _ h1) (fun x5 h4 hr => ?_)
    exact j_iret (pc := 22) d_Md_stand_22 rfl hr
  · refine j_sipush (pc := 12) d_Md_stand_12 ?_
    refine j_goto (pc := 15) (tgt := 22) d_Md_stand_15 ?_
    exact j_iret (pc := 22) d_Md_stand_22 rfl hr
def M_Md_isStand : mM := ("NineBarsModel", ⟨"NineBarsModel", "isStand", "(I)Z"⟩, prog_13_method_47_code, 2, some .boolean, [], 5)
theorem tb_co_Md_isStand : mTB (Cond.code ⟨"NineBarsModel", "isStand", "(I)Z"⟩ prog_13_method_47_code 2 (some .boolean)) := tbq8 9 (by decide +kernel) rfl
theorem mc_Md_isStand {M : mM} (hd : 5 < mDp M) : mCal M M_Md_isStand 1 := ⟨tb_co_Md_isStand, tb_in_NineBarsModel, ⟨by decide +kernel, by decide +kernel⟩, by decide +kernel, hd, by decide⟩
theorem d_Md_isStand_0 : decode prog_13_method_47_code 0 = .ok (.iload_n 1, 1) := by decide +kernel
theorem d_Md_isStand_1 : decode prog_13_method_47_code 1 = .ok (.i2l, 1) := by decide +kernel
theorem d_Md_isStand_2 : decode prog_13_method_47_code 2 = .ok (.lconst 0, 1) := by decide +kernel
theorem d_Md_isStand_3 : decode prog_13_method_47_code 3 = .ok (.aload_n 0, 1) := by decide +kernel
theorem d_Md_isStand_4 : decode prog_13_method_47_code 4 = .ok (.invokevirtual 219, 3) := by decide +kernel
theorem d_Md_isStand_7 : decode prog_13_method_47_code 7 = .ok (.iconst 1, 1) := by decide +kernel
theorem d_Md_isStand_8 : decode prog_13_method_47_code 8 = .ok (.isub, 1) := by decide +kernel
theorem d_Md_isStand_9 : decode prog_13_method_47_code 9 = .ok (.i2l, 1) := by decide +kernel
theorem d_Md_isStand_10 : decode prog_13_method_47_code 10 = .ok (.invokestatic 147, 3) := by decide +kernel
theorem d_Md_isStand_13 : decode prog_13_method_47_code 13 = .ok (.ireturn, 1) := by decide +kernel
theorem t_Md_isStand {G : mG} (h : mH) (v0 v1 : Int) (r : mR) (hr : f_Md_isStand h v0 v1 = some r) : mJM G M_Md_isStand [(2, v0), (0, v1)] h r := by
  refine mJM_of (L := [(2, v0), (0, v1)]) rfl rfl rfl (Nat.le_of_ble_eq_true rfl) ?_
  unfold f_Md_isStand at hr
  refine j_iload_n (pc := 0) d_Md_isStand_0 rfl ?_
  refine j_i2l (pc := 1) d_Md_isStand_1 ?_
  refine j_lconst (pc := 2) (z := 0) d_Md_isStand_2 ?_
  refine j_aload_n (pc := 3) d_Md_isStand_3 rfl ?_
  obtain ⟨ha, hr⟩ := chk_some hr
  refine j_callG (pc := 4) (stk := [(2, v0), (1, 0), (1, v1)]) (as := [(2, v0)]) (P := (fun v9 => ((0 : Nat), v9) :: [(1, 0), (1, v1)])) (tg := 0) (My := M_Md_stands) (mRunV (as := []) (st := [(1, 0), (1, v1)]) d_Md_isStand_4 (mc_Md_stands (by decide)) rfl (mv_Md_stands tb_ml_Md_219) rfl (Nat.le_of_ble_eq_true rfl) ha) (fun v => rfl) rfl hr (fun r1 h1 => t_Md_stands _ _ _ h1) (fun x2 h1 hr => ?_)
  refine j_iconst (pc := 7) d_Md_isStand_7 ?_
  refine j_isub (pc := 8) d_Md_isStand_8 ?_
  refine j_i2l (pc := 9) d_Md_isStand_9 ?_
  refine j_callG (pc := 10) (stk := [(1, w32 (x2 - 1)), (1, 0), (1, v1)]) (as := [(1, v1), (1, 0), (1, w32 (x2 - 1))]) (P := (fun v9 => ((0 : Nat), v9) :: [])) (tg := 0) (My := M_Md_amid) (mRunS (as := [(1, v1), (1, 0), (1, w32 (x2 - 1))]) (st := []) d_Md_isStand_10 (mc_Md_amid (by decide)) rfl ⟨tb_ml_Md_147, tb_sm_Md_amid⟩ rfl (Nat.le_of_ble_eq_true rfl)) (fun v => rfl) rfl hr (fun r1 h1 => t_Md_amid _ _ _ _ _ h1) (fun x4 h3 hr => ?_)
  exact j_zret (pc := 13) d_Md_isStand_13 rfl hr
def M_Md_placeIn : mM := ("NineBarsModel", ⟨"NineBarsModel", "placeIn", "(II)I"⟩, prog_13_method_48_code, 3, some .int, [], 7)
theorem tb_co_Md_placeIn : mTB (Cond.code ⟨"NineBarsModel", "placeIn", "(II)I"⟩ prog_13_method_48_code 3 (some .int)) := tbq8 5 (by decide +kernel) rfl
theorem mc_Md_placeIn {M : mM} (hd : 7 < mDp M) : mCal M M_Md_placeIn 2 := ⟨tb_co_Md_placeIn, tb_in_NineBarsModel, ⟨by decide +kernel, by decide +kernel⟩, by decide +kernel, hd, by decide⟩
theorem d_Md_placeIn_0 : decode prog_13_method_48_code 0 = .ok (.aload_n 0, 1) := by decide +kernel
theorem d_Md_placeIn_1 : decode prog_13_method_48_code 1 = .ok (.aload_n 0, 1) := by decide +kernel
theorem d_Md_placeIn_2 : decode prog_13_method_48_code 2 = .ok (.iload_n 2, 1) := by decide +kernel
theorem d_Md_placeIn_3 : decode prog_13_method_48_code 3 = .ok (.i2l, 1) := by decide +kernel
theorem d_Md_placeIn_4 : decode prog_13_method_48_code 4 = .ok (.invokevirtual 226, 3) := by decide +kernel
theorem d_Md_placeIn_7 : decode prog_13_method_48_code 7 = .ok (.ifCond .eq 11, 3) := by decide +kernel
theorem d_Md_placeIn_18 : decode prog_13_method_48_code 18 = .ok (.iconst 1, 1) := by decide +kernel
theorem d_Md_placeIn_19 : decode prog_13_method_48_code 19 = .ok (.goto 15, 3) := by decide +kernel
theorem d_Md_placeIn_34 : decode prog_13_method_48_code 34 = .ok (.putfield 86, 3) := by decide +kernel
theorem d_Md_placeIn_37 : decode prog_13_method_48_code 37 = .ok (.aload_n 0, 1) := by decide +kernel
theorem d_Md_placeIn_38 : decode prog_13_method_48_code 38 = .ok (.getfield 86, 3) := by decide +kernel
theorem d_Md_placeIn_41 : decode prog_13_method_48_code 41 = .ok (.ifCond .le 7, 3) := by decide +kernel
theorem d_Md_placeIn_48 : decode prog_13_method_48_code 48 = .ok (.aload_n 0, 1) := by decide +kernel
theorem d_Md_placeIn_49 : decode prog_13_method_48_code 49 = .ok (.iload_n 1, 1) := by decide +kernel
theorem d_Md_placeIn_50 : decode prog_13_method_48_code 50 = .ok (.iload_n 2, 1) := by decide +kernel
theorem d_Md_placeIn_51 : decode prog_13_method_48_code 51 = .ok (.invokevirtual 271, 3) := by decide +kernel
theorem tb_ml_Md_271 : mTB (Cond.methodLink "NineBarsModel" 271 ⟨"NineBarsModel", "placeOf", "(II)I"⟩) := tbq8 10 (by decide +kernel) rfl
theorem tb_im_Md_placeOf : mTB (Cond.instanceMethod ⟨"NineBarsModel", "placeOf", "(II)I"⟩) := tbq8 12 (by decide +kernel) rfl
theorem tb_se_Md_placeOf : mTB (Cond.selects "NineBarsModel" ⟨"NineBarsModel", "placeOf", "(II)I"⟩ ⟨"NineBarsModel", "placeOf", "(II)I"⟩) := tbqp 70 (by decide +kernel) rfl
theorem mv_Md_placeOf {M : mM} {idx : Nat} (h : mTB (Cond.methodLink (mO M) idx ⟨"NineBarsModel", "placeOf", "(II)I"⟩)) : mCaV M M_Md_placeOf idx 11 := ⟨h, tb_im_Md_placeOf, tb_se_Md_placeOf, by decide, TX11, 40, rfl⟩
theorem d_Md_placeIn_54 : decode prog_13_method_48_code 54 = .ok (.ireturn, 1) := by decide +kernel
theorem d_Md_placeIn_44 : decode prog_13_method_48_code 44 = .ok (.iconst 0, 1) := by decide +kernel
theorem d_Md_placeIn_45 : decode prog_13_method_48_code 45 = .ok (.goto 9, 3) := by decide +kernel
theorem d_Md_placeIn_10 : decode prog_13_method_48_code 10 = .ok (.aload_n 0, 1) := by decide +kernel
theorem d_Md_placeIn_11 : decode prog_13_method_48_code 11 = .ok (.iload_n 1, 1) := by decide +kernel
theorem d_Md_placeIn_12 : decode prog_13_method_48_code 12 = .ok (.invokevirtual 268, 3) := by decide +kernel
theorem tb_ml_Md_268 : mTB (Cond.methodLink "NineBarsModel" 268 ⟨"NineBarsModel", "isStand", "(I)Z"⟩) := tbq8 6 (by decide +kernel) rfl
theorem tb_im_Md_isStand : mTB (Cond.instanceMethod ⟨"NineBarsModel", "isStand", "(I)Z"⟩) := tbq8 8 (by decide +kernel) rfl
theorem tb_se_Md_isStand : mTB (Cond.selects "NineBarsModel" ⟨"NineBarsModel", "isStand", "(I)Z"⟩ ⟨"NineBarsModel", "isStand", "(I)Z"⟩) := tbqp 69 (by decide +kernel) rfl
theorem mv_Md_isStand {M : mM} {idx : Nat} (h : mTB (Cond.methodLink (mO M) idx ⟨"NineBarsModel", "isStand", "(I)Z"⟩)) : mCaV M M_Md_isStand idx 11 := ⟨h, tb_im_Md_isStand, tb_se_Md_isStand, by decide, TX11, 40, rfl⟩
theorem d_Md_placeIn_15 : decode prog_13_method_48_code 15 = .ok (.ifCond .ne 7, 3) := by decide +kernel
theorem d_Md_placeIn_22 : decode prog_13_method_48_code 22 = .ok (.aload_n 0, 1) := by decide +kernel
theorem d_Md_placeIn_23 : decode prog_13_method_48_code 23 = .ok (.invokevirtual 261, 3) := by decide +kernel
theorem d_Md_placeIn_26 : decode prog_13_method_48_code 26 = .ok (.ifCond .eq 7, 3) := by decide +kernel
theorem d_Md_placeIn_33 : decode prog_13_method_48_code 33 = .ok (.iconst 0, 1) := by decide +kernel
theorem d_Md_placeIn_29 : decode prog_13_method_48_code 29 = .ok (.iconst 2, 1) := by decide +kernel
theorem d_Md_placeIn_30 : decode prog_13_method_48_code 30 = .ok (.goto 4, 3) := by decide +kernel
theorem t_Md_placeIn_J34 {G : mG} {r : mR} {v0 v1 v2 s0 s1 : Int} {h : mH}  (hr : f_Md_placeIn_J34 v0 v1 v2 s0 s1 h = some r) : mJ G M_Md_placeIn 34 [(2, v0), (0, v1), (0, v2)] [(0, s1), (2, s0)] h r := by
  unfold f_Md_placeIn_J34 at hr
  refine j_puti (pc := 34) d_Md_placeIn_34 (fd_Md_86 rfl) (⟨_, _, _, rfl, Or.inl rfl, rfl⟩ : mFldW M_Md_placeIn 86 11 5 .int) hr (fun h1 hr => ?_)
  refine j_aload_n (pc := 37) d_Md_placeIn_37 rfl ?_
  refine j_getf (pc := 38) d_Md_placeIn_38 (fd_Md_86 rfl) hr (fun hr => ?_)
  refine j_if_le (pc := 41) (tgt := 48) d_Md_placeIn_41 hr (fun hr => ?_) (fun hr => ?_)
  · refine j_aload_n (pc := 48) d_Md_placeIn_48 rfl ?_
    refine j_iload_n (pc := 49) d_Md_placeIn_49 rfl ?_
    refine j_iload_n (pc := 50) d_Md_placeIn_50 rfl ?_
    obtain ⟨ha, hr⟩ := chk_some hr
    refine j_callG (pc := 51) (stk := [(0, v2), (0, v1), (2, v0)]) (as := [(2, v0), (0, v1), (0, v2)]) (P := (fun v9 => ((0 : Nat), v9) :: [])) (tg := 0) (My := M_Md_placeOf) (mRunV (as := [(0, v1), (0, v2)]) (st := []) d_Md_placeIn_51 (mc_Md_placeOf (by decide)) rfl (mv_Md_placeOf tb_ml_Md_271) rfl (Nat.le_of_ble_eq_true rfl) ha) (fun v => rfl) rfl hr (fun r1 h1 => t_Md_placeOf _ _ _ _ _ h1) (fun x3 h2 hr => ?_)
    exact j_iret (pc := 54) d_Md_placeIn_54 rfl hr
  · refine j_iconst (pc := 44) d_Md_placeIn_44 ?_
    refine j_goto (pc := 45) (tgt := 54) d_Md_placeIn_45 ?_
    exact j_iret (pc := 54) d_Md_placeIn_54 rfl hr
theorem t_Md_placeIn_J18 {G : mG} {r : mR} {v0 v1 v2 s0 : Int} {h : mH}  (hr : f_Md_placeIn_J18 v0 v1 v2 s0 h = some r) : mJ G M_Md_placeIn 18 [(2, v0), (0, v1), (0, v2)] [(2, s0)] h r := by
  unfold f_Md_placeIn_J18 at hr
  refine j_iconst (pc := 18) d_Md_placeIn_18 ?_
  refine j_goto (pc := 19) (tgt := 34) d_Md_placeIn_19 ?_
  exact mJ_weak (ls' := [(2, v0), (0, v1), (0, v2)]) (mwk_s (mwk_s (mwk_s mwk_n))) (t_Md_placeIn_J34  hr)
theorem t_Md_placeIn {G : mG} (h : mH) (v0 v1 v2 : Int) (r : mR) (hr : f_Md_placeIn h v0 v1 v2 = some r) : mJM G M_Md_placeIn [(2, v0), (0, v1), (0, v2)] h r := by
  refine mJM_of (L := [(2, v0), (0, v1), (0, v2)]) rfl rfl rfl (Nat.le_of_ble_eq_true rfl) ?_
  unfold f_Md_placeIn at hr
  refine j_aload_n (pc := 0) d_Md_placeIn_0 rfl ?_
  refine j_aload_n (pc := 1) d_Md_placeIn_1 rfl ?_
  refine j_iload_n (pc := 2) d_Md_placeIn_2 rfl ?_
  refine j_i2l (pc := 3) d_Md_placeIn_3 ?_
  obtain ⟨ha, hr⟩ := chk_some hr
  refine j_callG (pc := 4) (stk := [(1, v2), (2, v0), (2, v0)]) (as := [(2, v0), (1, v2)]) (P := (fun v9 => ((0 : Nat), v9) :: [(2, v0)])) (tg := 0) (My := M_Md_isBar) (mRunV (as := [(1, v2)]) (st := [(2, v0)]) d_Md_placeIn_4 (mc_Md_isBar (by decide)) rfl (mv_Md_isBar tb_ml_Md_226) rfl (Nat.le_of_ble_eq_true rfl) ha) (fun v => rfl) rfl hr (fun r1 h1 => t_Md_isBar _ _ _ _ h1) (fun x2 h1 hr => ?_)
  refine j_if_eq (pc := 7) (tgt := 18) d_Md_placeIn_7 hr (fun hr => ?_) (fun hr => ?_)
  · exact mJ_weak (ls' := [(2, v0), (0, v1), (0, v2)]) (mwk_s (mwk_s (mwk_s mwk_n))) (t_Md_placeIn_J18  hr)
  · refine j_aload_n (pc := 10) d_Md_placeIn_10 rfl ?_
    refine j_iload_n (pc := 11) d_Md_placeIn_11 rfl ?_
    obtain ⟨ha, hr⟩ := chk_some hr
    refine j_callG (pc := 12) (stk := [(0, v1), (2, v0), (2, v0)]) (as := [(2, v0), (0, v1)]) (P := (fun v9 => ((0 : Nat), v9) :: [(2, v0)])) (tg := 0) (My := M_Md_isStand) (mRunV (as := [(0, v1)]) (st := [(2, v0)]) d_Md_placeIn_12 (mc_Md_isStand (by decide)) rfl (mv_Md_isStand tb_ml_Md_268) rfl (Nat.le_of_ble_eq_true rfl) ha) (fun v => rfl) rfl hr (fun r1 h1 => t_Md_isStand _ _ _ _ h1) (fun x4 h3 hr => ?_)
    refine j_if_ne (pc := 15) (tgt := 22) d_Md_placeIn_15 hr (fun hr => ?_) (fun hr => ?_)
    · refine j_aload_n (pc := 22) d_Md_placeIn_22 rfl ?_
      obtain ⟨ha, hr⟩ := chk_some hr
      refine j_callG (pc := 23) (stk := [(2, v0), (2, v0)]) (as := [(2, v0)]) (P := (fun v9 => ((0 : Nat), v9) :: [(2, v0)])) (tg := 0) (My := M_Md_isSpent) (mRunV (as := []) (st := [(2, v0)]) d_Md_placeIn_23 (mc_Md_isSpent (by decide)) rfl (mv_Md_isSpent tb_ml_Md_261) rfl (Nat.le_of_ble_eq_true rfl) ha) (fun v => rfl) rfl hr (fun r1 h1 => t_Md_isSpent _ _ _ h1) (fun x6 h5 hr => ?_)
      refine j_if_eq (pc := 26) (tgt := 33) d_Md_placeIn_26 hr (fun hr => ?_) (fun hr => ?_)
      · refine j_iconst (pc := 33) d_Md_placeIn_33 ?_
        exact mJ_weak (ls' := [(2, v0), (0, v1), (0, v2)]) (mwk_s (mwk_s (mwk_s mwk_n))) (t_Md_placeIn_J34  hr)
      · refine j_iconst (pc := 29) d_Md_placeIn_29 ?_
        refine j_goto (pc := 30) (tgt := 34) d_Md_placeIn_30 ?_
        exact mJ_weak (ls' := [(2, v0), (0, v1), (0, v2)]) (mwk_s (mwk_s (mwk_s mwk_n))) (t_Md_placeIn_J34  hr)
    · exact mJ_weak (ls' := [(2, v0), (0, v1), (0, v2)]) (mwk_s (mwk_s (mwk_s mwk_n))) (t_Md_placeIn_J18  hr)
def M_Md_isOpenNow : mM := ("NineBarsModel", ⟨"NineBarsModel", "isOpenNow", "()Z"⟩, prog_13_method_49_code, 2, some .boolean, [], 3)
theorem tb_co_Md_isOpenNow : mTB (Cond.code ⟨"NineBarsModel", "isOpenNow", "()Z"⟩ prog_13_method_49_code 2 (some .boolean)) := tbq8 21 (by decide +kernel) rfl
theorem mc_Md_isOpenNow {M : mM} (hd : 3 < mDp M) : mCal M M_Md_isOpenNow 0 := ⟨tb_co_Md_isOpenNow, tb_in_NineBarsModel, ⟨by decide +kernel, by decide +kernel⟩, by decide +kernel, hd, by decide⟩
theorem d_Md_isOpenNow_0 : decode prog_13_method_49_code 0 = .ok (.iconst 0, 1) := by decide +kernel
theorem d_Md_isOpenNow_1 : decode prog_13_method_49_code 1 = .ok (.istore_n 1, 1) := by decide +kernel
theorem d_Md_isOpenNow_2 : decode prog_13_method_49_code 2 = .ok (.iload_n 1, 1) := by decide +kernel
theorem d_Md_isOpenNow_3 : decode prog_13_method_49_code 3 = .ok (.aload_n 0, 1) := by decide +kernel
theorem d_Md_isOpenNow_4 : decode prog_13_method_49_code 4 = .ok (.invokevirtual 210, 3) := by decide +kernel
theorem d_Md_isOpenNow_7 : decode prog_13_method_49_code 7 = .ok (.if_icmp .ge 26, 3) := by decide +kernel
theorem d_Md_isOpenNow_33 : decode prog_13_method_49_code 33 = .ok (.iconst 1, 1) := by decide +kernel
theorem d_Md_isOpenNow_34 : decode prog_13_method_49_code 34 = .ok (.ireturn, 1) := by decide +kernel
theorem d_Md_isOpenNow_10 : decode prog_13_method_49_code 10 = .ok (.aload_n 0, 1) := by decide +kernel
theorem d_Md_isOpenNow_11 : decode prog_13_method_49_code 11 = .ok (.iload_n 1, 1) := by decide +kernel
theorem d_Md_isOpenNow_12 : decode prog_13_method_49_code 12 = .ok (.iconst 1, 1) := by decide +kernel
theorem d_Md_isOpenNow_13 : decode prog_13_method_49_code 13 = .ok (.invokevirtual 213, 3) := by decide +kernel
theorem d_Md_isOpenNow_16 : decode prog_13_method_49_code 16 = .ok (.aload_n 0, 1) := by decide +kernel
theorem d_Md_isOpenNow_17 : decode prog_13_method_49_code 17 = .ok (.iload_n 1, 1) := by decide +kernel
theorem d_Md_isOpenNow_18 : decode prog_13_method_49_code 18 = .ok (.iconst 2, 1) := by decide +kernel
theorem d_Md_isOpenNow_19 : decode prog_13_method_49_code 19 = .ok (.invokevirtual 213, 3) := by decide +kernel
theorem d_Md_isOpenNow_22 : decode prog_13_method_49_code 22 = .ok (.if_icmp .eq 5, 3) := by decide +kernel
theorem d_Md_isOpenNow_27 : decode prog_13_method_49_code 27 = .ok (.iinc 1 1, 3) := by decide +kernel
theorem d_Md_isOpenNow_30 : decode prog_13_method_49_code 30 = .ok (.goto (-28), 3) := by decide +kernel
theorem d_Md_isOpenNow_25 : decode prog_13_method_49_code 25 = .ok (.iconst 0, 1) := by decide +kernel
theorem d_Md_isOpenNow_26 : decode prog_13_method_49_code 26 = .ok (.ireturn, 1) := by decide +kernel
theorem t_Md_isOpenNow_L2 {G : mG} {r : mR} {v0 : Int}  : ∀ (n : Nat) (h : mH) (v1 : Int), f_Md_isOpenNow_L2 v0 n h v1 = some r → mJ G M_Md_isOpenNow 2 [(2, v0), (0, v1)] [] h r := by
  intro n
  induction n with
  | zero =>
    intro h v1 hr
    rw [f_Md_isOpenNow_L2] at hr
    cases hr
  | succ n hR2 =>
    intro h v1 hr
    rw [f_Md_isOpenNow_L2] at hr
    refine j_iload_n (pc := 2) d_Md_isOpenNow_2 rfl ?_
    refine j_aload_n (pc := 3) d_Md_isOpenNow_3 rfl ?_
    obtain ⟨ha, hr⟩ := chk_some hr
    refine j_callG (pc := 4) (stk := [(2, v0), (0, v1)]) (as := [(2, v0)]) (P := (fun v9 => ((0 : Nat), v9) :: [(0, v1)])) (tg := 0) (My := M_Md_bars) (mRunV (as := []) (st := [(0, v1)]) d_Md_isOpenNow_4 (mc_Md_bars (by decide)) rfl (mv_Md_bars tb_ml_Md_210) rfl (Nat.le_of_ble_eq_true rfl) ha) (fun v => rfl) rfl hr (fun r1 h1 => t_Md_bars _ _ _ h1) (fun x2 h1 hr => ?_)
    refine j_icmp_ge (pc := 7) (tgt := 33) d_Md_isOpenNow_7 hr (fun hr => ?_) (fun hr => ?_)
    · refine j_iconst (pc := 33) d_Md_isOpenNow_33 ?_
      exact j_zret (pc := 34) d_Md_isOpenNow_34 rfl hr
    · refine j_aload_n (pc := 10) d_Md_isOpenNow_10 rfl ?_
      refine j_iload_n (pc := 11) d_Md_isOpenNow_11 rfl ?_
      refine j_iconst (pc := 12) d_Md_isOpenNow_12 ?_
      obtain ⟨ha, hr⟩ := chk_some hr
      refine j_callG (pc := 13) (stk := [(0, 1), (0, v1), (2, v0)]) (as := [(2, v0), (0, v1), (0, 1)]) (P := (fun v9 => ((0 : Nat), v9) :: [])) (tg := 0) (My := M_Md_of) (mRunV (as := [(0, v1), (0, 1)]) (st := []) d_Md_isOpenNow_13 (mc_Md_of (by decide)) rfl (mv_Md_of tb_ml_Md_213) rfl (Nat.le_of_ble_eq_true rfl) ha) (fun v => rfl) rfl hr (fun r1 h1 => t_Md_of _ _ _ _ _ h1) (fun x4 h3 hr => ?_)
      refine j_aload_n (pc := 16) d_Md_isOpenNow_16 rfl ?_
      refine j_iload_n (pc := 17) d_Md_isOpenNow_17 rfl ?_
      refine j_iconst (pc := 18) d_Md_isOpenNow_18 ?_
      obtain ⟨ha, hr⟩ := chk_some hr
      refine j_callG (pc := 19) (stk := [(0, 2), (0, v1), (2, v0), (0, x4)]) (as := [(2, v0), (0, v1), (0, 2)]) (P := (fun v9 => ((0 : Nat), v9) :: [(0, x4)])) (tg := 0) (My := M_Md_of) (mRunV (as := [(0, v1), (0, 2)]) (st := [(0, x4)]) d_Md_isOpenNow_19 (mc_Md_of (by decide)) rfl (mv_Md_of tb_ml_Md_213) rfl (Nat.le_of_ble_eq_true rfl) ha) (fun v => rfl) rfl hr (fun r1 h1 => t_Md_of _ _ _ _ _ h1) (fun x6 h5 hr => ?_)
      refine j_icmp_eq (pc := 22) (tgt := 27) d_Md_isOpenNow_22 hr (fun hr => ?_) (fun hr => ?_)
      · refine j_iincW (pc := 27) (L := fun x7 => [(2, v0), (0, x7)]) d_Md_isOpenNow_27 rfl (fun _ => rfl) hr (fun x7 hr => ?_)
        refine j_goto (pc := 30) (tgt := 2) d_Md_isOpenNow_30 ?_
        exact mJ_weak (ls' := [(2, v0), (0, x7)]) (mwk_s (mwk_s mwk_n)) (hR2 h5 _ hr)
      · refine j_iconst (pc := 25) d_Md_isOpenNow_25 ?_
        exact j_zret (pc := 26) d_Md_isOpenNow_26 rfl hr
theorem t_Md_isOpenNow {G : mG} (h : mH) (v0 : Int) (r : mR) (hr : f_Md_isOpenNow h v0 = some r) : mJM G M_Md_isOpenNow [(2, v0)] h r := by
  refine mJM_of (L := [(2, v0), (9, 0)]) rfl rfl rfl (Nat.le_of_ble_eq_true rfl) ?_
  unfold f_Md_isOpenNow at hr
  refine j_iconst (pc := 0) d_Md_isOpenNow_0 ?_
  refine j_istore_n (pc := 1) (ls' := [(2, v0), (0, 0)]) d_Md_isOpenNow_1 rfl ?_
  refine mJ_weak (ls' := [(2, v0), (0, 0)]) (mwk_s (mwk_s mwk_n)) (t_Md_isOpenNow_L2  _ _ _ hr)
def M_Md_isOpen : mM := ("NineBarsModel", ⟨"NineBarsModel", "isOpen", "()Z"⟩, prog_13_method_50_code, 1, some .boolean, [], 5)
theorem tb_co_Md_isOpen : mTB (Cond.code ⟨"NineBarsModel", "isOpen", "()Z"⟩ prog_13_method_50_code 1 (some .boolean)) := tbq8 17 (by decide +kernel) rfl
theorem mc_Md_isOpen {M : mM} (hd : 5 < mDp M) : mCal M M_Md_isOpen 0 := ⟨tb_co_Md_isOpen, tb_in_NineBarsModel, ⟨by decide +kernel, by decide +kernel⟩, by decide +kernel, hd, by decide⟩
theorem d_Md_isOpen_0 : decode prog_13_method_50_code 0 = .ok (.aload_n 0, 1) := by decide +kernel
theorem d_Md_isOpen_1 : decode prog_13_method_50_code 1 = .ok (.iconst 0, 1) := by decide +kernel
theorem d_Md_isOpen_2 : decode prog_13_method_50_code 2 = .ok (.putfield 86, 3) := by decide +kernel
theorem d_Md_isOpen_5 : decode prog_13_method_50_code 5 = .ok (.aload_n 0, 1) := by decide +kernel
theorem d_Md_isOpen_6 : decode prog_13_method_50_code 6 = .ok (.invokevirtual 274, 3) := by decide +kernel
theorem tb_ml_Md_274 : mTB (Cond.methodLink "NineBarsModel" 274 ⟨"NineBarsModel", "isOpenNow", "()Z"⟩) := tbq8 18 (by decide +kernel) rfl
theorem tb_im_Md_isOpenNow : mTB (Cond.instanceMethod ⟨"NineBarsModel", "isOpenNow", "()Z"⟩) := tbq8 20 (by decide +kernel) rfl
theorem tb_se_Md_isOpenNow : mTB (Cond.selects "NineBarsModel" ⟨"NineBarsModel", "isOpenNow", "()Z"⟩ ⟨"NineBarsModel", "isOpenNow", "()Z"⟩) := tbqp 71 (by decide +kernel) rfl
theorem mv_Md_isOpenNow {M : mM} {idx : Nat} (h : mTB (Cond.methodLink (mO M) idx ⟨"NineBarsModel", "isOpenNow", "()Z"⟩)) : mCaV M M_Md_isOpenNow idx 11 := ⟨h, tb_im_Md_isOpenNow, tb_se_Md_isOpenNow, by decide, TX11, 40, rfl⟩
theorem d_Md_isOpen_9 : decode prog_13_method_50_code 9 = .ok (.ireturn, 1) := by decide +kernel
theorem t_Md_isOpen {G : mG} (h : mH) (v0 : Int) (r : mR) (hr : f_Md_isOpen h v0 = some r) : mJM G M_Md_isOpen [(2, v0)] h r := by
  refine mJM_of (L := [(2, v0)]) rfl rfl rfl (Nat.le_of_ble_eq_true rfl) ?_
  unfold f_Md_isOpen at hr
  refine j_aload_n (pc := 0) d_Md_isOpen_0 rfl ?_
  refine j_iconst (pc := 1) d_Md_isOpen_1 ?_
  refine j_puti (pc := 2) d_Md_isOpen_2 (fd_Md_86 rfl) (⟨_, _, _, rfl, Or.inl rfl, rfl⟩ : mFldW M_Md_isOpen 86 11 5 .int) hr (fun h1 hr => ?_)
  refine j_aload_n (pc := 5) d_Md_isOpen_5 rfl ?_
  obtain ⟨ha, hr⟩ := chk_some hr
  refine j_callG (pc := 6) (stk := [(2, v0)]) (as := [(2, v0)]) (P := (fun v9 => ((0 : Nat), v9) :: [])) (tg := 0) (My := M_Md_isOpenNow) (mRunV (as := []) (st := []) d_Md_isOpen_6 (mc_Md_isOpenNow (by decide)) rfl (mv_Md_isOpenNow tb_ml_Md_274) rfl (Nat.le_of_ble_eq_true rfl) ha) (fun v => rfl) rfl hr (fun r1 h1 => t_Md_isOpenNow _ _ _ h1) (fun x3 h2 hr => ?_)
  exact j_zret (pc := 9) d_Md_isOpen_9 rfl hr
def M_Md_may : mM := ("NineBarsModel", ⟨"NineBarsModel", "may", "(IZ)I"⟩, prog_13_method_51_code, 3, some .int, [], 9)
theorem tb_co_Md_may : mTB (Cond.code ⟨"NineBarsModel", "may", "(IZ)I"⟩ prog_13_method_51_code 3 (some .int)) := tbq8 25 (by decide +kernel) rfl
theorem mc_Md_may {M : mM} (hd : 9 < mDp M) : mCal M M_Md_may 2 := ⟨tb_co_Md_may, tb_in_NineBarsModel, ⟨by decide +kernel, by decide +kernel⟩, by decide +kernel, hd, by decide⟩
theorem d_Md_may_0 : decode prog_13_method_51_code 0 = .ok (.aload_n 0, 1) := by decide +kernel
theorem d_Md_may_1 : decode prog_13_method_51_code 1 = .ok (.iconst 0, 1) := by decide +kernel
theorem d_Md_may_2 : decode prog_13_method_51_code 2 = .ok (.putfield 86, 3) := by decide +kernel
theorem d_Md_may_5 : decode prog_13_method_51_code 5 = .ok (.aload_n 0, 1) := by decide +kernel
theorem d_Md_may_6 : decode prog_13_method_51_code 6 = .ok (.iload_n 1, 1) := by decide +kernel
theorem d_Md_may_7 : decode prog_13_method_51_code 7 = .ok (.iload_n 2, 1) := by decide +kernel
theorem d_Md_may_8 : decode prog_13_method_51_code 8 = .ok (.invokevirtual 277, 3) := by decide +kernel
theorem tb_ml_Md_277 : mTB (Cond.methodLink "NineBarsModel" 277 ⟨"NineBarsModel", "whyNow", "(IZ)I"⟩) := tbq8 26 (by decide +kernel) rfl
theorem tb_im_Md_whyNow : mTB (Cond.instanceMethod ⟨"NineBarsModel", "whyNow", "(IZ)I"⟩) := tbq8 28 (by decide +kernel) rfl
theorem tb_se_Md_whyNow : mTB (Cond.selects "NineBarsModel" ⟨"NineBarsModel", "whyNow", "(IZ)I"⟩ ⟨"NineBarsModel", "whyNow", "(IZ)I"⟩) := tbqp 72 (by decide +kernel) rfl
theorem mv_Md_whyNow {M : mM} {idx : Nat} (h : mTB (Cond.methodLink (mO M) idx ⟨"NineBarsModel", "whyNow", "(IZ)I"⟩)) : mCaV M M_Md_whyNow idx 11 := ⟨h, tb_im_Md_whyNow, tb_se_Md_whyNow, by decide, TX11, 40, rfl⟩
theorem d_Md_may_11 : decode prog_13_method_51_code 11 = .ok (.ireturn, 1) := by decide +kernel
theorem t_Md_may {G : mG} (h : mH) (v0 v1 v2 : Int) (r : mR) (hr : f_Md_may h v0 v1 v2 = some r) : mJM G M_Md_may [(2, v0), (0, v1), (0, v2)] h r := by
  refine mJM_of (L := [(2, v0), (0, v1), (0, v2)]) rfl rfl rfl (Nat.le_of_ble_eq_true rfl) ?_
  unfold f_Md_may at hr
  refine j_aload_n (pc := 0) d_Md_may_0 rfl ?_
  refine j_iconst (pc := 1) d_Md_may_1 ?_
  refine j_puti (pc := 2) d_Md_may_2 (fd_Md_86 rfl) (⟨_, _, _, rfl, Or.inl rfl, rfl⟩ : mFldW M_Md_may 86 11 5 .int) hr (fun h1 hr => ?_)
  refine j_aload_n (pc := 5) d_Md_may_5 rfl ?_
  refine j_iload_n (pc := 6) d_Md_may_6 rfl ?_
  refine j_iload_n (pc := 7) d_Md_may_7 rfl ?_
  obtain ⟨ha, hr⟩ := chk_some hr
  refine j_callG (pc := 8) (stk := [(0, v2), (0, v1), (2, v0)]) (as := [(2, v0), (0, v1), (0, v2)]) (P := (fun v9 => ((0 : Nat), v9) :: [])) (tg := 0) (My := M_Md_whyNow) (mRunV (as := [(0, v1), (0, v2)]) (st := []) d_Md_may_8 (mc_Md_whyNow (by decide)) rfl (mv_Md_whyNow tb_ml_Md_277) rfl (Nat.le_of_ble_eq_true rfl) ha) (fun v => rfl) rfl hr (fun r1 h1 => t_Md_whyNow _ _ _ _ _ h1) (fun x3 h2 hr => ?_)
  exact j_iret (pc := 11) d_Md_may_11 rfl hr
def M_Md_makes : mM := ("NineBarsModel", ⟨"NineBarsModel", "makes", "(IZ)I"⟩, prog_13_method_52_code, 4, some .int, [], 9)
theorem tb_co_Md_makes : mTB (Cond.code ⟨"NineBarsModel", "makes", "(IZ)I"⟩ prog_13_method_52_code 4 (some .int)) := tbq8 49 (by decide +kernel) rfl
theorem mc_Md_makes {M : mM} (hd : 9 < mDp M) : mCal M M_Md_makes 2 := ⟨tb_co_Md_makes, tb_in_NineBarsModel, ⟨by decide +kernel, by decide +kernel⟩, by decide +kernel, hd, by decide⟩
theorem d_Md_makes_0 : decode prog_13_method_52_code 0 = .ok (.aload_n 0, 1) := by decide +kernel
theorem d_Md_makes_1 : decode prog_13_method_52_code 1 = .ok (.iload_n 1, 1) := by decide +kernel
theorem d_Md_makes_2 : decode prog_13_method_52_code 2 = .ok (.iload_n 2, 1) := by decide +kernel
theorem d_Md_makes_3 : decode prog_13_method_52_code 3 = .ok (.invokevirtual 277, 3) := by decide +kernel
theorem d_Md_makes_6 : decode prog_13_method_52_code 6 = .ok (.istore_n 3, 1) := by decide +kernel
theorem d_Md_makes_7 : decode prog_13_method_52_code 7 = .ok (.iload_n 3, 1) := by decide +kernel
theorem d_Md_makes_8 : decode prog_13_method_52_code 8 = .ok (.ifCond .eq 6, 3) := by decide +kernel
theorem d_Md_makes_14 : decode prog_13_method_52_code 14 = .ok (.aload_n 0, 1) := by decide +kernel
theorem d_Md_makes_15 : decode prog_13_method_52_code 15 = .ok (.getfield 9, 3) := by decide +kernel
theorem d_Md_makes_18 : decode prog_13_method_52_code 18 = .ok (.iconst 5, 1) := by decide +kernel
theorem d_Md_makes_19 : decode prog_13_method_52_code 19 = .ok (.iconst 4, 1) := by decide +kernel
theorem d_Md_makes_20 : decode prog_13_method_52_code 20 = .ok (.iload_n 1, 1) := by decide +kernel
theorem d_Md_makes_21 : decode prog_13_method_52_code 21 = .ok (.imul, 1) := by decide +kernel
theorem d_Md_makes_22 : decode prog_13_method_52_code 22 = .ok (.iadd, 1) := by decide +kernel
theorem d_Md_makes_23 : decode prog_13_method_52_code 23 = .ok (.iconst 1, 1) := by decide +kernel
theorem d_Md_makes_24 : decode prog_13_method_52_code 24 = .ok (.iadd, 1) := by decide +kernel
theorem d_Md_makes_25 : decode prog_13_method_52_code 25 = .ok (.dup2, 1) := by decide +kernel
theorem d_Md_makes_26 : decode prog_13_method_52_code 26 = .ok (.iaload, 1) := by decide +kernel
theorem d_Md_makes_27 : decode prog_13_method_52_code 27 = .ok (.iload_n 2, 1) := by decide +kernel
theorem d_Md_makes_28 : decode prog_13_method_52_code 28 = .ok (.ifCond .eq 7, 3) := by decide +kernel
theorem d_Md_makes_35 : decode prog_13_method_52_code 35 = .ok (.iconst (-1), 1) := by decide +kernel
theorem d_Md_makes_36 : decode prog_13_method_52_code 36 = .ok (.iadd, 1) := by decide +kernel
theorem d_Md_makes_37 : decode prog_13_method_52_code 37 = .ok (.iastore, 1) := by decide +kernel
theorem d_Md_makes_38 : decode prog_13_method_52_code 38 = .ok (.aload_n 0, 1) := by decide +kernel
theorem d_Md_makes_39 : decode prog_13_method_52_code 39 = .ok (.getfield 9, 3) := by decide +kernel
theorem d_Md_makes_42 : decode prog_13_method_52_code 42 = .ok (.iconst 5, 1) := by decide +kernel
theorem d_Md_makes_43 : decode prog_13_method_52_code 43 = .ok (.iconst 4, 1) := by decide +kernel
theorem d_Md_makes_44 : decode prog_13_method_52_code 44 = .ok (.iload_n 1, 1) := by decide +kernel
theorem d_Md_makes_45 : decode prog_13_method_52_code 45 = .ok (.imul, 1) := by decide +kernel
theorem d_Md_makes_46 : decode prog_13_method_52_code 46 = .ok (.iadd, 1) := by decide +kernel
theorem d_Md_makes_47 : decode prog_13_method_52_code 47 = .ok (.iconst 3, 1) := by decide +kernel
theorem d_Md_makes_48 : decode prog_13_method_52_code 48 = .ok (.iadd, 1) := by decide +kernel
theorem d_Md_makes_49 : decode prog_13_method_52_code 49 = .ok (.dup2, 1) := by decide +kernel
theorem d_Md_makes_50 : decode prog_13_method_52_code 50 = .ok (.iaload, 1) := by decide +kernel
theorem d_Md_makes_51 : decode prog_13_method_52_code 51 = .ok (.iconst 1, 1) := by decide +kernel
theorem d_Md_makes_52 : decode prog_13_method_52_code 52 = .ok (.iadd, 1) := by decide +kernel
theorem d_Md_makes_53 : decode prog_13_method_52_code 53 = .ok (.iastore, 1) := by decide +kernel
theorem d_Md_makes_54 : decode prog_13_method_52_code 54 = .ok (.aload_n 0, 1) := by decide +kernel
theorem d_Md_makes_55 : decode prog_13_method_52_code 55 = .ok (.iload_n 1, 1) := by decide +kernel
theorem d_Md_makes_56 : decode prog_13_method_52_code 56 = .ok (.iconst 1, 1) := by decide +kernel
theorem d_Md_makes_57 : decode prog_13_method_52_code 57 = .ok (.invokevirtual 213, 3) := by decide +kernel
theorem d_Md_makes_60 : decode prog_13_method_52_code 60 = .ok (.ireturn, 1) := by decide +kernel
theorem d_Md_makes_31 : decode prog_13_method_52_code 31 = .ok (.iconst 1, 1) := by decide +kernel
theorem d_Md_makes_32 : decode prog_13_method_52_code 32 = .ok (.goto 4, 3) := by decide +kernel
theorem d_Md_makes_11 : decode prog_13_method_52_code 11 = .ok (.iload_n 3, 1) := by decide +kernel
theorem d_Md_makes_12 : decode prog_13_method_52_code 12 = .ok (.ineg, 1) := by decide +kernel
theorem d_Md_makes_13 : decode prog_13_method_52_code 13 = .ok (.ireturn, 1) := by decide +kernel
theorem t_Md_makes_J36 {G : mG} {r : mR} {v0 v1 s0 s1 s2 s3 : Int} {h : mH}  (hr : f_Md_makes_J36 v0 v1 s0 s1 s2 s3 h = some r) : mJ G M_Md_makes 36 [(2, v0), (0, v1), (9, 0), (9, 0)] [(0, s3), (0, s2), (0, s1), (2, s0)] h r := by
  unfold f_Md_makes_J36 at hr
  refine j_iadd (pc := 36) d_Md_makes_36 ?_
  refine j_iastore (pc := 37) d_Md_makes_37 hr (fun h1 hr => ?_)
  refine j_aload_n (pc := 38) d_Md_makes_38 rfl ?_
  refine j_getf (pc := 39) d_Md_makes_39 (fd_Md_9 rfl) hr (fun hr => ?_)
  refine j_iconst (pc := 42) d_Md_makes_42 ?_
  refine j_iconst (pc := 43) d_Md_makes_43 ?_
  refine j_iload_n (pc := 44) d_Md_makes_44 rfl ?_
  refine j_imul (pc := 45) d_Md_makes_45 ?_
  refine j_iadd (pc := 46) d_Md_makes_46 ?_
  refine j_iconst (pc := 47) d_Md_makes_47 ?_
  refine j_iadd (pc := 48) d_Md_makes_48 ?_
  refine j_dup2 (pc := 49) d_Md_makes_49 ?_
  refine j_iaload (pc := 50) d_Md_makes_50 hr (fun hr => ?_)
  refine j_iconst (pc := 51) d_Md_makes_51 ?_
  refine j_iadd (pc := 52) d_Md_makes_52 ?_
  refine j_iastore (pc := 53) d_Md_makes_53 hr (fun h2 hr => ?_)
  refine j_aload_n (pc := 54) d_Md_makes_54 rfl ?_
  refine j_iload_n (pc := 55) d_Md_makes_55 rfl ?_
  refine j_iconst (pc := 56) d_Md_makes_56 ?_
  obtain ⟨ha, hr⟩ := chk_some hr
  refine j_callG (pc := 57) (stk := [(0, 1), (0, v1), (2, v0)]) (as := [(2, v0), (0, v1), (0, 1)]) (P := (fun v9 => ((0 : Nat), v9) :: [])) (tg := 0) (My := M_Md_of) (mRunV (as := [(0, v1), (0, 1)]) (st := []) d_Md_makes_57 (mc_Md_of (by decide)) rfl (mv_Md_of tb_ml_Md_213) rfl (Nat.le_of_ble_eq_true rfl) ha) (fun v => rfl) rfl hr (fun r1 h1 => t_Md_of _ _ _ _ _ h1) (fun x4 h3 hr => ?_)
  exact j_iret (pc := 60) d_Md_makes_60 rfl hr
theorem t_Md_makes {G : mG} (h : mH) (v0 v1 v2 : Int) (r : mR) (hr : f_Md_makes h v0 v1 v2 = some r) : mJM G M_Md_makes [(2, v0), (0, v1), (0, v2)] h r := by
  refine mJM_of (L := [(2, v0), (0, v1), (0, v2), (9, 0)]) rfl rfl rfl (Nat.le_of_ble_eq_true rfl) ?_
  unfold f_Md_makes at hr
  refine j_aload_n (pc := 0) d_Md_makes_0 rfl ?_
  refine j_iload_n (pc := 1) d_Md_makes_1 rfl ?_
  refine j_iload_n (pc := 2) d_Md_makes_2 rfl ?_
  obtain ⟨ha, hr⟩ := chk_some hr
  refine j_callG (pc := 3) (stk := [(0, v2), (0, v1), (2, v0)]) (as := [(2, v0), (0, v1), (0, v2)]) (P := (fun v9 => ((0 : Nat), v9) :: [])) (tg := 0) (My := M_Md_whyNow) (mRunV (as := [(0, v1), (0, v2)]) (st := []) d_Md_makes_3 (mc_Md_whyNow (by decide)) rfl (mv_Md_whyNow tb_ml_Md_277) rfl (Nat.le_of_ble_eq_true rfl) ha) (fun v => rfl) rfl hr (fun r1 h1 => t_Md_whyNow _ _ _ _ _ h1) (fun x2 h1 hr => ?_)
  refine j_istore_n (pc := 6) (ls' := [(2, v0), (0, v1), (0, v2), (0, x2)]) d_Md_makes_6 rfl ?_
  refine j_iload_n (pc := 7) d_Md_makes_7 rfl ?_
  refine j_if_eq (pc := 8) (tgt := 14) d_Md_makes_8 hr (fun hr => ?_) (fun hr => ?_)
  · refine j_aload_n (pc := 14) d_Md_makes_14 rfl ?_
    refine j_getf (pc := 15) d_Md_makes_15 (fd_Md_9 rfl) hr (fun hr => ?_)
    refine j_iconst (pc := 18) d_Md_makes_18 ?_
    refine j_iconst (pc := 19) d_Md_makes_19 ?_
    refine j_iload_n (pc := 20) d_Md_makes_20 rfl ?_
    refine j_imul (pc := 21) d_Md_makes_21 ?_
    refine j_iadd (pc := 22) d_Md_makes_22 ?_
    refine j_iconst (pc := 23) d_Md_makes_23 ?_
    refine j_iadd (pc := 24) d_Md_makes_24 ?_
    refine j_dup2 (pc := 25) d_Md_makes_25 ?_
    refine j_iaload (pc := 26) d_Md_makes_26 hr (fun hr => ?_)
    refine j_iload_n (pc := 27) d_Md_makes_27 rfl ?_
    refine j_if_eq (pc := 28) (tgt := 35) d_Md_makes_28 hr (fun hr => ?_) (fun hr => ?_)
    · refine j_iconst (pc := 35) d_Md_makes_35 ?_
      exact mJ_weak (ls' := [(2, v0), (0, v1), (9, 0), (9, 0)]) (mwk_s (mwk_s (mwk_d (mwk_d mwk_n)))) (t_Md_makes_J36  hr)
    · refine j_iconst (pc := 31) d_Md_makes_31 ?_
      refine j_goto (pc := 32) (tgt := 36) d_Md_makes_32 ?_
      exact mJ_weak (ls' := [(2, v0), (0, v1), (9, 0), (9, 0)]) (mwk_s (mwk_s (mwk_d (mwk_d mwk_n)))) (t_Md_makes_J36  hr)
  · refine j_iload_n (pc := 11) d_Md_makes_11 rfl ?_
    refine j_ineg (pc := 12) d_Md_makes_12 ?_
    exact j_iret (pc := 13) d_Md_makes_13 rfl hr
def M_Md_step : mM := ("NineBarsModel", ⟨"NineBarsModel", "step", "(IZ)I"⟩, prog_13_method_53_code, 3, some .int, [], 11)
theorem tb_co_Md_step : mTB (Cond.code ⟨"NineBarsModel", "step", "(IZ)I"⟩ prog_13_method_53_code 3 (some .int)) := tbq8 45 (by decide +kernel) rfl
theorem mc_Md_step {M : mM} (hd : 11 < mDp M) : mCal M M_Md_step 2 := ⟨tb_co_Md_step, tb_in_NineBarsModel, ⟨by decide +kernel, by decide +kernel⟩, by decide +kernel, hd, by decide⟩
theorem d_Md_step_0 : decode prog_13_method_53_code 0 = .ok (.aload_n 0, 1) := by decide +kernel
theorem d_Md_step_1 : decode prog_13_method_53_code 1 = .ok (.iconst 0, 1) := by decide +kernel
theorem d_Md_step_2 : decode prog_13_method_53_code 2 = .ok (.putfield 86, 3) := by decide +kernel
theorem d_Md_step_5 : decode prog_13_method_53_code 5 = .ok (.aload_n 0, 1) := by decide +kernel
theorem d_Md_step_6 : decode prog_13_method_53_code 6 = .ok (.iload_n 1, 1) := by decide +kernel
theorem d_Md_step_7 : decode prog_13_method_53_code 7 = .ok (.iload_n 2, 1) := by decide +kernel
theorem d_Md_step_8 : decode prog_13_method_53_code 8 = .ok (.invokevirtual 281, 3) := by decide +kernel
theorem tb_ml_Md_281 : mTB (Cond.methodLink "NineBarsModel" 281 ⟨"NineBarsModel", "makes", "(IZ)I"⟩) := tbq8 46 (by decide +kernel) rfl
theorem tb_im_Md_makes : mTB (Cond.instanceMethod ⟨"NineBarsModel", "makes", "(IZ)I"⟩) := tbq8 48 (by decide +kernel) rfl
theorem tb_se_Md_makes : mTB (Cond.selects "NineBarsModel" ⟨"NineBarsModel", "makes", "(IZ)I"⟩ ⟨"NineBarsModel", "makes", "(IZ)I"⟩) := tbqp 76 (by decide +kernel) rfl
theorem mv_Md_makes {M : mM} {idx : Nat} (h : mTB (Cond.methodLink (mO M) idx ⟨"NineBarsModel", "makes", "(IZ)I"⟩)) : mCaV M M_Md_makes idx 11 := ⟨h, tb_im_Md_makes, tb_se_Md_makes, by decide, TX11, 40, rfl⟩
theorem d_Md_step_11 : decode prog_13_method_53_code 11 = .ok (.ireturn, 1) := by decide +kernel
theorem t_Md_step {G : mG} (h : mH) (v0 v1 v2 : Int) (r : mR) (hr : f_Md_step h v0 v1 v2 = some r) : mJM G M_Md_step [(2, v0), (0, v1), (0, v2)] h r := by
  refine mJM_of (L := [(2, v0), (0, v1), (0, v2)]) rfl rfl rfl (Nat.le_of_ble_eq_true rfl) ?_
  unfold f_Md_step at hr
  refine j_aload_n (pc := 0) d_Md_step_0 rfl ?_
  refine j_iconst (pc := 1) d_Md_step_1 ?_
  refine j_puti (pc := 2) d_Md_step_2 (fd_Md_86 rfl) (⟨_, _, _, rfl, Or.inl rfl, rfl⟩ : mFldW M_Md_step 86 11 5 .int) hr (fun h1 hr => ?_)
  refine j_aload_n (pc := 5) d_Md_step_5 rfl ?_
  refine j_iload_n (pc := 6) d_Md_step_6 rfl ?_
  refine j_iload_n (pc := 7) d_Md_step_7 rfl ?_
  obtain ⟨ha, hr⟩ := chk_some hr
  refine j_callG (pc := 8) (stk := [(0, v2), (0, v1), (2, v0)]) (as := [(2, v0), (0, v1), (0, v2)]) (P := (fun v9 => ((0 : Nat), v9) :: [])) (tg := 0) (My := M_Md_makes) (mRunV (as := [(0, v1), (0, v2)]) (st := []) d_Md_step_8 (mc_Md_makes (by decide)) rfl (mv_Md_makes tb_ml_Md_281) rfl (Nat.le_of_ble_eq_true rfl) ha) (fun v => rfl) rfl hr (fun r1 h1 => t_Md_makes _ _ _ _ _ h1) (fun x3 h2 hr => ?_)
  exact j_iret (pc := 11) d_Md_step_11 rfl hr
def M_Md_stops : mM := ("NineBarsModel", ⟨"NineBarsModel", "stops", "(IZ)I"⟩, prog_13_method_54_code, 6, some .int, [], 9)
theorem tb_co_Md_stops : mTB (Cond.code ⟨"NineBarsModel", "stops", "(IZ)I"⟩ prog_13_method_54_code 6 (some .int)) := tbq8 53 (by decide +kernel) rfl
theorem mc_Md_stops {M : mM} (hd : 9 < mDp M) : mCal M M_Md_stops 2 := ⟨tb_co_Md_stops, tb_in_NineBarsModel, ⟨by decide +kernel, by decide +kernel⟩, by decide +kernel, hd, by decide⟩
theorem d_Md_stops_0 : decode prog_13_method_54_code 0 = .ok (.aload_n 0, 1) := by decide +kernel
theorem d_Md_stops_1 : decode prog_13_method_54_code 1 = .ok (.iconst 0, 1) := by decide +kernel
theorem d_Md_stops_2 : decode prog_13_method_54_code 2 = .ok (.putfield 86, 3) := by decide +kernel
theorem d_Md_stops_5 : decode prog_13_method_54_code 5 = .ok (.aload_n 0, 1) := by decide +kernel
theorem d_Md_stops_6 : decode prog_13_method_54_code 6 = .ok (.iload_n 1, 1) := by decide +kernel
theorem d_Md_stops_7 : decode prog_13_method_54_code 7 = .ok (.iload_n 2, 1) := by decide +kernel
theorem d_Md_stops_8 : decode prog_13_method_54_code 8 = .ok (.invokevirtual 277, 3) := by decide +kernel
theorem d_Md_stops_11 : decode prog_13_method_54_code 11 = .ok (.iconst 3, 1) := by decide +kernel
theorem d_Md_stops_12 : decode prog_13_method_54_code 12 = .ok (.if_icmp .ge 5, 3) := by decide +kernel
theorem d_Md_stops_17 : decode prog_13_method_54_code 17 = .ok (.aload_n 0, 1) := by decide +kernel
theorem d_Md_stops_18 : decode prog_13_method_54_code 18 = .ok (.invokevirtual 244, 3) := by decide +kernel
theorem d_Md_stops_21 : decode prog_13_method_54_code 21 = .ok (.istore_n 3, 1) := by decide +kernel
theorem d_Md_stops_22 : decode prog_13_method_54_code 22 = .ok (.iconst 0, 1) := by decide +kernel
theorem d_Md_stops_23 : decode prog_13_method_54_code 23 = .ok (.istore 4, 2) := by decide +kernel
theorem d_Md_stops_25 : decode prog_13_method_54_code 25 = .ok (.iload 4, 2) := by decide +kernel
theorem d_Md_stops_27 : decode prog_13_method_54_code 27 = .ok (.aload_n 0, 1) := by decide +kernel
theorem d_Md_stops_28 : decode prog_13_method_54_code 28 = .ok (.invokevirtual 210, 3) := by decide +kernel
theorem d_Md_stops_31 : decode prog_13_method_54_code 31 = .ok (.if_icmp .ge 62, 3) := by decide +kernel
theorem d_Md_stops_93 : decode prog_13_method_54_code 93 = .ok (.iconst (-1), 1) := by decide +kernel
theorem d_Md_stops_94 : decode prog_13_method_54_code 94 = .ok (.ireturn, 1) := by decide +kernel
theorem d_Md_stops_34 : decode prog_13_method_54_code 34 = .ok (.iconst 0, 1) := by decide +kernel
theorem d_Md_stops_35 : decode prog_13_method_54_code 35 = .ok (.istore 5, 2) := by decide +kernel
theorem d_Md_stops_37 : decode prog_13_method_54_code 37 = .ok (.iload 5, 2) := by decide +kernel
theorem d_Md_stops_39 : decode prog_13_method_54_code 39 = .ok (.aload_n 0, 1) := by decide +kernel
theorem d_Md_stops_40 : decode prog_13_method_54_code 40 = .ok (.iload 4, 2) := by decide +kernel
theorem d_Md_stops_42 : decode prog_13_method_54_code 42 = .ok (.iconst 0, 1) := by decide +kernel
theorem d_Md_stops_43 : decode prog_13_method_54_code 43 = .ok (.invokevirtual 213, 3) := by decide +kernel
theorem d_Md_stops_46 : decode prog_13_method_54_code 46 = .ok (.if_icmp .ge 41, 3) := by decide +kernel
theorem d_Md_stops_49 : decode prog_13_method_54_code 49 = .ok (.iload 4, 2) := by decide +kernel
theorem d_Md_stops_51 : decode prog_13_method_54_code 51 = .ok (.iload_n 1, 1) := by decide +kernel
theorem d_Md_stops_52 : decode prog_13_method_54_code 52 = .ok (.if_icmp .eq 35, 3) := by decide +kernel
theorem d_Md_stops_55 : decode prog_13_method_54_code 55 = .ok (.aload_n 0, 1) := by decide +kernel
theorem d_Md_stops_56 : decode prog_13_method_54_code 56 = .ok (.invokevirtual 241, 3) := by decide +kernel
theorem d_Md_stops_59 : decode prog_13_method_54_code 59 = .ok (.aload_n 0, 1) := by decide +kernel
theorem d_Md_stops_60 : decode prog_13_method_54_code 60 = .ok (.getfield 33, 3) := by decide +kernel
theorem d_Md_stops_63 : decode prog_13_method_54_code 63 = .ok (.iload 4, 2) := by decide +kernel
theorem d_Md_stops_65 : decode prog_13_method_54_code 65 = .ok (.iload 5, 2) := by decide +kernel
theorem d_Md_stops_67 : decode prog_13_method_54_code 67 = .ok (.iastore, 1) := by decide +kernel
theorem d_Md_stops_68 : decode prog_13_method_54_code 68 = .ok (.aload_n 0, 1) := by decide +kernel
theorem d_Md_stops_69 : decode prog_13_method_54_code 69 = .ok (.iload_n 1, 1) := by decide +kernel
theorem d_Md_stops_70 : decode prog_13_method_54_code 70 = .ok (.iload_n 2, 1) := by decide +kernel
theorem d_Md_stops_71 : decode prog_13_method_54_code 71 = .ok (.iload_n 3, 1) := by decide +kernel
theorem d_Md_stops_72 : decode prog_13_method_54_code 72 = .ok (.invokevirtual 247, 3) := by decide +kernel
theorem d_Md_stops_75 : decode prog_13_method_54_code 75 = .ok (.ifCond .ne 6, 3) := by decide +kernel
theorem d_Md_stops_81 : decode prog_13_method_54_code 81 = .ok (.iinc 5 1, 3) := by decide +kernel
theorem d_Md_stops_84 : decode prog_13_method_54_code 84 = .ok (.goto (-47), 3) := by decide +kernel
theorem d_Md_stops_78 : decode prog_13_method_54_code 78 = .ok (.iload 4, 2) := by decide +kernel
theorem d_Md_stops_80 : decode prog_13_method_54_code 80 = .ok (.ireturn, 1) := by decide +kernel
theorem d_Md_stops_87 : decode prog_13_method_54_code 87 = .ok (.iinc 4 1, 3) := by decide +kernel
theorem d_Md_stops_90 : decode prog_13_method_54_code 90 = .ok (.goto (-65), 3) := by decide +kernel
theorem d_Md_stops_15 : decode prog_13_method_54_code 15 = .ok (.iconst (-1), 1) := by decide +kernel
theorem d_Md_stops_16 : decode prog_13_method_54_code 16 = .ok (.ireturn, 1) := by decide +kernel
theorem t_Md_stops_L37 {G : mG} {r : mR} {v0 v1 v2 v3 v4 : Int} {K87 : mH → Option mR} (hK87 : ∀ (h : mH) , K87 h  = some r → mJ G M_Md_stops 87 [(2, v0), (0, v1), (0, v2), (0, v3), (0, v4), (9, 0)] [] h r) : ∀ (n : Nat) (h : mH) (v5 : Int), f_Md_stops_L37 K87 v0 v1 v2 v3 v4 n h v5 = some r → mJ G M_Md_stops 37 [(2, v0), (0, v1), (0, v2), (0, v3), (0, v4), (0, v5)] [] h r := by
  intro n
  induction n with
  | zero =>
    intro h v5 hr
    rw [f_Md_stops_L37] at hr
    cases hr
  | succ n hR37 =>
    intro h v5 hr
    rw [f_Md_stops_L37] at hr
    refine j_iload (pc := 37) d_Md_stops_37 rfl ?_
    refine j_aload_n (pc := 39) d_Md_stops_39 rfl ?_
    refine j_iload (pc := 40) d_Md_stops_40 rfl ?_
    refine j_iconst (pc := 42) d_Md_stops_42 ?_
    obtain ⟨ha, hr⟩ := chk_some hr
    refine j_callG (pc := 43) (stk := [(0, 0), (0, v4), (2, v0), (0, v5)]) (as := [(2, v0), (0, v4), (0, 0)]) (P := (fun v9 => ((0 : Nat), v9) :: [(0, v5)])) (tg := 0) (My := M_Md_of) (mRunV (as := [(0, v4), (0, 0)]) (st := [(0, v5)]) d_Md_stops_43 (mc_Md_of (by decide)) rfl (mv_Md_of tb_ml_Md_213) rfl (Nat.le_of_ble_eq_true rfl) ha) (fun v => rfl) rfl hr (fun r1 h1 => t_Md_of _ _ _ _ _ h1) (fun x2 h1 hr => ?_)
    refine j_icmp_ge (pc := 46) (tgt := 87) d_Md_stops_46 hr (fun hr => ?_) (fun hr => ?_)
    · exact mJ_weak (ls' := [(2, v0), (0, v1), (0, v2), (0, v3), (0, v4), (9, 0)]) (mwk_s (mwk_s (mwk_s (mwk_s (mwk_s (mwk_d mwk_n)))))) (hK87 h1  hr)
    · refine j_iload (pc := 49) d_Md_stops_49 rfl ?_
      refine j_iload_n (pc := 51) d_Md_stops_51 rfl ?_
      refine j_icmp_eq (pc := 52) (tgt := 87) d_Md_stops_52 hr (fun hr => ?_) (fun hr => ?_)
      · exact mJ_weak (ls' := [(2, v0), (0, v1), (0, v2), (0, v3), (0, v4), (9, 0)]) (mwk_s (mwk_s (mwk_s (mwk_s (mwk_s (mwk_d mwk_n)))))) (hK87 h1  hr)
      · refine j_aload_n (pc := 55) d_Md_stops_55 rfl ?_
        obtain ⟨ha, hr⟩ := chk_some hr
        refine j_callG (pc := 56) (stk := [(2, v0)]) (as := [(2, v0)]) (P := (fun v9 => [])) (tg := 3) (My := M_Md_laysNow) (mRunV (as := []) (st := []) d_Md_stops_56 (mc_Md_laysNow (by decide)) rfl (mv_Md_laysNow tb_ml_Md_241) rfl (Nat.le_of_ble_eq_true rfl) ha) (fun v => rfl) rfl hr (fun r1 h1 => t_Md_laysNow _ _ _ h1) (fun x4 h3 hr => ?_)
        refine j_aload_n (pc := 59) d_Md_stops_59 rfl ?_
        refine j_getf (pc := 60) d_Md_stops_60 (fd_Md_33 rfl) hr (fun hr => ?_)
        refine j_iload (pc := 63) d_Md_stops_63 rfl ?_
        refine j_iload (pc := 65) d_Md_stops_65 rfl ?_
        refine j_iastore (pc := 67) d_Md_stops_67 hr (fun h5 hr => ?_)
        refine j_aload_n (pc := 68) d_Md_stops_68 rfl ?_
        refine j_iload_n (pc := 69) d_Md_stops_69 rfl ?_
        refine j_iload_n (pc := 70) d_Md_stops_70 rfl ?_
        refine j_iload_n (pc := 71) d_Md_stops_71 rfl ?_
        obtain ⟨ha, hr⟩ := chk_some hr
        refine j_callG (pc := 72) (stk := [(0, v3), (0, v2), (0, v1), (2, v0)]) (as := [(2, v0), (0, v1), (0, v2), (0, v3)]) (P := (fun v9 => ((0 : Nat), v9) :: [])) (tg := 0) (My := M_Md_whyNot) (mRunV (as := [(0, v1), (0, v2), (0, v3)]) (st := []) d_Md_stops_72 (mc_Md_whyNot (by decide)) rfl (mv_Md_whyNot tb_ml_Md_247) rfl (Nat.le_of_ble_eq_true rfl) ha) (fun v => rfl) rfl hr (fun r1 h1 => t_Md_whyNot _ _ _ _ _ _ h1) (fun x7 h6 hr => ?_)
        refine j_if_ne (pc := 75) (tgt := 81) d_Md_stops_75 hr (fun hr => ?_) (fun hr => ?_)
        · refine j_iincW (pc := 81) (L := fun x8 => [(2, v0), (0, v1), (0, v2), (0, v3), (0, v4), (0, x8)]) d_Md_stops_81 rfl (fun _ => rfl) hr (fun x8 hr => ?_)
          refine j_goto (pc := 84) (tgt := 37) d_Md_stops_84 ?_
          exact mJ_weak (ls' := [(2, v0), (0, v1), (0, v2), (0, v3), (0, v4), (0, x8)]) (mwk_s (mwk_s (mwk_s (mwk_s (mwk_s (mwk_s mwk_n)))))) (hR37 h6 _ hr)
        · refine j_iload (pc := 78) d_Md_stops_78 rfl ?_
          exact j_iret (pc := 80) d_Md_stops_80 rfl hr
theorem t_Md_stops_J87 {G : mG} {r : mR} {v0 v1 v2 v3 v4 : Int} {h : mH} {R25 : mH → Int → Option mR} (hR25 : ∀ (h : mH) (w4 : Int) , R25 h w4 = some r → mJ G M_Md_stops 25 [(2, v0), (0, v1), (0, v2), (0, v3), (0, w4), (9, 0)] [] h r) (hr : f_Md_stops_J87 R25 v4 h = some r) : mJ G M_Md_stops 87 [(2, v0), (0, v1), (0, v2), (0, v3), (0, v4), (9, 0)] [] h r := by
  unfold f_Md_stops_J87 at hr
  refine j_iincW (pc := 87) (L := fun x1 => [(2, v0), (0, v1), (0, v2), (0, v3), (0, x1), (9, 0)]) d_Md_stops_87 rfl (fun _ => rfl) hr (fun x1 hr => ?_)
  refine j_goto (pc := 90) (tgt := 25) d_Md_stops_90 ?_
  exact mJ_weak (ls' := [(2, v0), (0, v1), (0, v2), (0, v3), (0, x1), (9, 0)]) (mwk_s (mwk_s (mwk_s (mwk_s (mwk_s (mwk_s mwk_n)))))) (hR25 h _ hr)
theorem t_Md_stops_L25 {G : mG} {r : mR} {v0 v1 v2 v3 : Int}  : ∀ (n : Nat) (h : mH) (v4 : Int), f_Md_stops_L25 v0 v1 v2 v3 n h v4 = some r → mJ G M_Md_stops 25 [(2, v0), (0, v1), (0, v2), (0, v3), (0, v4), (9, 0)] [] h r := by
  intro n
  induction n with
  | zero =>
    intro h v4 hr
    rw [f_Md_stops_L25] at hr
    cases hr
  | succ n hR25 =>
    intro h v4 hr
    rw [f_Md_stops_L25] at hr
    refine j_iload (pc := 25) d_Md_stops_25 rfl ?_
    refine j_aload_n (pc := 27) d_Md_stops_27 rfl ?_
    obtain ⟨ha, hr⟩ := chk_some hr
    refine j_callG (pc := 28) (stk := [(2, v0), (0, v4)]) (as := [(2, v0)]) (P := (fun v9 => ((0 : Nat), v9) :: [(0, v4)])) (tg := 0) (My := M_Md_bars) (mRunV (as := []) (st := [(0, v4)]) d_Md_stops_28 (mc_Md_bars (by decide)) rfl (mv_Md_bars tb_ml_Md_210) rfl (Nat.le_of_ble_eq_true rfl) ha) (fun v => rfl) rfl hr (fun r1 h1 => t_Md_bars _ _ _ h1) (fun x2 h1 hr => ?_)
    refine j_icmp_ge (pc := 31) (tgt := 93) d_Md_stops_31 hr (fun hr => ?_) (fun hr => ?_)
    · refine j_iconst (pc := 93) d_Md_stops_93 ?_
      exact j_iret (pc := 94) d_Md_stops_94 rfl hr
    · refine j_iconst (pc := 34) d_Md_stops_34 ?_
      refine j_istore (pc := 35) (ls' := [(2, v0), (0, v1), (0, v2), (0, v3), (0, v4), (0, 0)]) d_Md_stops_35 rfl ?_
      refine mJ_weak (ls' := [(2, v0), (0, v1), (0, v2), (0, v3), (0, v4), (0, 0)]) (mwk_s (mwk_s (mwk_s (mwk_s (mwk_s (mwk_s mwk_n)))))) (t_Md_stops_L37 (fun h3  hr => ?_) _ _ _ hr)
      · exact mJ_weak (ls' := [(2, v0), (0, v1), (0, v2), (0, v3), (0, v4), (9, 0)]) (mwk_s (mwk_s (mwk_s (mwk_s (mwk_s (mwk_s mwk_n)))))) (t_Md_stops_J87 hR25 hr)
theorem t_Md_stops {G : mG} (h : mH) (v0 v1 v2 : Int) (r : mR) (hr : f_Md_stops h v0 v1 v2 = some r) : mJM G M_Md_stops [(2, v0), (0, v1), (0, v2)] h r := by
  refine mJM_of (L := [(2, v0), (0, v1), (0, v2), (9, 0), (9, 0), (9, 0)]) rfl rfl rfl (Nat.le_of_ble_eq_true rfl) ?_
  unfold f_Md_stops at hr
  refine j_aload_n (pc := 0) d_Md_stops_0 rfl ?_
  refine j_iconst (pc := 1) d_Md_stops_1 ?_
  refine j_puti (pc := 2) d_Md_stops_2 (fd_Md_86 rfl) (⟨_, _, _, rfl, Or.inl rfl, rfl⟩ : mFldW M_Md_stops 86 11 5 .int) hr (fun h1 hr => ?_)
  refine j_aload_n (pc := 5) d_Md_stops_5 rfl ?_
  refine j_iload_n (pc := 6) d_Md_stops_6 rfl ?_
  refine j_iload_n (pc := 7) d_Md_stops_7 rfl ?_
  obtain ⟨ha, hr⟩ := chk_some hr
  refine j_callG (pc := 8) (stk := [(0, v2), (0, v1), (2, v0)]) (as := [(2, v0), (0, v1), (0, v2)]) (P := (fun v9 => ((0 : Nat), v9) :: [])) (tg := 0) (My := M_Md_whyNow) (mRunV (as := [(0, v1), (0, v2)]) (st := []) d_Md_stops_8 (mc_Md_whyNow (by decide)) rfl (mv_Md_whyNow tb_ml_Md_277) rfl (Nat.le_of_ble_eq_true rfl) ha) (fun v => rfl) rfl hr (fun r1 h1 => t_Md_whyNow _ _ _ _ _ h1) (fun x3 h2 hr => ?_)
  refine j_iconst (pc := 11) d_Md_stops_11 ?_
  refine j_icmp_ge (pc := 12) (tgt := 17) d_Md_stops_12 hr (fun hr => ?_) (fun hr => ?_)
  · refine j_aload_n (pc := 17) d_Md_stops_17 rfl ?_
    obtain ⟨ha, hr⟩ := chk_some hr
    refine j_callG (pc := 18) (stk := [(2, v0)]) (as := [(2, v0)]) (P := (fun v9 => ((0 : Nat), v9) :: [])) (tg := 0) (My := M_Md_worn) (mRunV (as := []) (st := []) d_Md_stops_18 (mc_Md_worn (by decide)) rfl (mv_Md_worn tb_ml_Md_244) rfl (Nat.le_of_ble_eq_true rfl) ha) (fun v => rfl) rfl hr (fun r1 h1 => t_Md_worn _ _ _ h1) (fun x5 h4 hr => ?_)
    refine j_istore_n (pc := 21) (ls' := [(2, v0), (0, v1), (0, v2), (0, x5), (9, 0), (9, 0)]) d_Md_stops_21 rfl ?_
    refine j_iconst (pc := 22) d_Md_stops_22 ?_
    refine j_istore (pc := 23) (ls' := [(2, v0), (0, v1), (0, v2), (0, x5), (0, 0), (9, 0)]) d_Md_stops_23 rfl ?_
    refine mJ_weak (ls' := [(2, v0), (0, v1), (0, v2), (0, x5), (0, 0), (9, 0)]) (mwk_s (mwk_s (mwk_s (mwk_s (mwk_s (mwk_s mwk_n)))))) (t_Md_stops_L25  _ _ _ hr)
  · refine j_iconst (pc := 15) d_Md_stops_15 ?_
    exact j_iret (pc := 16) d_Md_stops_16 rfl hr
def M_Md_isTray : mM := ("NineBarsModel", ⟨"NineBarsModel", "isTray", "(I)Z"⟩, prog_13_method_109_code, 1, some .boolean, [], 3)
theorem tb_co_Md_isTray : mTB (Cond.code ⟨"NineBarsModel", "isTray", "(I)Z"⟩ prog_13_method_109_code 1 (some .boolean)) := tbq8 64 (by decide +kernel) rfl
theorem mc_Md_isTray {M : mM} (hd : 3 < mDp M) : mCal M M_Md_isTray 1 := ⟨tb_co_Md_isTray, tb_in_NineBarsModel, ⟨by decide +kernel, by decide +kernel⟩, by decide +kernel, hd, by decide⟩
theorem d_Md_isTray_0 : decode prog_13_method_109_code 0 = .ok (.iload_n 0, 1) := by decide +kernel
theorem d_Md_isTray_1 : decode prog_13_method_109_code 1 = .ok (.i2l, 1) := by decide +kernel
theorem d_Md_isTray_2 : decode prog_13_method_109_code 2 = .ok (.lconst 0, 1) := by decide +kernel
theorem tb_cj_Md_299 : mTB (Cond.constantLong "NineBarsModel" 299 3) := tbq8 65 (by decide +kernel) rfl
theorem d_Md_isTray_3 : decode prog_13_method_109_code 3 = .ok (.ldc2_w 299, 3) := by decide +kernel
theorem d_Md_isTray_6 : decode prog_13_method_109_code 6 = .ok (.invokestatic 147, 3) := by decide +kernel
theorem d_Md_isTray_9 : decode prog_13_method_109_code 9 = .ok (.ireturn, 1) := by decide +kernel
theorem t_Md_isTray {G : mG} (h : mH) (v0 : Int) (r : mR) (hr : f_Md_isTray h v0 = some r) : mJM G M_Md_isTray [(0, v0)] h r := by
  refine mJM_of (L := [(0, v0)]) rfl rfl rfl (Nat.le_of_ble_eq_true rfl) ?_
  unfold f_Md_isTray at hr
  refine j_iload_n (pc := 0) d_Md_isTray_0 rfl ?_
  refine j_i2l (pc := 1) d_Md_isTray_1 ?_
  refine j_lconst (pc := 2) (z := 0) d_Md_isTray_2 ?_
  refine j_ldc2 (pc := 3) (z := 3) d_Md_isTray_3 tb_cj_Md_299 rfl ?_
  refine j_callG (pc := 6) (stk := [(1, 3), (1, 0), (1, v0)]) (as := [(1, v0), (1, 0), (1, 3)]) (P := (fun v9 => ((0 : Nat), v9) :: [])) (tg := 0) (My := M_Md_amid) (mRunS (as := [(1, v0), (1, 0), (1, 3)]) (st := []) d_Md_isTray_6 (mc_Md_amid (by decide)) rfl ⟨tb_ml_Md_147, tb_sm_Md_amid⟩ rfl (Nat.le_of_ble_eq_true rfl)) (fun v => rfl) rfl hr (fun r1 h1 => t_Md_amid _ _ _ _ _ h1) (fun x2 h1 hr => ?_)
  exact j_zret (pc := 9) d_Md_isTray_9 rfl hr
def M_Md_trayFault : mM := ("NineBarsModel", ⟨"NineBarsModel", "trayFault", "(I)I"⟩, prog_13_method_55_code, 2, some .int, [], 5)
theorem tb_co_Md_trayFault : mTB (Cond.code ⟨"NineBarsModel", "trayFault", "(I)I"⟩ prog_13_method_55_code 2 (some .int)) := tbq8 61 (by decide +kernel) rfl
theorem mc_Md_trayFault {M : mM} (hd : 5 < mDp M) : mCal M M_Md_trayFault 1 := ⟨tb_co_Md_trayFault, tb_in_NineBarsModel, ⟨by decide +kernel, by decide +kernel⟩, by decide +kernel, hd, by decide⟩
theorem d_Md_trayFault_0 : decode prog_13_method_55_code 0 = .ok (.iload_n 1, 1) := by decide +kernel
theorem d_Md_trayFault_1 : decode prog_13_method_55_code 1 = .ok (.invokestatic 284, 3) := by decide +kernel
theorem tb_ml_Md_284 : mTB (Cond.methodLink "NineBarsModel" 284 ⟨"NineBarsModel", "isTray", "(I)Z"⟩) := tbq8 62 (by decide +kernel) rfl
theorem tb_sm_Md_isTray : mTB (Cond.static ⟨"NineBarsModel", "isTray", "(I)Z"⟩) := tbq8 63 (by decide +kernel) rfl
theorem d_Md_trayFault_4 : decode prog_13_method_55_code 4 = .ok (.ifCond .ne 7, 3) := by decide +kernel
theorem d_Md_trayFault_11 : decode prog_13_method_55_code 11 = .ok (.aload_n 0, 1) := by decide +kernel
theorem d_Md_trayFault_12 : decode prog_13_method_55_code 12 = .ok (.getfield 77, 3) := by decide +kernel
theorem d_Md_trayFault_15 : decode prog_13_method_55_code 15 = .ok (.iload_n 1, 1) := by decide +kernel
theorem d_Md_trayFault_16 : decode prog_13_method_55_code 16 = .ok (.iaload, 1) := by decide +kernel
theorem d_Md_trayFault_17 : decode prog_13_method_55_code 17 = .ok (.iconst (-1), 1) := by decide +kernel
theorem d_Md_trayFault_18 : decode prog_13_method_55_code 18 = .ok (.if_icmp .ne 7, 3) := by decide +kernel
theorem d_Md_trayFault_25 : decode prog_13_method_55_code 25 = .ok (.iconst 0, 1) := by decide +kernel
theorem d_Md_trayFault_26 : decode prog_13_method_55_code 26 = .ok (.ireturn, 1) := by decide +kernel
theorem d_Md_trayFault_21 : decode prog_13_method_55_code 21 = .ok (.iconst 2, 1) := by decide +kernel
theorem d_Md_trayFault_22 : decode prog_13_method_55_code 22 = .ok (.goto 4, 3) := by decide +kernel
theorem d_Md_trayFault_7 : decode prog_13_method_55_code 7 = .ok (.iconst 1, 1) := by decide +kernel
theorem d_Md_trayFault_8 : decode prog_13_method_55_code 8 = .ok (.goto 18, 3) := by decide +kernel
theorem t_Md_trayFault {G : mG} (h : mH) (v0 v1 : Int) (r : mR) (hr : f_Md_trayFault h v0 v1 = some r) : mJM G M_Md_trayFault [(2, v0), (0, v1)] h r := by
  refine mJM_of (L := [(2, v0), (0, v1)]) rfl rfl rfl (Nat.le_of_ble_eq_true rfl) ?_
  unfold f_Md_trayFault at hr
  refine j_iload_n (pc := 0) d_Md_trayFault_0 rfl ?_
  refine j_callG (pc := 1) (stk := [(0, v1)]) (as := [(0, v1)]) (P := (fun v9 => ((0 : Nat), v9) :: [])) (tg := 0) (My := M_Md_isTray) (mRunS (as := [(0, v1)]) (st := []) d_Md_trayFault_1 (mc_Md_isTray (by decide)) rfl ⟨tb_ml_Md_284, tb_sm_Md_isTray⟩ rfl (Nat.le_of_ble_eq_true rfl)) (fun v => rfl) rfl hr (fun r1 h1 => t_Md_isTray _ _ _ h1) (fun x2 h1 hr => ?_)
  refine j_if_ne (pc := 4) (tgt := 11) d_Md_trayFault_4 hr (fun hr => ?_) (fun hr => ?_)
  · refine j_aload_n (pc := 11) d_Md_trayFault_11 rfl ?_
    refine j_getf (pc := 12) d_Md_trayFault_12 (fd_Md_77 rfl) hr (fun hr => ?_)
    refine j_iload_n (pc := 15) d_Md_trayFault_15 rfl ?_
    refine j_iaload (pc := 16) d_Md_trayFault_16 hr (fun hr => ?_)
    refine j_iconst (pc := 17) d_Md_trayFault_17 ?_
    refine j_icmp_ne (pc := 18) (tgt := 25) d_Md_trayFault_18 hr (fun hr => ?_) (fun hr => ?_)
    · refine j_iconst (pc := 25) d_Md_trayFault_25 ?_
      exact j_iret (pc := 26) d_Md_trayFault_26 rfl hr
    · refine j_iconst (pc := 21) d_Md_trayFault_21 ?_
      refine j_goto (pc := 22) (tgt := 26) d_Md_trayFault_22 ?_
      exact j_iret (pc := 26) d_Md_trayFault_26 rfl hr
  · refine j_iconst (pc := 7) d_Md_trayFault_7 ?_
    refine j_goto (pc := 8) (tgt := 26) d_Md_trayFault_8 ?_
    exact j_iret (pc := 26) d_Md_trayFault_26 rfl hr
def M_Md_verseWhy : mM := ("NineBarsModel", ⟨"NineBarsModel", "verseWhy", "(J)I"⟩, prog_13_method_56_code, 3, some .int, [], 9)
theorem tb_co_Md_verseWhy : mTB (Cond.code ⟨"NineBarsModel", "verseWhy", "(J)I"⟩ prog_13_method_56_code 3 (some .int)) := tbq8 73 (by decide +kernel) rfl
theorem mc_Md_verseWhy {M : mM} (hd : 9 < mDp M) : mCal M M_Md_verseWhy 1 := ⟨tb_co_Md_verseWhy, tb_in_NineBarsModel, ⟨by decide +kernel, by decide +kernel⟩, by decide +kernel, hd, by decide⟩
theorem d_Md_verseWhy_0 : decode prog_13_method_56_code 0 = .ok (.lload_n 1, 1) := by decide +kernel
theorem d_Md_verseWhy_1 : decode prog_13_method_56_code 1 = .ok (.lconst 0, 1) := by decide +kernel
theorem d_Md_verseWhy_2 : decode prog_13_method_56_code 2 = .ok (.lcmp, 1) := by decide +kernel
theorem d_Md_verseWhy_3 : decode prog_13_method_56_code 3 = .ok (.ifCond .lt 15, 3) := by decide +kernel
theorem d_Md_verseWhy_18 : decode prog_13_method_56_code 18 = .ok (.iconst 1, 1) := by decide +kernel
theorem d_Md_verseWhy_19 : decode prog_13_method_56_code 19 = .ok (.ireturn, 1) := by decide +kernel
theorem d_Md_verseWhy_6 : decode prog_13_method_56_code 6 = .ok (.aload_n 0, 1) := by decide +kernel
theorem d_Md_verseWhy_7 : decode prog_13_method_56_code 7 = .ok (.lload_n 1, 1) := by decide +kernel
theorem tb_cj_Md_287 : mTB (Cond.constantLong "NineBarsModel" 287 2) := tbq8 74 (by decide +kernel) rfl
theorem d_Md_verseWhy_8 : decode prog_13_method_56_code 8 = .ok (.ldc2_w 287, 3) := by decide +kernel
theorem d_Md_verseWhy_11 : decode prog_13_method_56_code 11 = .ok (.ldiv, 1) := by decide +kernel
theorem d_Md_verseWhy_12 : decode prog_13_method_56_code 12 = .ok (.invokevirtual 226, 3) := by decide +kernel
theorem d_Md_verseWhy_15 : decode prog_13_method_56_code 15 = .ok (.ifCond .ne 5, 3) := by decide +kernel
theorem d_Md_verseWhy_20 : decode prog_13_method_56_code 20 = .ok (.aload_n 0, 1) := by decide +kernel
theorem d_Md_verseWhy_21 : decode prog_13_method_56_code 21 = .ok (.lload_n 1, 1) := by decide +kernel
theorem d_Md_verseWhy_22 : decode prog_13_method_56_code 22 = .ok (.l2i, 1) := by decide +kernel
theorem d_Md_verseWhy_23 : decode prog_13_method_56_code 23 = .ok (.iconst 2, 1) := by decide +kernel
theorem d_Md_verseWhy_24 : decode prog_13_method_56_code 24 = .ok (.idiv, 1) := by decide +kernel
theorem d_Md_verseWhy_25 : decode prog_13_method_56_code 25 = .ok (.lload_n 1, 1) := by decide +kernel
theorem d_Md_verseWhy_26 : decode prog_13_method_56_code 26 = .ok (.ldc2_w 287, 3) := by decide +kernel
theorem d_Md_verseWhy_29 : decode prog_13_method_56_code 29 = .ok (.lrem, 1) := by decide +kernel
theorem d_Md_verseWhy_30 : decode prog_13_method_56_code 30 = .ok (.lconst 1, 1) := by decide +kernel
theorem d_Md_verseWhy_31 : decode prog_13_method_56_code 31 = .ok (.lcmp, 1) := by decide +kernel
theorem d_Md_verseWhy_32 : decode prog_13_method_56_code 32 = .ok (.ifCond .ne 7, 3) := by decide +kernel
theorem d_Md_verseWhy_39 : decode prog_13_method_56_code 39 = .ok (.iconst 0, 1) := by decide +kernel
theorem d_Md_verseWhy_40 : decode prog_13_method_56_code 40 = .ok (.invokevirtual 277, 3) := by decide +kernel
theorem d_Md_verseWhy_43 : decode prog_13_method_56_code 43 = .ok (.ireturn, 1) := by decide +kernel
theorem d_Md_verseWhy_35 : decode prog_13_method_56_code 35 = .ok (.iconst 1, 1) := by decide +kernel
theorem d_Md_verseWhy_36 : decode prog_13_method_56_code 36 = .ok (.goto 4, 3) := by decide +kernel
theorem t_Md_verseWhy {G : mG} (h : mH) (v0 v1 : Int) (r : mR) (hr : f_Md_verseWhy h v0 v1 = some r) : mJM G M_Md_verseWhy [(2, v0), (1, v1)] h r := by
  refine mJM_of (L := [(2, v0), (1, v1), (9, 0)]) rfl rfl rfl (Nat.le_of_ble_eq_true rfl) ?_
  unfold f_Md_verseWhy at hr
  refine j_lload_n (pc := 0) d_Md_verseWhy_0 rfl ?_
  refine j_lconst (pc := 1) (z := 0) d_Md_verseWhy_1 ?_
  refine j_lcmp (pc := 2) d_Md_verseWhy_2 ?_
  refine j_if_lt (pc := 3) (tgt := 18) d_Md_verseWhy_3 hr (fun hr => ?_) (fun hr => ?_)
  · refine j_iconst (pc := 18) d_Md_verseWhy_18 ?_
    exact j_iret (pc := 19) d_Md_verseWhy_19 rfl hr
  · refine j_aload_n (pc := 6) d_Md_verseWhy_6 rfl ?_
    refine j_lload_n (pc := 7) d_Md_verseWhy_7 rfl ?_
    refine j_ldc2 (pc := 8) (z := 2) d_Md_verseWhy_8 tb_cj_Md_287 rfl ?_
    refine j_ldiv (pc := 11) d_Md_verseWhy_11 hr (fun hr => ?_)
    obtain ⟨ha, hr⟩ := chk_some hr
    refine j_callG (pc := 12) (stk := [(1, w64 (Int.tdiv v1 2)), (2, v0)]) (as := [(2, v0), (1, w64 (Int.tdiv v1 2))]) (P := (fun v9 => ((0 : Nat), v9) :: [])) (tg := 0) (My := M_Md_isBar) (mRunV (as := [(1, w64 (Int.tdiv v1 2))]) (st := []) d_Md_verseWhy_12 (mc_Md_isBar (by decide)) rfl (mv_Md_isBar tb_ml_Md_226) rfl (Nat.le_of_ble_eq_true rfl) ha) (fun v => rfl) rfl hr (fun r1 h1 => t_Md_isBar _ _ _ _ h1) (fun x2 h1 hr => ?_)
    refine j_if_ne (pc := 15) (tgt := 20) d_Md_verseWhy_15 hr (fun hr => ?_) (fun hr => ?_)
    · refine j_aload_n (pc := 20) d_Md_verseWhy_20 rfl ?_
      refine j_lload_n (pc := 21) d_Md_verseWhy_21 rfl ?_
      refine j_l2i (pc := 22) d_Md_verseWhy_22 ?_
      refine j_iconst (pc := 23) d_Md_verseWhy_23 ?_
      refine j_idiv (pc := 24) d_Md_verseWhy_24 hr (fun hr => ?_)
      refine j_lload_n (pc := 25) d_Md_verseWhy_25 rfl ?_
      refine j_ldc2 (pc := 26) (z := 2) d_Md_verseWhy_26 tb_cj_Md_287 rfl ?_
      refine j_lrem (pc := 29) d_Md_verseWhy_29 hr (fun hr => ?_)
      refine j_lconst (pc := 30) (z := 1) d_Md_verseWhy_30 ?_
      refine j_lcmp (pc := 31) d_Md_verseWhy_31 ?_
      refine j_if_ne (pc := 32) (tgt := 39) d_Md_verseWhy_32 hr (fun hr => ?_) (fun hr => ?_)
      · refine j_iconst (pc := 39) d_Md_verseWhy_39 ?_
        obtain ⟨ha, hr⟩ := chk_some hr
        refine j_callG (pc := 40) (stk := [(0, 0), (0, w32 (Int.tdiv (w32 v1) 2)), (2, v0)]) (as := [(2, v0), (0, w32 (Int.tdiv (w32 v1) 2)), (0, 0)]) (P := (fun v9 => ((0 : Nat), v9) :: [])) (tg := 0) (My := M_Md_whyNow) (mRunV (as := [(0, w32 (Int.tdiv (w32 v1) 2)), (0, 0)]) (st := []) d_Md_verseWhy_40 (mc_Md_whyNow (by decide)) rfl (mv_Md_whyNow tb_ml_Md_277) rfl (Nat.le_of_ble_eq_true rfl) ha) (fun v => rfl) rfl hr (fun r1 h1 => t_Md_whyNow _ _ _ _ _ h1) (fun x4 h3 hr => ?_)
        exact j_iret (pc := 43) d_Md_verseWhy_43 rfl hr
      · refine j_iconst (pc := 35) d_Md_verseWhy_35 ?_
        refine j_goto (pc := 36) (tgt := 40) d_Md_verseWhy_36 ?_
        obtain ⟨ha, hr⟩ := chk_some hr
        refine j_callG (pc := 40) (stk := [(0, 1), (0, w32 (Int.tdiv (w32 v1) 2)), (2, v0)]) (as := [(2, v0), (0, w32 (Int.tdiv (w32 v1) 2)), (0, 1)]) (P := (fun v9 => ((0 : Nat), v9) :: [])) (tg := 0) (My := M_Md_whyNow) (mRunV (as := [(0, w32 (Int.tdiv (w32 v1) 2)), (0, 1)]) (st := []) d_Md_verseWhy_40 (mc_Md_whyNow (by decide)) rfl (mv_Md_whyNow tb_ml_Md_277) rfl (Nat.le_of_ble_eq_true rfl) ha) (fun v => rfl) rfl hr (fun r1 h1 => t_Md_whyNow _ _ _ _ _ h1) (fun x6 h5 hr => ?_)
        exact j_iret (pc := 43) d_Md_verseWhy_43 rfl hr
    · refine j_iconst (pc := 18) d_Md_verseWhy_18 ?_
      exact j_iret (pc := 19) d_Md_verseWhy_19 rfl hr
def M_Md_goesBy : mM := ("NineBarsModel", ⟨"NineBarsModel", "goesBy", "(I)I"⟩, prog_13_method_57_code, 4, some .int, [], 11)
theorem tb_co_Md_goesBy : mTB (Cond.code ⟨"NineBarsModel", "goesBy", "(I)I"⟩ prog_13_method_57_code 4 (some .int)) := tbq8 69 (by decide +kernel) rfl
theorem mc_Md_goesBy {M : mM} (hd : 11 < mDp M) : mCal M M_Md_goesBy 1 := ⟨tb_co_Md_goesBy, tb_in_NineBarsModel, ⟨by decide +kernel, by decide +kernel⟩, by decide +kernel, hd, by decide⟩
theorem d_Md_goesBy_0 : decode prog_13_method_57_code 0 = .ok (.aload_n 0, 1) := by decide +kernel
theorem d_Md_goesBy_1 : decode prog_13_method_57_code 1 = .ok (.aload_n 0, 1) := by decide +kernel
theorem d_Md_goesBy_2 : decode prog_13_method_57_code 2 = .ok (.invokevirtual 274, 3) := by decide +kernel
theorem d_Md_goesBy_5 : decode prog_13_method_57_code 5 = .ok (.ifCond .eq 8, 3) := by decide +kernel
theorem d_Md_goesBy_13 : decode prog_13_method_57_code 13 = .ok (.iconst (-1), 1) := by decide +kernel
theorem tb_fl_Md_289 : mTB (Cond.fieldLink "NineBarsModel" 289 "NineBarsModel" "openedAt" "I") := tbq6 227 (by decide +kernel) rfl
theorem fd_Md_289 {M : mM} (h : mO M = "NineBarsModel") : mFld M 289 11 20 0 := ⟨_, _, _, tyX11, rfl, by decide, by decide, rfl, uw_11, tyX11_ok, nmX11, by rw [h]; exact Or.inl tb_fl_Md_289⟩
theorem d_Md_goesBy_14 : decode prog_13_method_57_code 14 = .ok (.putfield 289, 3) := by decide +kernel
theorem d_Md_goesBy_17 : decode prog_13_method_57_code 17 = .ok (.iconst 0, 1) := by decide +kernel
theorem d_Md_goesBy_18 : decode prog_13_method_57_code 18 = .ok (.istore_n 2, 1) := by decide +kernel
theorem d_Md_goesBy_19 : decode prog_13_method_57_code 19 = .ok (.iload_n 2, 1) := by decide +kernel
theorem d_Md_goesBy_20 : decode prog_13_method_57_code 20 = .ok (.aload_n 0, 1) := by decide +kernel
theorem d_Md_goesBy_21 : decode prog_13_method_57_code 21 = .ok (.getfield 80, 3) := by decide +kernel
theorem d_Md_goesBy_24 : decode prog_13_method_57_code 24 = .ok (.iload_n 1, 1) := by decide +kernel
theorem d_Md_goesBy_25 : decode prog_13_method_57_code 25 = .ok (.iaload, 1) := by decide +kernel
theorem d_Md_goesBy_26 : decode prog_13_method_57_code 26 = .ok (.if_icmp .ge 80, 3) := by decide +kernel
theorem d_Md_goesBy_106 : decode prog_13_method_57_code 106 = .ok (.iload_n 2, 1) := by decide +kernel
theorem d_Md_goesBy_107 : decode prog_13_method_57_code 107 = .ok (.ireturn, 1) := by decide +kernel
theorem d_Md_goesBy_29 : decode prog_13_method_57_code 29 = .ok (.aload_n 0, 1) := by decide +kernel
theorem d_Md_goesBy_30 : decode prog_13_method_57_code 30 = .ok (.aload_n 0, 1) := by decide +kernel
theorem d_Md_goesBy_31 : decode prog_13_method_57_code 31 = .ok (.getfield 83, 3) := by decide +kernel
theorem d_Md_goesBy_34 : decode prog_13_method_57_code 34 = .ok (.bipush 40, 2) := by decide +kernel
theorem d_Md_goesBy_36 : decode prog_13_method_57_code 36 = .ok (.iload_n 1, 1) := by decide +kernel
theorem d_Md_goesBy_37 : decode prog_13_method_57_code 37 = .ok (.imul, 1) := by decide +kernel
theorem d_Md_goesBy_38 : decode prog_13_method_57_code 38 = .ok (.iload_n 2, 1) := by decide +kernel
theorem d_Md_goesBy_39 : decode prog_13_method_57_code 39 = .ok (.iadd, 1) := by decide +kernel
theorem d_Md_goesBy_40 : decode prog_13_method_57_code 40 = .ok (.laload, 1) := by decide +kernel
theorem d_Md_goesBy_41 : decode prog_13_method_57_code 41 = .ok (.invokevirtual 292, 3) := by decide +kernel
theorem tb_ml_Md_292 : mTB (Cond.methodLink "NineBarsModel" 292 ⟨"NineBarsModel", "verseWhy", "(J)I"⟩) := tbq8 70 (by decide +kernel) rfl
theorem tb_im_Md_verseWhy : mTB (Cond.instanceMethod ⟨"NineBarsModel", "verseWhy", "(J)I"⟩) := tbq8 72 (by decide +kernel) rfl
theorem tb_se_Md_verseWhy : mTB (Cond.selects "NineBarsModel" ⟨"NineBarsModel", "verseWhy", "(J)I"⟩ ⟨"NineBarsModel", "verseWhy", "(J)I"⟩) := tbqp 79 (by decide +kernel) rfl
theorem mv_Md_verseWhy {M : mM} {idx : Nat} (h : mTB (Cond.methodLink (mO M) idx ⟨"NineBarsModel", "verseWhy", "(J)I"⟩)) : mCaV M M_Md_verseWhy idx 11 := ⟨h, tb_im_Md_verseWhy, tb_se_Md_verseWhy, by decide, TX11, 40, rfl⟩
theorem d_Md_goesBy_44 : decode prog_13_method_57_code 44 = .ok (.ifCond .ne 62, 3) := by decide +kernel
theorem d_Md_goesBy_47 : decode prog_13_method_57_code 47 = .ok (.aload_n 0, 1) := by decide +kernel
theorem d_Md_goesBy_48 : decode prog_13_method_57_code 48 = .ok (.getfield 83, 3) := by decide +kernel
theorem d_Md_goesBy_51 : decode prog_13_method_57_code 51 = .ok (.bipush 40, 2) := by decide +kernel
theorem d_Md_goesBy_53 : decode prog_13_method_57_code 53 = .ok (.iload_n 1, 1) := by decide +kernel
theorem d_Md_goesBy_54 : decode prog_13_method_57_code 54 = .ok (.imul, 1) := by decide +kernel
theorem d_Md_goesBy_55 : decode prog_13_method_57_code 55 = .ok (.iload_n 2, 1) := by decide +kernel
theorem d_Md_goesBy_56 : decode prog_13_method_57_code 56 = .ok (.iadd, 1) := by decide +kernel
theorem d_Md_goesBy_57 : decode prog_13_method_57_code 57 = .ok (.laload, 1) := by decide +kernel
theorem d_Md_goesBy_58 : decode prog_13_method_57_code 58 = .ok (.l2i, 1) := by decide +kernel
theorem d_Md_goesBy_59 : decode prog_13_method_57_code 59 = .ok (.istore_n 3, 1) := by decide +kernel
theorem d_Md_goesBy_60 : decode prog_13_method_57_code 60 = .ok (.aload_n 0, 1) := by decide +kernel
theorem d_Md_goesBy_61 : decode prog_13_method_57_code 61 = .ok (.iload_n 3, 1) := by decide +kernel
theorem d_Md_goesBy_62 : decode prog_13_method_57_code 62 = .ok (.iconst 2, 1) := by decide +kernel
theorem d_Md_goesBy_63 : decode prog_13_method_57_code 63 = .ok (.idiv, 1) := by decide +kernel
theorem d_Md_goesBy_64 : decode prog_13_method_57_code 64 = .ok (.iload_n 3, 1) := by decide +kernel
theorem d_Md_goesBy_65 : decode prog_13_method_57_code 65 = .ok (.iconst 2, 1) := by decide +kernel
theorem d_Md_goesBy_66 : decode prog_13_method_57_code 66 = .ok (.irem, 1) := by decide +kernel
theorem d_Md_goesBy_67 : decode prog_13_method_57_code 67 = .ok (.iconst 1, 1) := by decide +kernel
theorem d_Md_goesBy_68 : decode prog_13_method_57_code 68 = .ok (.if_icmp .ne 7, 3) := by decide +kernel
theorem d_Md_goesBy_75 : decode prog_13_method_57_code 75 = .ok (.iconst 0, 1) := by decide +kernel
theorem d_Md_goesBy_76 : decode prog_13_method_57_code 76 = .ok (.invokevirtual 281, 3) := by decide +kernel
theorem d_Md_goesBy_79 : decode prog_13_method_57_code 79 = .ok (.pop, 1) := by decide +kernel
theorem d_Md_goesBy_80 : decode prog_13_method_57_code 80 = .ok (.aload_n 0, 1) := by decide +kernel
theorem d_Md_goesBy_81 : decode prog_13_method_57_code 81 = .ok (.getfield 289, 3) := by decide +kernel
theorem d_Md_goesBy_84 : decode prog_13_method_57_code 84 = .ok (.iconst (-1), 1) := by decide +kernel
theorem d_Md_goesBy_85 : decode prog_13_method_57_code 85 = .ok (.if_icmp .ne 15, 3) := by decide +kernel
theorem d_Md_goesBy_100 : decode prog_13_method_57_code 100 = .ok (.iinc 2 1, 3) := by decide +kernel
theorem d_Md_goesBy_103 : decode prog_13_method_57_code 103 = .ok (.goto (-84), 3) := by decide +kernel
theorem d_Md_goesBy_88 : decode prog_13_method_57_code 88 = .ok (.aload_n 0, 1) := by decide +kernel
theorem d_Md_goesBy_89 : decode prog_13_method_57_code 89 = .ok (.invokevirtual 274, 3) := by decide +kernel
theorem d_Md_goesBy_92 : decode prog_13_method_57_code 92 = .ok (.ifCond .eq 8, 3) := by decide +kernel
theorem d_Md_goesBy_95 : decode prog_13_method_57_code 95 = .ok (.aload_n 0, 1) := by decide +kernel
theorem d_Md_goesBy_96 : decode prog_13_method_57_code 96 = .ok (.iload_n 2, 1) := by decide +kernel
theorem d_Md_goesBy_97 : decode prog_13_method_57_code 97 = .ok (.putfield 289, 3) := by decide +kernel
theorem d_Md_goesBy_71 : decode prog_13_method_57_code 71 = .ok (.iconst 1, 1) := by decide +kernel
theorem d_Md_goesBy_72 : decode prog_13_method_57_code 72 = .ok (.goto 4, 3) := by decide +kernel
theorem d_Md_goesBy_8 : decode prog_13_method_57_code 8 = .ok (.bipush (-2), 2) := by decide +kernel
theorem d_Md_goesBy_10 : decode prog_13_method_57_code 10 = .ok (.goto 4, 3) := by decide +kernel
theorem t_Md_goesBy_J100 {G : mG} {r : mR} {v0 v1 v2 : Int} {h : mH} {R19 : mH → Int → Option mR} (hR19 : ∀ (h : mH) (w2 : Int) , R19 h w2 = some r → mJ G M_Md_goesBy 19 [(2, v0), (0, v1), (0, w2), (9, 0)] [] h r) (hr : f_Md_goesBy_J100 R19 v2 h = some r) : mJ G M_Md_goesBy 100 [(2, v0), (0, v1), (0, v2), (9, 0)] [] h r := by
  unfold f_Md_goesBy_J100 at hr
  refine j_iincW (pc := 100) (L := fun x1 => [(2, v0), (0, v1), (0, x1), (9, 0)]) d_Md_goesBy_100 rfl (fun _ => rfl) hr (fun x1 hr => ?_)
  refine j_goto (pc := 103) (tgt := 19) d_Md_goesBy_103 ?_
  exact mJ_weak (ls' := [(2, v0), (0, v1), (0, x1), (9, 0)]) (mwk_s (mwk_s (mwk_s (mwk_s mwk_n)))) (hR19 h _ hr)
theorem t_Md_goesBy_J76 {G : mG} {r : mR} {v0 v1 v2 s0 s1 s2 : Int} {h : mH} {R19 : mH → Int → Option mR} (hR19 : ∀ (h : mH) (w2 : Int) , R19 h w2 = some r → mJ G M_Md_goesBy 19 [(2, v0), (0, v1), (0, w2), (9, 0)] [] h r) (hr : f_Md_goesBy_J76 R19 v0 v2 s0 s1 s2 h = some r) : mJ G M_Md_goesBy 76 [(2, v0), (0, v1), (0, v2), (9, 0)] [(0, s2), (0, s1), (2, s0)] h r := by
  unfold f_Md_goesBy_J76 at hr
  obtain ⟨ha, hr⟩ := chk_some hr
  refine j_callG (pc := 76) (stk := [(0, s2), (0, s1), (2, s0)]) (as := [(2, s0), (0, s1), (0, s2)]) (P := (fun v9 => ((0 : Nat), v9) :: [])) (tg := 0) (My := M_Md_makes) (mRunV (as := [(0, s1), (0, s2)]) (st := []) d_Md_goesBy_76 (mc_Md_makes (by decide)) rfl (mv_Md_makes tb_ml_Md_281) rfl (Nat.le_of_ble_eq_true rfl) ha) (fun v => rfl) rfl hr (fun r1 h1 => t_Md_makes _ _ _ _ _ h1) (fun x2 h1 hr => ?_)
  refine j_pop (pc := 79) d_Md_goesBy_79 ?_
  refine j_aload_n (pc := 80) d_Md_goesBy_80 rfl ?_
  refine j_getf (pc := 81) d_Md_goesBy_81 (fd_Md_289 rfl) hr (fun hr => ?_)
  refine j_iconst (pc := 84) d_Md_goesBy_84 ?_
  refine j_icmp_ne (pc := 85) (tgt := 100) d_Md_goesBy_85 hr (fun hr => ?_) (fun hr => ?_)
  · exact mJ_weak (ls' := [(2, v0), (0, v1), (0, v2), (9, 0)]) (mwk_s (mwk_s (mwk_s (mwk_s mwk_n)))) (t_Md_goesBy_J100 hR19 hr)
  · refine j_aload_n (pc := 88) d_Md_goesBy_88 rfl ?_
    obtain ⟨ha, hr⟩ := chk_some hr
    refine j_callG (pc := 89) (stk := [(2, v0)]) (as := [(2, v0)]) (P := (fun v9 => ((0 : Nat), v9) :: [])) (tg := 0) (My := M_Md_isOpenNow) (mRunV (as := []) (st := []) d_Md_goesBy_89 (mc_Md_isOpenNow (by decide)) rfl (mv_Md_isOpenNow tb_ml_Md_274) rfl (Nat.le_of_ble_eq_true rfl) ha) (fun v => rfl) rfl hr (fun r1 h1 => t_Md_isOpenNow _ _ _ h1) (fun x4 h3 hr => ?_)
    refine j_if_eq (pc := 92) (tgt := 100) d_Md_goesBy_92 hr (fun hr => ?_) (fun hr => ?_)
    · exact mJ_weak (ls' := [(2, v0), (0, v1), (0, v2), (9, 0)]) (mwk_s (mwk_s (mwk_s (mwk_s mwk_n)))) (t_Md_goesBy_J100 hR19 hr)
    · refine j_aload_n (pc := 95) d_Md_goesBy_95 rfl ?_
      refine j_iload_n (pc := 96) d_Md_goesBy_96 rfl ?_
      refine j_puti (pc := 97) d_Md_goesBy_97 (fd_Md_289 rfl) (⟨_, _, _, rfl, Or.inl rfl, rfl⟩ : mFldW M_Md_goesBy 289 11 20 .int) hr (fun h5 hr => ?_)
      exact mJ_weak (ls' := [(2, v0), (0, v1), (0, v2), (9, 0)]) (mwk_s (mwk_s (mwk_s (mwk_s mwk_n)))) (t_Md_goesBy_J100 hR19 hr)
theorem t_Md_goesBy_L19 {G : mG} {r : mR} {v0 v1 : Int}  : ∀ (n : Nat) (h : mH) (v2 : Int), f_Md_goesBy_L19 v0 v1 n h v2 = some r → mJ G M_Md_goesBy 19 [(2, v0), (0, v1), (0, v2), (9, 0)] [] h r := by
  intro n
  induction n with
  | zero =>
    intro h v2 hr
    rw [f_Md_goesBy_L19] at hr
    cases hr
  | succ n hR19 =>
    intro h v2 hr
    rw [f_Md_goesBy_L19] at hr
    refine j_iload_n (pc := 19) d_Md_goesBy_19 rfl ?_
    refine j_aload_n (pc := 20) d_Md_goesBy_20 rfl ?_
    refine j_getf (pc := 21) d_Md_goesBy_21 (fd_Md_80 rfl) hr (fun hr => ?_)
    refine j_iload_n (pc := 24) d_Md_goesBy_24 rfl ?_
    refine j_iaload (pc := 25) d_Md_goesBy_25 hr (fun hr => ?_)
    refine j_icmp_ge (pc := 26) (tgt := 106) d_Md_goesBy_26 hr (fun hr => ?_) (fun hr => ?_)
    · refine j_iload_n (pc := 106) d_Md_goesBy_106 rfl ?_
      exact j_iret (pc := 107) d_Md_goesBy_107 rfl hr
    · refine j_aload_n (pc := 29) d_Md_goesBy_29 rfl ?_
      refine j_aload_n (pc := 30) d_Md_goesBy_30 rfl ?_
      refine j_getf (pc := 31) d_Md_goesBy_31 (fd_Md_83 rfl) hr (fun hr => ?_)
      refine j_bipush (pc := 34) d_Md_goesBy_34 ?_
      refine j_iload_n (pc := 36) d_Md_goesBy_36 rfl ?_
      refine j_imul (pc := 37) d_Md_goesBy_37 ?_
      refine j_iload_n (pc := 38) d_Md_goesBy_38 rfl ?_
      refine j_iadd (pc := 39) d_Md_goesBy_39 ?_
      refine j_laload (pc := 40) d_Md_goesBy_40 hr (fun hr => ?_)
      obtain ⟨ha, hr⟩ := chk_some hr
      refine j_callG (pc := 41) (stk := [(1, hpV h (hpV h v0 39) (w32 ((w32 (40 * v1)) + v2))), (2, v0)]) (as := [(2, v0), (1, hpV h (hpV h v0 39) (w32 ((w32 (40 * v1)) + v2)))]) (P := (fun v9 => ((0 : Nat), v9) :: [])) (tg := 0) (My := M_Md_verseWhy) (mRunV (as := [(1, hpV h (hpV h v0 39) (w32 ((w32 (40 * v1)) + v2)))]) (st := []) d_Md_goesBy_41 (mc_Md_verseWhy (by decide)) rfl (mv_Md_verseWhy tb_ml_Md_292) rfl (Nat.le_of_ble_eq_true rfl) ha) (fun v => rfl) rfl hr (fun r1 h1 => t_Md_verseWhy _ _ _ _ h1) (fun x2 h1 hr => ?_)
      refine j_if_ne (pc := 44) (tgt := 106) d_Md_goesBy_44 hr (fun hr => ?_) (fun hr => ?_)
      · refine j_iload_n (pc := 106) d_Md_goesBy_106 rfl ?_
        exact j_iret (pc := 107) d_Md_goesBy_107 rfl hr
      · refine j_aload_n (pc := 47) d_Md_goesBy_47 rfl ?_
        refine j_getf (pc := 48) d_Md_goesBy_48 (fd_Md_83 rfl) hr (fun hr => ?_)
        refine j_bipush (pc := 51) d_Md_goesBy_51 ?_
        refine j_iload_n (pc := 53) d_Md_goesBy_53 rfl ?_
        refine j_imul (pc := 54) d_Md_goesBy_54 ?_
        refine j_iload_n (pc := 55) d_Md_goesBy_55 rfl ?_
        refine j_iadd (pc := 56) d_Md_goesBy_56 ?_
        refine j_laload (pc := 57) d_Md_goesBy_57 hr (fun hr => ?_)
        refine j_l2i (pc := 58) d_Md_goesBy_58 ?_
        refine j_istoreW_n (pc := 59) (L := fun x3 => [(2, v0), (0, v1), (0, v2), (0, x3)]) d_Md_goesBy_59 (fun _ => rfl) hr (fun x3 hr => ?_)
        refine j_aload_n (pc := 60) d_Md_goesBy_60 rfl ?_
        refine j_iload_n (pc := 61) d_Md_goesBy_61 rfl ?_
        refine j_iconst (pc := 62) d_Md_goesBy_62 ?_
        refine j_idiv (pc := 63) d_Md_goesBy_63 hr (fun hr => ?_)
        refine j_iload_n (pc := 64) d_Md_goesBy_64 rfl ?_
        refine j_iconst (pc := 65) d_Md_goesBy_65 ?_
        refine j_irem (pc := 66) d_Md_goesBy_66 hr (fun hr => ?_)
        refine j_iconst (pc := 67) d_Md_goesBy_67 ?_
        refine j_icmp_ne (pc := 68) (tgt := 75) d_Md_goesBy_68 hr (fun hr => ?_) (fun hr => ?_)
        · refine j_iconst (pc := 75) d_Md_goesBy_75 ?_
          exact mJ_weak (ls' := [(2, v0), (0, v1), (0, v2), (9, 0)]) (mwk_s (mwk_s (mwk_s (mwk_d mwk_n)))) (t_Md_goesBy_J76 hR19 hr)
        · refine j_iconst (pc := 71) d_Md_goesBy_71 ?_
          refine j_goto (pc := 72) (tgt := 76) d_Md_goesBy_72 ?_
          exact mJ_weak (ls' := [(2, v0), (0, v1), (0, v2), (9, 0)]) (mwk_s (mwk_s (mwk_s (mwk_d mwk_n)))) (t_Md_goesBy_J76 hR19 hr)
theorem t_Md_goesBy_J14 {G : mG} {r : mR} {v0 v1 s0 s1 : Int} {h : mH}  (hr : f_Md_goesBy_J14 v0 v1 s0 s1 h = some r) : mJ G M_Md_goesBy 14 [(2, v0), (0, v1), (9, 0), (9, 0)] [(0, s1), (2, s0)] h r := by
  unfold f_Md_goesBy_J14 at hr
  refine j_puti (pc := 14) d_Md_goesBy_14 (fd_Md_289 rfl) (⟨_, _, _, rfl, Or.inl rfl, rfl⟩ : mFldW M_Md_goesBy 289 11 20 .int) hr (fun h1 hr => ?_)
  refine j_iconst (pc := 17) d_Md_goesBy_17 ?_
  refine j_istore_n (pc := 18) (ls' := [(2, v0), (0, v1), (0, 0), (9, 0)]) d_Md_goesBy_18 rfl ?_
  refine mJ_weak (ls' := [(2, v0), (0, v1), (0, 0), (9, 0)]) (mwk_s (mwk_s (mwk_s (mwk_s mwk_n)))) (t_Md_goesBy_L19  _ _ _ hr)
theorem t_Md_goesBy {G : mG} (h : mH) (v0 v1 : Int) (r : mR) (hr : f_Md_goesBy h v0 v1 = some r) : mJM G M_Md_goesBy [(2, v0), (0, v1)] h r := by
  refine mJM_of (L := [(2, v0), (0, v1), (9, 0), (9, 0)]) rfl rfl rfl (Nat.le_of_ble_eq_true rfl) ?_
  unfold f_Md_goesBy at hr
  refine j_aload_n (pc := 0) d_Md_goesBy_0 rfl ?_
  refine j_aload_n (pc := 1) d_Md_goesBy_1 rfl ?_
  obtain ⟨ha, hr⟩ := chk_some hr
  refine j_callG (pc := 2) (stk := [(2, v0), (2, v0)]) (as := [(2, v0)]) (P := (fun v9 => ((0 : Nat), v9) :: [(2, v0)])) (tg := 0) (My := M_Md_isOpenNow) (mRunV (as := []) (st := [(2, v0)]) d_Md_goesBy_2 (mc_Md_isOpenNow (by decide)) rfl (mv_Md_isOpenNow tb_ml_Md_274) rfl (Nat.le_of_ble_eq_true rfl) ha) (fun v => rfl) rfl hr (fun r1 h1 => t_Md_isOpenNow _ _ _ h1) (fun x2 h1 hr => ?_)
  refine j_if_eq (pc := 5) (tgt := 13) d_Md_goesBy_5 hr (fun hr => ?_) (fun hr => ?_)
  · refine j_iconst (pc := 13) d_Md_goesBy_13 ?_
    exact mJ_weak (ls' := [(2, v0), (0, v1), (9, 0), (9, 0)]) (mwk_s (mwk_s (mwk_s (mwk_s mwk_n)))) (t_Md_goesBy_J14  hr)
  · refine j_bipush (pc := 8) d_Md_goesBy_8 ?_
    refine j_goto (pc := 10) (tgt := 14) d_Md_goesBy_10 ?_
    exact mJ_weak (ls' := [(2, v0), (0, v1), (9, 0), (9, 0)]) (mwk_s (mwk_s (mwk_s (mwk_s mwk_n)))) (t_Md_goesBy_J14  hr)
def M_Md_judge : mM := ("NineBarsModel", ⟨"NineBarsModel", "judge", "(II)I"⟩, prog_13_method_58_code, 6, some .int, [], 13)
theorem tb_co_Md_judge : mTB (Cond.code ⟨"NineBarsModel", "judge", "(II)I"⟩ prog_13_method_58_code 6 (some .int)) := tbq8 57 (by decide +kernel) rfl
theorem mc_Md_judge {M : mM} (hd : 13 < mDp M) : mCal M M_Md_judge 2 := ⟨tb_co_Md_judge, tb_in_NineBarsModel, ⟨by decide +kernel, by decide +kernel⟩, by decide +kernel, hd, by decide⟩
theorem d_Md_judge_0 : decode prog_13_method_58_code 0 = .ok (.aload_n 0, 1) := by decide +kernel
theorem d_Md_judge_1 : decode prog_13_method_58_code 1 = .ok (.aload_n 0, 1) := by decide +kernel
theorem d_Md_judge_2 : decode prog_13_method_58_code 2 = .ok (.iload_n 1, 1) := by decide +kernel
theorem d_Md_judge_3 : decode prog_13_method_58_code 3 = .ok (.invokevirtual 296, 3) := by decide +kernel
theorem tb_ml_Md_296 : mTB (Cond.methodLink "NineBarsModel" 296 ⟨"NineBarsModel", "trayFault", "(I)I"⟩) := tbq8 58 (by decide +kernel) rfl
theorem tb_im_Md_trayFault : mTB (Cond.instanceMethod ⟨"NineBarsModel", "trayFault", "(I)I"⟩) := tbq8 60 (by decide +kernel) rfl
theorem tb_se_Md_trayFault : mTB (Cond.selects "NineBarsModel" ⟨"NineBarsModel", "trayFault", "(I)I"⟩ ⟨"NineBarsModel", "trayFault", "(I)I"⟩) := tbqp 77 (by decide +kernel) rfl
theorem mv_Md_trayFault {M : mM} {idx : Nat} (h : mTB (Cond.methodLink (mO M) idx ⟨"NineBarsModel", "trayFault", "(I)I"⟩)) : mCaV M M_Md_trayFault idx 11 := ⟨h, tb_im_Md_trayFault, tb_se_Md_trayFault, by decide, TX11, 40, rfl⟩
theorem d_Md_judge_6 : decode prog_13_method_58_code 6 = .ok (.putfield 86, 3) := by decide +kernel
theorem d_Md_judge_9 : decode prog_13_method_58_code 9 = .ok (.aload_n 0, 1) := by decide +kernel
theorem d_Md_judge_10 : decode prog_13_method_58_code 10 = .ok (.getfield 86, 3) := by decide +kernel
theorem d_Md_judge_13 : decode prog_13_method_58_code 13 = .ok (.ifCond .ne 20, 3) := by decide +kernel
theorem d_Md_judge_33 : decode prog_13_method_58_code 33 = .ok (.aload_n 0, 1) := by decide +kernel
theorem d_Md_judge_34 : decode prog_13_method_58_code 34 = .ok (.getfield 86, 3) := by decide +kernel
theorem d_Md_judge_37 : decode prog_13_method_58_code 37 = .ok (.ifCond .le 5, 3) := by decide +kernel
theorem d_Md_judge_42 : decode prog_13_method_58_code 42 = .ok (.aload_n 0, 1) := by decide +kernel
theorem d_Md_judge_43 : decode prog_13_method_58_code 43 = .ok (.getfield 9, 3) := by decide +kernel
theorem d_Md_judge_46 : decode prog_13_method_58_code 46 = .ok (.aload_n 0, 1) := by decide +kernel
theorem d_Md_judge_47 : decode prog_13_method_58_code 47 = .ok (.getfield 16, 3) := by decide +kernel
theorem d_Md_judge_50 : decode prog_13_method_58_code 50 = .ok (.invokestatic 206, 3) := by decide +kernel
theorem d_Md_judge_53 : decode prog_13_method_58_code 53 = .ok (.aload_n 0, 1) := by decide +kernel
theorem d_Md_judge_54 : decode prog_13_method_58_code 54 = .ok (.iload_n 1, 1) := by decide +kernel
theorem d_Md_judge_55 : decode prog_13_method_58_code 55 = .ok (.invokevirtual 301, 3) := by decide +kernel
theorem tb_ml_Md_301 : mTB (Cond.methodLink "NineBarsModel" 301 ⟨"NineBarsModel", "goesBy", "(I)I"⟩) := tbq8 66 (by decide +kernel) rfl
theorem tb_im_Md_goesBy : mTB (Cond.instanceMethod ⟨"NineBarsModel", "goesBy", "(I)I"⟩) := tbq8 68 (by decide +kernel) rfl
theorem tb_se_Md_goesBy : mTB (Cond.selects "NineBarsModel" ⟨"NineBarsModel", "goesBy", "(I)I"⟩ ⟨"NineBarsModel", "goesBy", "(I)I"⟩) := tbqp 78 (by decide +kernel) rfl
theorem mv_Md_goesBy {M : mM} {idx : Nat} (h : mTB (Cond.methodLink (mO M) idx ⟨"NineBarsModel", "goesBy", "(I)I"⟩)) : mCaV M M_Md_goesBy idx 11 := ⟨h, tb_im_Md_goesBy, tb_se_Md_goesBy, by decide, TX11, 40, rfl⟩
theorem d_Md_judge_58 : decode prog_13_method_58_code 58 = .ok (.istore_n 3, 1) := by decide +kernel
theorem d_Md_judge_59 : decode prog_13_method_58_code 59 = .ok (.iload_n 3, 1) := by decide +kernel
theorem d_Md_judge_60 : decode prog_13_method_58_code 60 = .ok (.aload_n 0, 1) := by decide +kernel
theorem d_Md_judge_61 : decode prog_13_method_58_code 61 = .ok (.getfield 80, 3) := by decide +kernel
theorem d_Md_judge_64 : decode prog_13_method_58_code 64 = .ok (.iload_n 1, 1) := by decide +kernel
theorem d_Md_judge_65 : decode prog_13_method_58_code 65 = .ok (.iaload, 1) := by decide +kernel
theorem d_Md_judge_66 : decode prog_13_method_58_code 66 = .ok (.if_icmp .ne 7, 3) := by decide +kernel
theorem d_Md_judge_73 : decode prog_13_method_58_code 73 = .ok (.aload_n 0, 1) := by decide +kernel
theorem d_Md_judge_74 : decode prog_13_method_58_code 74 = .ok (.aload_n 0, 1) := by decide +kernel
theorem d_Md_judge_75 : decode prog_13_method_58_code 75 = .ok (.getfield 83, 3) := by decide +kernel
theorem d_Md_judge_78 : decode prog_13_method_58_code 78 = .ok (.bipush 40, 2) := by decide +kernel
theorem d_Md_judge_80 : decode prog_13_method_58_code 80 = .ok (.iload_n 1, 1) := by decide +kernel
theorem d_Md_judge_81 : decode prog_13_method_58_code 81 = .ok (.imul, 1) := by decide +kernel
theorem d_Md_judge_82 : decode prog_13_method_58_code 82 = .ok (.iload_n 3, 1) := by decide +kernel
theorem d_Md_judge_83 : decode prog_13_method_58_code 83 = .ok (.iadd, 1) := by decide +kernel
theorem d_Md_judge_84 : decode prog_13_method_58_code 84 = .ok (.laload, 1) := by decide +kernel
theorem d_Md_judge_85 : decode prog_13_method_58_code 85 = .ok (.invokevirtual 292, 3) := by decide +kernel
theorem d_Md_judge_88 : decode prog_13_method_58_code 88 = .ok (.istore 4, 2) := by decide +kernel
theorem d_Md_judge_90 : decode prog_13_method_58_code 90 = .ok (.aload_n 0, 1) := by decide +kernel
theorem d_Md_judge_91 : decode prog_13_method_58_code 91 = .ok (.invokevirtual 274, 3) := by decide +kernel
theorem d_Md_judge_94 : decode prog_13_method_58_code 94 = .ok (.ifCond .eq 7, 3) := by decide +kernel
theorem d_Md_judge_101 : decode prog_13_method_58_code 101 = .ok (.iconst 0, 1) := by decide +kernel
theorem d_Md_judge_102 : decode prog_13_method_58_code 102 = .ok (.istore 5, 2) := by decide +kernel
theorem d_Md_judge_104 : decode prog_13_method_58_code 104 = .ok (.aload_n 0, 1) := by decide +kernel
theorem d_Md_judge_105 : decode prog_13_method_58_code 105 = .ok (.getfield 16, 3) := by decide +kernel
theorem d_Md_judge_108 : decode prog_13_method_58_code 108 = .ok (.aload_n 0, 1) := by decide +kernel
theorem d_Md_judge_109 : decode prog_13_method_58_code 109 = .ok (.getfield 9, 3) := by decide +kernel
theorem d_Md_judge_112 : decode prog_13_method_58_code 112 = .ok (.invokestatic 206, 3) := by decide +kernel
theorem d_Md_judge_115 : decode prog_13_method_58_code 115 = .ok (.iload_n 2, 1) := by decide +kernel
theorem d_Md_judge_116 : decode prog_13_method_58_code 116 = .ok (.ifCond .ne 16, 3) := by decide +kernel
theorem d_Md_judge_132 : decode prog_13_method_58_code 132 = .ok (.iload_n 2, 1) := by decide +kernel
theorem d_Md_judge_133 : decode prog_13_method_58_code 133 = .ok (.iconst 1, 1) := by decide +kernel
theorem d_Md_judge_134 : decode prog_13_method_58_code 134 = .ok (.if_icmp .ne 8, 3) := by decide +kernel
theorem d_Md_judge_142 : decode prog_13_method_58_code 142 = .ok (.iload_n 2, 1) := by decide +kernel
theorem d_Md_judge_143 : decode prog_13_method_58_code 143 = .ok (.iconst 2, 1) := by decide +kernel
theorem d_Md_judge_144 : decode prog_13_method_58_code 144 = .ok (.if_icmp .ne 8, 3) := by decide +kernel
theorem d_Md_judge_152 : decode prog_13_method_58_code 152 = .ok (.aload_n 0, 1) := by decide +kernel
theorem d_Md_judge_153 : decode prog_13_method_58_code 153 = .ok (.getfield 289, 3) := by decide +kernel
theorem d_Md_judge_156 : decode prog_13_method_58_code 156 = .ok (.ireturn, 1) := by decide +kernel
theorem d_Md_judge_147 : decode prog_13_method_58_code 147 = .ok (.iload 5, 2) := by decide +kernel
theorem d_Md_judge_149 : decode prog_13_method_58_code 149 = .ok (.goto 7, 3) := by decide +kernel
theorem d_Md_judge_137 : decode prog_13_method_58_code 137 = .ok (.iload 4, 2) := by decide +kernel
theorem d_Md_judge_139 : decode prog_13_method_58_code 139 = .ok (.goto 17, 3) := by decide +kernel
theorem d_Md_judge_119 : decode prog_13_method_58_code 119 = .ok (.iload 4, 2) := by decide +kernel
theorem d_Md_judge_121 : decode prog_13_method_58_code 121 = .ok (.ifCond .ne 7, 3) := by decide +kernel
theorem d_Md_judge_128 : decode prog_13_method_58_code 128 = .ok (.iload_n 3, 1) := by decide +kernel
theorem d_Md_judge_129 : decode prog_13_method_58_code 129 = .ok (.goto 27, 3) := by decide +kernel
theorem d_Md_judge_124 : decode prog_13_method_58_code 124 = .ok (.iconst (-1), 1) := by decide +kernel
theorem d_Md_judge_125 : decode prog_13_method_58_code 125 = .ok (.goto 31, 3) := by decide +kernel
theorem d_Md_judge_97 : decode prog_13_method_58_code 97 = .ok (.iconst 1, 1) := by decide +kernel
theorem d_Md_judge_98 : decode prog_13_method_58_code 98 = .ok (.goto 4, 3) := by decide +kernel
theorem d_Md_judge_69 : decode prog_13_method_58_code 69 = .ok (.iconst 0, 1) := by decide +kernel
theorem d_Md_judge_70 : decode prog_13_method_58_code 70 = .ok (.goto 18, 3) := by decide +kernel
theorem d_Md_judge_40 : decode prog_13_method_58_code 40 = .ok (.iconst 0, 1) := by decide +kernel
theorem d_Md_judge_41 : decode prog_13_method_58_code 41 = .ok (.ireturn, 1) := by decide +kernel
theorem d_Md_judge_16 : decode prog_13_method_58_code 16 = .ok (.iload_n 2, 1) := by decide +kernel
theorem d_Md_judge_17 : decode prog_13_method_58_code 17 = .ok (.i2l, 1) := by decide +kernel
theorem d_Md_judge_18 : decode prog_13_method_58_code 18 = .ok (.lconst 0, 1) := by decide +kernel
theorem d_Md_judge_19 : decode prog_13_method_58_code 19 = .ok (.ldc2_w 299, 3) := by decide +kernel
theorem d_Md_judge_22 : decode prog_13_method_58_code 22 = .ok (.invokestatic 147, 3) := by decide +kernel
theorem d_Md_judge_25 : decode prog_13_method_58_code 25 = .ok (.ifCond .ne 8, 3) := by decide +kernel
theorem d_Md_judge_28 : decode prog_13_method_58_code 28 = .ok (.aload_n 0, 1) := by decide +kernel
theorem d_Md_judge_29 : decode prog_13_method_58_code 29 = .ok (.iconst 3, 1) := by decide +kernel
theorem d_Md_judge_30 : decode prog_13_method_58_code 30 = .ok (.putfield 86, 3) := by decide +kernel
theorem t_Md_judge_J102 {G : mG} {r : mR} {v0 v2 v3 v4 s0 : Int} {h : mH}  (hr : f_Md_judge_J102 v0 v2 v3 v4 s0 h = some r) : mJ G M_Md_judge 102 [(2, v0), (9, 0), (0, v2), (0, v3), (0, v4), (9, 0)] [(0, s0)] h r := by
  unfold f_Md_judge_J102 at hr
  refine j_istore (pc := 102) (ls' := [(2, v0), (9, 0), (0, v2), (0, v3), (0, v4), (0, s0)]) d_Md_judge_102 rfl ?_
  refine j_aload_n (pc := 104) d_Md_judge_104 rfl ?_
  refine j_getf (pc := 105) d_Md_judge_105 (fd_Md_16 rfl) hr (fun hr => ?_)
  refine j_aload_n (pc := 108) d_Md_judge_108 rfl ?_
  refine j_getf (pc := 109) d_Md_judge_109 (fd_Md_9 rfl) hr (fun hr => ?_)
  refine j_callG (pc := 112) (stk := [(2, hpV h v0 0), (2, hpV h v0 2)]) (as := [(2, hpV h v0 2), (2, hpV h v0 0)]) (P := (fun v9 => [])) (tg := 3) (My := M_Md_copies) (mRunS (as := [(2, hpV h v0 2), (2, hpV h v0 0)]) (st := []) d_Md_judge_112 (mc_Md_copies (by decide)) rfl ⟨tb_ml_Md_206, tb_sm_Md_copies⟩ rfl (Nat.le_of_ble_eq_true rfl)) (fun v => rfl) rfl hr (fun r1 h1 => t_Md_copies _ _ _ _ h1) (fun x2 h1 hr => ?_)
  refine j_iload_n (pc := 115) d_Md_judge_115 rfl ?_
  refine j_if_ne (pc := 116) (tgt := 132) d_Md_judge_116 hr (fun hr => ?_) (fun hr => ?_)
  · refine j_iload_n (pc := 132) d_Md_judge_132 rfl ?_
    refine j_iconst (pc := 133) d_Md_judge_133 ?_
    refine j_icmp_ne (pc := 134) (tgt := 142) d_Md_judge_134 hr (fun hr => ?_) (fun hr => ?_)
    · refine j_iload_n (pc := 142) d_Md_judge_142 rfl ?_
      refine j_iconst (pc := 143) d_Md_judge_143 ?_
      refine j_icmp_ne (pc := 144) (tgt := 152) d_Md_judge_144 hr (fun hr => ?_) (fun hr => ?_)
      · refine j_aload_n (pc := 152) d_Md_judge_152 rfl ?_
        refine j_getf (pc := 153) d_Md_judge_153 (fd_Md_289 rfl) hr (fun hr => ?_)
        exact j_iret (pc := 156) d_Md_judge_156 rfl hr
      · refine j_iload (pc := 147) d_Md_judge_147 rfl ?_
        refine j_goto (pc := 149) (tgt := 156) d_Md_judge_149 ?_
        exact j_iret (pc := 156) d_Md_judge_156 rfl hr
    · refine j_iload (pc := 137) d_Md_judge_137 rfl ?_
      refine j_goto (pc := 139) (tgt := 156) d_Md_judge_139 ?_
      exact j_iret (pc := 156) d_Md_judge_156 rfl hr
  · refine j_iload (pc := 119) d_Md_judge_119 rfl ?_
    refine j_if_ne (pc := 121) (tgt := 128) d_Md_judge_121 hr (fun hr => ?_) (fun hr => ?_)
    · refine j_iload_n (pc := 128) d_Md_judge_128 rfl ?_
      refine j_goto (pc := 129) (tgt := 156) d_Md_judge_129 ?_
      exact j_iret (pc := 156) d_Md_judge_156 rfl hr
    · refine j_iconst (pc := 124) d_Md_judge_124 ?_
      refine j_goto (pc := 125) (tgt := 156) d_Md_judge_125 ?_
      exact j_iret (pc := 156) d_Md_judge_156 rfl hr
theorem t_Md_judge_J88 {G : mG} {r : mR} {v0 v2 v3 s0 : Int} {h : mH}  (hr : f_Md_judge_J88 v0 v2 v3 s0 h = some r) : mJ G M_Md_judge 88 [(2, v0), (9, 0), (0, v2), (0, v3), (9, 0), (9, 0)] [(0, s0)] h r := by
  unfold f_Md_judge_J88 at hr
  refine j_istore (pc := 88) (ls' := [(2, v0), (9, 0), (0, v2), (0, v3), (0, s0), (9, 0)]) d_Md_judge_88 rfl ?_
  refine j_aload_n (pc := 90) d_Md_judge_90 rfl ?_
  obtain ⟨ha, hr⟩ := chk_some hr
  refine j_callG (pc := 91) (stk := [(2, v0)]) (as := [(2, v0)]) (P := (fun v9 => ((0 : Nat), v9) :: [])) (tg := 0) (My := M_Md_isOpenNow) (mRunV (as := []) (st := []) d_Md_judge_91 (mc_Md_isOpenNow (by decide)) rfl (mv_Md_isOpenNow tb_ml_Md_274) rfl (Nat.le_of_ble_eq_true rfl) ha) (fun v => rfl) rfl hr (fun r1 h1 => t_Md_isOpenNow _ _ _ h1) (fun x2 h1 hr => ?_)
  refine j_if_eq (pc := 94) (tgt := 101) d_Md_judge_94 hr (fun hr => ?_) (fun hr => ?_)
  · refine j_iconst (pc := 101) d_Md_judge_101 ?_
    exact mJ_weak (ls' := [(2, v0), (9, 0), (0, v2), (0, v3), (0, s0), (9, 0)]) (mwk_s (mwk_s (mwk_s (mwk_s (mwk_s (mwk_s mwk_n)))))) (t_Md_judge_J102  hr)
  · refine j_iconst (pc := 97) d_Md_judge_97 ?_
    refine j_goto (pc := 98) (tgt := 102) d_Md_judge_98 ?_
    exact mJ_weak (ls' := [(2, v0), (9, 0), (0, v2), (0, v3), (0, s0), (9, 0)]) (mwk_s (mwk_s (mwk_s (mwk_s (mwk_s (mwk_s mwk_n)))))) (t_Md_judge_J102  hr)
theorem t_Md_judge_J33 {G : mG} {r : mR} {v0 v1 v2 : Int} {h : mH}  (hr : f_Md_judge_J33 v0 v1 v2 h = some r) : mJ G M_Md_judge 33 [(2, v0), (0, v1), (0, v2), (9, 0), (9, 0), (9, 0)] [] h r := by
  unfold f_Md_judge_J33 at hr
  refine j_aload_n (pc := 33) d_Md_judge_33 rfl ?_
  refine j_getf (pc := 34) d_Md_judge_34 (fd_Md_86 rfl) hr (fun hr => ?_)
  refine j_if_le (pc := 37) (tgt := 42) d_Md_judge_37 hr (fun hr => ?_) (fun hr => ?_)
  · refine j_aload_n (pc := 42) d_Md_judge_42 rfl ?_
    refine j_getf (pc := 43) d_Md_judge_43 (fd_Md_9 rfl) hr (fun hr => ?_)
    refine j_aload_n (pc := 46) d_Md_judge_46 rfl ?_
    refine j_getf (pc := 47) d_Md_judge_47 (fd_Md_16 rfl) hr (fun hr => ?_)
    refine j_callG (pc := 50) (stk := [(2, hpV h v0 2), (2, hpV h v0 0)]) (as := [(2, hpV h v0 0), (2, hpV h v0 2)]) (P := (fun v9 => [])) (tg := 3) (My := M_Md_copies) (mRunS (as := [(2, hpV h v0 0), (2, hpV h v0 2)]) (st := []) d_Md_judge_50 (mc_Md_copies (by decide)) rfl ⟨tb_ml_Md_206, tb_sm_Md_copies⟩ rfl (Nat.le_of_ble_eq_true rfl)) (fun v => rfl) rfl hr (fun r1 h1 => t_Md_copies _ _ _ _ h1) (fun x2 h1 hr => ?_)
    refine j_aload_n (pc := 53) d_Md_judge_53 rfl ?_
    refine j_iload_n (pc := 54) d_Md_judge_54 rfl ?_
    obtain ⟨ha, hr⟩ := chk_some hr
    refine j_callG (pc := 55) (stk := [(0, v1), (2, v0)]) (as := [(2, v0), (0, v1)]) (P := (fun v9 => ((0 : Nat), v9) :: [])) (tg := 0) (My := M_Md_goesBy) (mRunV (as := [(0, v1)]) (st := []) d_Md_judge_55 (mc_Md_goesBy (by decide)) rfl (mv_Md_goesBy tb_ml_Md_301) rfl (Nat.le_of_ble_eq_true rfl) ha) (fun v => rfl) rfl hr (fun r1 h1 => t_Md_goesBy _ _ _ _ h1) (fun x4 h3 hr => ?_)
    refine j_istore_n (pc := 58) (ls' := [(2, v0), (0, v1), (0, v2), (0, x4), (9, 0), (9, 0)]) d_Md_judge_58 rfl ?_
    refine j_iload_n (pc := 59) d_Md_judge_59 rfl ?_
    refine j_aload_n (pc := 60) d_Md_judge_60 rfl ?_
    refine j_getf (pc := 61) d_Md_judge_61 (fd_Md_80 rfl) hr (fun hr => ?_)
    refine j_iload_n (pc := 64) d_Md_judge_64 rfl ?_
    refine j_iaload (pc := 65) d_Md_judge_65 hr (fun hr => ?_)
    refine j_icmp_ne (pc := 66) (tgt := 73) d_Md_judge_66 hr (fun hr => ?_) (fun hr => ?_)
    · refine j_aload_n (pc := 73) d_Md_judge_73 rfl ?_
      refine j_aload_n (pc := 74) d_Md_judge_74 rfl ?_
      refine j_getf (pc := 75) d_Md_judge_75 (fd_Md_83 rfl) hr (fun hr => ?_)
      refine j_bipush (pc := 78) d_Md_judge_78 ?_
      refine j_iload_n (pc := 80) d_Md_judge_80 rfl ?_
      refine j_imul (pc := 81) d_Md_judge_81 ?_
      refine j_iload_n (pc := 82) d_Md_judge_82 rfl ?_
      refine j_iadd (pc := 83) d_Md_judge_83 ?_
      refine j_laload (pc := 84) d_Md_judge_84 hr (fun hr => ?_)
      obtain ⟨ha, hr⟩ := chk_some hr
      refine j_callG (pc := 85) (stk := [(1, hpV h3 (hpV h3 v0 39) (w32 ((w32 (40 * v1)) + x4))), (2, v0)]) (as := [(2, v0), (1, hpV h3 (hpV h3 v0 39) (w32 ((w32 (40 * v1)) + x4)))]) (P := (fun v9 => ((0 : Nat), v9) :: [])) (tg := 0) (My := M_Md_verseWhy) (mRunV (as := [(1, hpV h3 (hpV h3 v0 39) (w32 ((w32 (40 * v1)) + x4)))]) (st := []) d_Md_judge_85 (mc_Md_verseWhy (by decide)) rfl (mv_Md_verseWhy tb_ml_Md_292) rfl (Nat.le_of_ble_eq_true rfl) ha) (fun v => rfl) rfl hr (fun r1 h1 => t_Md_verseWhy _ _ _ _ h1) (fun x6 h5 hr => ?_)
      exact mJ_weak (ls' := [(2, v0), (9, 0), (0, v2), (0, x4), (9, 0), (9, 0)]) (mwk_s (mwk_d (mwk_s (mwk_s (mwk_s (mwk_s mwk_n)))))) (t_Md_judge_J88  hr)
    · refine j_iconst (pc := 69) d_Md_judge_69 ?_
      refine j_goto (pc := 70) (tgt := 88) d_Md_judge_70 ?_
      exact mJ_weak (ls' := [(2, v0), (9, 0), (0, v2), (0, x4), (9, 0), (9, 0)]) (mwk_s (mwk_d (mwk_s (mwk_s (mwk_s (mwk_s mwk_n)))))) (t_Md_judge_J88  hr)
  · refine j_iconst (pc := 40) d_Md_judge_40 ?_
    exact j_iret (pc := 41) d_Md_judge_41 rfl hr
theorem t_Md_judge {G : mG} (h : mH) (v0 v1 v2 : Int) (r : mR) (hr : f_Md_judge h v0 v1 v2 = some r) : mJM G M_Md_judge [(2, v0), (0, v1), (0, v2)] h r := by
  refine mJM_of (L := [(2, v0), (0, v1), (0, v2), (9, 0), (9, 0), (9, 0)]) rfl rfl rfl (Nat.le_of_ble_eq_true rfl) ?_
  unfold f_Md_judge at hr
  refine j_aload_n (pc := 0) d_Md_judge_0 rfl ?_
  refine j_aload_n (pc := 1) d_Md_judge_1 rfl ?_
  refine j_iload_n (pc := 2) d_Md_judge_2 rfl ?_
  obtain ⟨ha, hr⟩ := chk_some hr
  refine j_callG (pc := 3) (stk := [(0, v1), (2, v0), (2, v0)]) (as := [(2, v0), (0, v1)]) (P := (fun v9 => ((0 : Nat), v9) :: [(2, v0)])) (tg := 0) (My := M_Md_trayFault) (mRunV (as := [(0, v1)]) (st := [(2, v0)]) d_Md_judge_3 (mc_Md_trayFault (by decide)) rfl (mv_Md_trayFault tb_ml_Md_296) rfl (Nat.le_of_ble_eq_true rfl) ha) (fun v => rfl) rfl hr (fun r1 h1 => t_Md_trayFault _ _ _ _ h1) (fun x2 h1 hr => ?_)
  refine j_puti (pc := 6) d_Md_judge_6 (fd_Md_86 rfl) (⟨_, _, _, rfl, Or.inl rfl, rfl⟩ : mFldW M_Md_judge 86 11 5 .int) hr (fun h3 hr => ?_)
  refine j_aload_n (pc := 9) d_Md_judge_9 rfl ?_
  refine j_getf (pc := 10) d_Md_judge_10 (fd_Md_86 rfl) hr (fun hr => ?_)
  refine j_if_ne (pc := 13) (tgt := 33) d_Md_judge_13 hr (fun hr => ?_) (fun hr => ?_)
  · exact mJ_weak (ls' := [(2, v0), (0, v1), (0, v2), (9, 0), (9, 0), (9, 0)]) (mwk_s (mwk_s (mwk_s (mwk_s (mwk_s (mwk_s mwk_n)))))) (t_Md_judge_J33  hr)
  · refine j_iload_n (pc := 16) d_Md_judge_16 rfl ?_
    refine j_i2l (pc := 17) d_Md_judge_17 ?_
    refine j_lconst (pc := 18) (z := 0) d_Md_judge_18 ?_
    refine j_ldc2 (pc := 19) (z := 3) d_Md_judge_19 tb_cj_Md_299 rfl ?_
    refine j_callG (pc := 22) (stk := [(1, 3), (1, 0), (1, v2)]) (as := [(1, v2), (1, 0), (1, 3)]) (P := (fun v9 => ((0 : Nat), v9) :: [])) (tg := 0) (My := M_Md_amid) (mRunS (as := [(1, v2), (1, 0), (1, 3)]) (st := []) d_Md_judge_22 (mc_Md_amid (by decide)) rfl ⟨tb_ml_Md_147, tb_sm_Md_amid⟩ rfl (Nat.le_of_ble_eq_true rfl)) (fun v => rfl) rfl hr (fun r1 h1 => t_Md_amid _ _ _ _ _ h1) (fun x5 h4 hr => ?_)
    refine j_if_ne (pc := 25) (tgt := 33) d_Md_judge_25 hr (fun hr => ?_) (fun hr => ?_)
    · exact mJ_weak (ls' := [(2, v0), (0, v1), (0, v2), (9, 0), (9, 0), (9, 0)]) (mwk_s (mwk_s (mwk_s (mwk_s (mwk_s (mwk_s mwk_n)))))) (t_Md_judge_J33  hr)
    · refine j_aload_n (pc := 28) d_Md_judge_28 rfl ?_
      refine j_iconst (pc := 29) d_Md_judge_29 ?_
      refine j_puti (pc := 30) d_Md_judge_30 (fd_Md_86 rfl) (⟨_, _, _, rfl, Or.inl rfl, rfl⟩ : mFldW M_Md_judge 86 11 5 .int) hr (fun h6 hr => ?_)
      exact mJ_weak (ls' := [(2, v0), (0, v1), (0, v2), (9, 0), (9, 0), (9, 0)]) (mwk_s (mwk_s (mwk_s (mwk_s (mwk_s (mwk_s mwk_n)))))) (t_Md_judge_J33  hr)
def M_Md_perform : mM := ("NineBarsModel", ⟨"NineBarsModel", "perform", "(I)I"⟩, prog_13_method_59_code, 2, some .int, [], 13)
theorem tb_co_Md_perform : mTB (Cond.code ⟨"NineBarsModel", "perform", "(I)I"⟩ prog_13_method_59_code 2 (some .int)) := tbq8 78 (by decide +kernel) rfl
theorem mc_Md_perform {M : mM} (hd : 13 < mDp M) : mCal M M_Md_perform 1 := ⟨tb_co_Md_perform, tb_in_NineBarsModel, ⟨by decide +kernel, by decide +kernel⟩, by decide +kernel, hd, by decide⟩
theorem d_Md_perform_0 : decode prog_13_method_59_code 0 = .ok (.aload_n 0, 1) := by decide +kernel
theorem d_Md_perform_1 : decode prog_13_method_59_code 1 = .ok (.aload_n 0, 1) := by decide +kernel
theorem d_Md_perform_2 : decode prog_13_method_59_code 2 = .ok (.iload_n 1, 1) := by decide +kernel
theorem d_Md_perform_3 : decode prog_13_method_59_code 3 = .ok (.invokevirtual 296, 3) := by decide +kernel
theorem d_Md_perform_6 : decode prog_13_method_59_code 6 = .ok (.putfield 86, 3) := by decide +kernel
theorem d_Md_perform_9 : decode prog_13_method_59_code 9 = .ok (.aload_n 0, 1) := by decide +kernel
theorem d_Md_perform_10 : decode prog_13_method_59_code 10 = .ok (.getfield 86, 3) := by decide +kernel
theorem d_Md_perform_13 : decode prog_13_method_59_code 13 = .ok (.ifCond .le 7, 3) := by decide +kernel
theorem d_Md_perform_20 : decode prog_13_method_59_code 20 = .ok (.aload_n 0, 1) := by decide +kernel
theorem d_Md_perform_21 : decode prog_13_method_59_code 21 = .ok (.iload_n 1, 1) := by decide +kernel
theorem d_Md_perform_22 : decode prog_13_method_59_code 22 = .ok (.invokevirtual 301, 3) := by decide +kernel
theorem d_Md_perform_25 : decode prog_13_method_59_code 25 = .ok (.ireturn, 1) := by decide +kernel
theorem d_Md_perform_16 : decode prog_13_method_59_code 16 = .ok (.iconst 0, 1) := by decide +kernel
theorem d_Md_perform_17 : decode prog_13_method_59_code 17 = .ok (.goto 8, 3) := by decide +kernel
theorem t_Md_perform {G : mG} (h : mH) (v0 v1 : Int) (r : mR) (hr : f_Md_perform h v0 v1 = some r) : mJM G M_Md_perform [(2, v0), (0, v1)] h r := by
  refine mJM_of (L := [(2, v0), (0, v1)]) rfl rfl rfl (Nat.le_of_ble_eq_true rfl) ?_
  unfold f_Md_perform at hr
  refine j_aload_n (pc := 0) d_Md_perform_0 rfl ?_
  refine j_aload_n (pc := 1) d_Md_perform_1 rfl ?_
  refine j_iload_n (pc := 2) d_Md_perform_2 rfl ?_
  obtain ⟨ha, hr⟩ := chk_some hr
  refine j_callG (pc := 3) (stk := [(0, v1), (2, v0), (2, v0)]) (as := [(2, v0), (0, v1)]) (P := (fun v9 => ((0 : Nat), v9) :: [(2, v0)])) (tg := 0) (My := M_Md_trayFault) (mRunV (as := [(0, v1)]) (st := [(2, v0)]) d_Md_perform_3 (mc_Md_trayFault (by decide)) rfl (mv_Md_trayFault tb_ml_Md_296) rfl (Nat.le_of_ble_eq_true rfl) ha) (fun v => rfl) rfl hr (fun r1 h1 => t_Md_trayFault _ _ _ _ h1) (fun x2 h1 hr => ?_)
  refine j_puti (pc := 6) d_Md_perform_6 (fd_Md_86 rfl) (⟨_, _, _, rfl, Or.inl rfl, rfl⟩ : mFldW M_Md_perform 86 11 5 .int) hr (fun h3 hr => ?_)
  refine j_aload_n (pc := 9) d_Md_perform_9 rfl ?_
  refine j_getf (pc := 10) d_Md_perform_10 (fd_Md_86 rfl) hr (fun hr => ?_)
  refine j_if_le (pc := 13) (tgt := 20) d_Md_perform_13 hr (fun hr => ?_) (fun hr => ?_)
  · refine j_aload_n (pc := 20) d_Md_perform_20 rfl ?_
    refine j_iload_n (pc := 21) d_Md_perform_21 rfl ?_
    obtain ⟨ha, hr⟩ := chk_some hr
    refine j_callG (pc := 22) (stk := [(0, v1), (2, v0)]) (as := [(2, v0), (0, v1)]) (P := (fun v9 => ((0 : Nat), v9) :: [])) (tg := 0) (My := M_Md_goesBy) (mRunV (as := [(0, v1)]) (st := []) d_Md_perform_22 (mc_Md_goesBy (by decide)) rfl (mv_Md_goesBy tb_ml_Md_301) rfl (Nat.le_of_ble_eq_true rfl) ha) (fun v => rfl) rfl hr (fun r1 h1 => t_Md_goesBy _ _ _ _ h1) (fun x5 h4 hr => ?_)
    exact j_iret (pc := 25) d_Md_perform_25 rfl hr
  · refine j_iconst (pc := 16) d_Md_perform_16 ?_
    refine j_goto (pc := 17) (tgt := 25) d_Md_perform_17 ?_
    exact j_iret (pc := 25) d_Md_perform_25 rfl hr
