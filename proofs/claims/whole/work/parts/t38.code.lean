def M_Law_perform : mM := ("NineBarsLaw", ⟨"NineBarsLaw", "perform", "(LNineBars;I[J)I"⟩, method_8_code, 4, some .int, [(0, 9, 12, 19), (0, 9, 15, 27)], 15)
theorem tb_co_Law_perform : mTB (Cond.codeWith ⟨"NineBarsLaw", "perform", "(LNineBars;I[J)I"⟩ method_8_code 4 (some .int) [(0, 9, 12, 19), (0, 9, 15, 27)]) := tbq4 210 (by decide +kernel) rfl
theorem mc_Law_perform {M : mM} (hd : 15 < mDp M) : mCal M M_Law_perform 3 := ⟨tb_co_Law_perform, tb_in_NineBarsLaw, ⟨by decide +kernel, by decide +kernel⟩, by decide +kernel, hd, by decide⟩
theorem d_Law_perform_0 : decode method_8_code 0 = .ok (.aload_n 2, 1) := by decide +kernel
theorem d_Law_perform_1 : decode method_8_code 1 = .ok (.iconst 0, 1) := by decide +kernel
theorem d_Law_perform_2 : decode method_8_code 2 = .ok (.aload_n 0, 1) := by decide +kernel
theorem d_Law_perform_3 : decode method_8_code 3 = .ok (.iload_n 1, 1) := by decide +kernel
theorem d_Law_perform_4 : decode method_8_code 4 = .ok (.invokevirtual 32, 3) := by decide +kernel
theorem tb_ml_Law_32 : mTB (Cond.methodLink "NineBarsLaw" 32 ⟨"NineBars", "perform", "(I)I"⟩) := tbq4 211 (by decide +kernel) rfl
theorem d_Law_perform_12 : decode method_8_code 12 = .ok (.astore_n 3, 1) := by decide +kernel
theorem d_Law_perform_13 : decode method_8_code 13 = .ok (.iconst 1, 1) := by decide +kernel
theorem d_Law_perform_14 : decode method_8_code 14 = .ok (.ireturn, 1) := by decide +kernel
theorem d_Law_perform_15 : decode method_8_code 15 = .ok (.astore_n 3, 1) := by decide +kernel
theorem d_Law_perform_16 : decode method_8_code 16 = .ok (.iconst 2, 1) := by decide +kernel
theorem d_Law_perform_17 : decode method_8_code 17 = .ok (.ireturn, 1) := by decide +kernel
theorem tb_im_Nb_perform : mTB (Cond.instanceMethod ⟨"NineBars", "perform", "(I)I"⟩) := tbq4 212 (by decide +kernel) rfl
theorem tb_se_Nb_perform : mTB (Cond.selects "NineBars" ⟨"NineBars", "perform", "(I)I"⟩ ⟨"NineBars", "perform", "(I)I"⟩) := tbq4 213 (by decide +kernel) rfl
theorem mv_Nb_perform {M : mM} {idx : Nat} (h : mTB (Cond.methodLink (mO M) idx ⟨"NineBars", "perform", "(I)I"⟩)) : mCaV M M_Nb_perform idx 10 := ⟨h, tb_im_Nb_perform, tb_se_Nb_perform, by decide, TX10, 19, rfl⟩
theorem d_Law_perform_7 : decode method_8_code 7 = .ok (.i2l, 1) := by decide +kernel
theorem d_Law_perform_8 : decode method_8_code 8 = .ok (.lastore, 1) := by decide +kernel
theorem d_Law_perform_9 : decode method_8_code 9 = .ok (.goto 9, 3) := by decide +kernel
theorem d_Law_perform_18 : decode method_8_code 18 = .ok (.iconst 0, 1) := by decide +kernel
theorem d_Law_perform_19 : decode method_8_code 19 = .ok (.ireturn, 1) := by decide +kernel
theorem t_Law_perform {G : mG} (h : mH) (v0 v1 v2 : Int) (r : mR) (hr : f_Law_perform h v0 v1 v2 = some r) : mJM G M_Law_perform [(2, v0), (0, v1), (2, v2)] h r := by
  refine mJM_of (L := [(2, v0), (0, v1), (2, v2), (9, 0)]) rfl rfl rfl (Nat.le_of_ble_eq_true rfl) ?_
  unfold f_Law_perform at hr
  refine j_aload_n (pc := 0) d_Law_perform_0 rfl ?_
  refine j_iconst (pc := 1) d_Law_perform_1 ?_
  refine j_aload_n (pc := 2) d_Law_perform_2 rfl ?_
  refine j_iload_n (pc := 3) d_Law_perform_3 rfl ?_
  obtain ⟨ha, hr⟩ := chk_some hr
  refine j_callC (pc := 4) (stk := [(0, v1), (2, v0), (0, 0), (2, v2)]) (as := [(2, v0), (0, v1)]) (P := (fun v9 => ((0 : Nat), v9) :: [(0, 0), (2, v2)])) (tg := 0) (ns := [("java/util/NoSuchElementException", 12), ("java/lang/IllegalStateException", 15)]) (mRunV (as := [(0, v1)]) (st := [(0, 0), (2, v2)]) d_Law_perform_4 (mc_Nb_perform (by decide)) rfl (mv_Nb_perform tb_ml_Law_32) rfl (Nat.le_of_ble_eq_true rfl) ha) (fun v => rfl) ⟨⟨by decide, by decide, rfl, by decide⟩, by decide +kernel, tb_cl_Law_19, ⟨⟨by decide, by decide, rfl, by decide⟩, by decide +kernel, tb_cl_Law_27, trivial⟩⟩ hr (fun r1 h1 => t_Nb_perform _ _ _ _ h1) (fun e h1 hr => ?_) (fun x2 h1 hr => ?_)
  · by_cases he : e = exNo "java/util/NoSuchElementException"
    · rw [if_pos he] at hr
      exact ⟨"java/util/NoSuchElementException", 12, 3, 1, he.symm, by decide +kernel, by decide +kernel, Or.inl ⟨3, rfl, d_Law_perform_12, rfl⟩, (Nat.le_of_ble_eq_true rfl), j_iconst (pc := 13) d_Law_perform_13 (j_iret (pc := 14) d_Law_perform_14 rfl hr)⟩
    · rw [if_neg he] at hr
      by_cases he : e = exNo "java/lang/IllegalStateException"
      · rw [if_pos he] at hr
        exact ⟨"java/lang/IllegalStateException", 15, 3, 1, he.symm, by decide +kernel, by decide +kernel, Or.inl ⟨3, rfl, d_Law_perform_15, rfl⟩, (Nat.le_of_ble_eq_true rfl), j_iconst (pc := 16) d_Law_perform_16 (j_iret (pc := 17) d_Law_perform_17 rfl hr)⟩
      · rw [if_neg he] at hr
        cases hr
  refine j_i2l (pc := 7) d_Law_perform_7 ?_
  refine j_lastore (pc := 8) d_Law_perform_8 hr (fun h3 hr => ?_)
  refine j_goto (pc := 9) (tgt := 18) d_Law_perform_9 ?_
  refine j_iconst (pc := 18) d_Law_perform_18 ?_
  exact j_iret (pc := 19) d_Law_perform_19 rfl hr
def M_Law_thief : mM := ("NineBarsLaw", ⟨"NineBarsLaw", "thief", "(LNineBars;II[J)I"⟩, method_9_code, 5, some .int, [(0, 10, 13, 13), (0, 10, 17, 27)], 13)
theorem tb_co_Law_thief : mTB (Cond.codeWith ⟨"NineBarsLaw", "thief", "(LNineBars;II[J)I"⟩ method_9_code 5 (some .int) [(0, 10, 13, 13), (0, 10, 17, 27)]) := tbq4 217 (by decide +kernel) rfl
theorem mc_Law_thief {M : mM} (hd : 13 < mDp M) : mCal M M_Law_thief 4 := ⟨tb_co_Law_thief, tb_in_NineBarsLaw, ⟨by decide +kernel, by decide +kernel⟩, by decide +kernel, hd, by decide⟩
theorem d_Law_thief_0 : decode method_9_code 0 = .ok (.aload_n 3, 1) := by decide +kernel
theorem d_Law_thief_1 : decode method_9_code 1 = .ok (.iconst 0, 1) := by decide +kernel
theorem d_Law_thief_2 : decode method_9_code 2 = .ok (.aload_n 0, 1) := by decide +kernel
theorem d_Law_thief_3 : decode method_9_code 3 = .ok (.iload_n 1, 1) := by decide +kernel
theorem d_Law_thief_4 : decode method_9_code 4 = .ok (.iload_n 2, 1) := by decide +kernel
theorem d_Law_thief_5 : decode method_9_code 5 = .ok (.invokevirtual 35, 3) := by decide +kernel
theorem tb_ml_Law_35 : mTB (Cond.methodLink "NineBarsLaw" 35 ⟨"NineBars", "thief", "(II)I"⟩) := tbq4 218 (by decide +kernel) rfl
theorem d_Law_thief_13 : decode method_9_code 13 = .ok (.astore 4, 2) := by decide +kernel
theorem d_Law_thief_15 : decode method_9_code 15 = .ok (.iconst 1, 1) := by decide +kernel
theorem d_Law_thief_16 : decode method_9_code 16 = .ok (.ireturn, 1) := by decide +kernel
theorem d_Law_thief_17 : decode method_9_code 17 = .ok (.astore 4, 2) := by decide +kernel
theorem d_Law_thief_19 : decode method_9_code 19 = .ok (.iconst 2, 1) := by decide +kernel
theorem d_Law_thief_20 : decode method_9_code 20 = .ok (.ireturn, 1) := by decide +kernel
theorem tb_im_Nb_thief : mTB (Cond.instanceMethod ⟨"NineBars", "thief", "(II)I"⟩) := tbq4 219 (by decide +kernel) rfl
theorem tb_se_Nb_thief : mTB (Cond.selects "NineBars" ⟨"NineBars", "thief", "(II)I"⟩ ⟨"NineBars", "thief", "(II)I"⟩) := tbq4 220 (by decide +kernel) rfl
theorem mv_Nb_thief {M : mM} {idx : Nat} (h : mTB (Cond.methodLink (mO M) idx ⟨"NineBars", "thief", "(II)I"⟩)) : mCaV M M_Nb_thief idx 10 := ⟨h, tb_im_Nb_thief, tb_se_Nb_thief, by decide, TX10, 19, rfl⟩
theorem d_Law_thief_8 : decode method_9_code 8 = .ok (.i2l, 1) := by decide +kernel
theorem d_Law_thief_9 : decode method_9_code 9 = .ok (.lastore, 1) := by decide +kernel
theorem d_Law_thief_10 : decode method_9_code 10 = .ok (.goto 11, 3) := by decide +kernel
theorem d_Law_thief_21 : decode method_9_code 21 = .ok (.iconst 0, 1) := by decide +kernel
theorem d_Law_thief_22 : decode method_9_code 22 = .ok (.ireturn, 1) := by decide +kernel
theorem t_Law_thief {G : mG} (h : mH) (v0 v1 v2 v3 : Int) (r : mR) (hr : f_Law_thief h v0 v1 v2 v3 = some r) : mJM G M_Law_thief [(2, v0), (0, v1), (0, v2), (2, v3)] h r := by
  refine mJM_of (L := [(2, v0), (0, v1), (0, v2), (2, v3), (9, 0)]) rfl rfl rfl (Nat.le_of_ble_eq_true rfl) ?_
  unfold f_Law_thief at hr
  refine j_aload_n (pc := 0) d_Law_thief_0 rfl ?_
  refine j_iconst (pc := 1) d_Law_thief_1 ?_
  refine j_aload_n (pc := 2) d_Law_thief_2 rfl ?_
  refine j_iload_n (pc := 3) d_Law_thief_3 rfl ?_
  refine j_iload_n (pc := 4) d_Law_thief_4 rfl ?_
  obtain ⟨ha, hr⟩ := chk_some hr
  refine j_callC (pc := 5) (stk := [(0, v2), (0, v1), (2, v0), (0, 0), (2, v3)]) (as := [(2, v0), (0, v1), (0, v2)]) (P := (fun v9 => ((0 : Nat), v9) :: [(0, 0), (2, v3)])) (tg := 0) (ns := [("java/lang/IllegalArgumentException", 13), ("java/lang/IllegalStateException", 17)]) (mRunV (as := [(0, v1), (0, v2)]) (st := [(0, 0), (2, v3)]) d_Law_thief_5 (mc_Nb_thief (by decide)) rfl (mv_Nb_thief tb_ml_Law_35) rfl (Nat.le_of_ble_eq_true rfl) ha) (fun v => rfl) ⟨⟨by decide, by decide, rfl, by decide⟩, by decide +kernel, tb_cl_Law_13, ⟨⟨by decide, by decide, rfl, by decide⟩, by decide +kernel, tb_cl_Law_27, trivial⟩⟩ hr (fun r1 h1 => t_Nb_thief _ _ _ _ _ h1) (fun e h1 hr => ?_) (fun x2 h1 hr => ?_)
  · by_cases he : e = exNo "java/lang/IllegalArgumentException"
    · rw [if_pos he] at hr
      exact ⟨"java/lang/IllegalArgumentException", 13, 4, 2, he.symm, by decide +kernel, by decide +kernel, Or.inr ⟨d_Law_thief_13, rfl⟩, (Nat.le_of_ble_eq_true rfl), j_iconst (pc := 15) d_Law_thief_15 (j_iret (pc := 16) d_Law_thief_16 rfl hr)⟩
    · rw [if_neg he] at hr
      by_cases he : e = exNo "java/lang/IllegalStateException"
      · rw [if_pos he] at hr
        exact ⟨"java/lang/IllegalStateException", 17, 4, 2, he.symm, by decide +kernel, by decide +kernel, Or.inr ⟨d_Law_thief_17, rfl⟩, (Nat.le_of_ble_eq_true rfl), j_iconst (pc := 19) d_Law_thief_19 (j_iret (pc := 20) d_Law_thief_20 rfl hr)⟩
      · rw [if_neg he] at hr
        cases hr
  refine j_i2l (pc := 8) d_Law_thief_8 ?_
  refine j_lastore (pc := 9) d_Law_thief_9 hr (fun h3 hr => ?_)
  refine j_goto (pc := 10) (tgt := 21) d_Law_thief_10 ?_
  refine j_iconst (pc := 21) d_Law_thief_21 ?_
  exact j_iret (pc := 22) d_Law_thief_22 rfl hr
def M_Law_canBe : mM := ("NineBarsLaw", ⟨"NineBarsLaw", "canBe", "(LNineBars;I[J)I"⟩, method_10_code, 4, some .int, [(0, 16, 19, 19), (0, 16, 22, 27)], 15)
theorem tb_co_Law_canBe : mTB (Cond.codeWith ⟨"NineBarsLaw", "canBe", "(LNineBars;I[J)I"⟩ method_10_code 4 (some .int) [(0, 16, 19, 19), (0, 16, 22, 27)]) := tbq4 230 (by decide +kernel) rfl
theorem mc_Law_canBe {M : mM} (hd : 15 < mDp M) : mCal M M_Law_canBe 3 := ⟨tb_co_Law_canBe, tb_in_NineBarsLaw, ⟨by decide +kernel, by decide +kernel⟩, by decide +kernel, hd, by decide⟩
theorem d_Law_canBe_0 : decode method_10_code 0 = .ok (.aload_n 2, 1) := by decide +kernel
theorem d_Law_canBe_1 : decode method_10_code 1 = .ok (.iconst 0, 1) := by decide +kernel
theorem d_Law_canBe_2 : decode method_10_code 2 = .ok (.aload_n 0, 1) := by decide +kernel
theorem d_Law_canBe_3 : decode method_10_code 3 = .ok (.iload_n 1, 1) := by decide +kernel
theorem d_Law_canBe_4 : decode method_10_code 4 = .ok (.invokevirtual 38, 3) := by decide +kernel
theorem tb_ml_Law_38 : mTB (Cond.methodLink "NineBarsLaw" 38 ⟨"NineBars", "canBe", "(I)Z"⟩) := tbq4 231 (by decide +kernel) rfl
theorem d_Law_canBe_19 : decode method_10_code 19 = .ok (.astore_n 3, 1) := by decide +kernel
theorem d_Law_canBe_20 : decode method_10_code 20 = .ok (.iconst 1, 1) := by decide +kernel
theorem d_Law_canBe_21 : decode method_10_code 21 = .ok (.ireturn, 1) := by decide +kernel
theorem d_Law_canBe_22 : decode method_10_code 22 = .ok (.astore_n 3, 1) := by decide +kernel
theorem d_Law_canBe_23 : decode method_10_code 23 = .ok (.iconst 2, 1) := by decide +kernel
theorem d_Law_canBe_24 : decode method_10_code 24 = .ok (.ireturn, 1) := by decide +kernel
theorem tb_im_Nb_canBe : mTB (Cond.instanceMethod ⟨"NineBars", "canBe", "(I)Z"⟩) := tbq4 232 (by decide +kernel) rfl
theorem tb_se_Nb_canBe : mTB (Cond.selects "NineBars" ⟨"NineBars", "canBe", "(I)Z"⟩ ⟨"NineBars", "canBe", "(I)Z"⟩) := tbq4 233 (by decide +kernel) rfl
theorem mv_Nb_canBe {M : mM} {idx : Nat} (h : mTB (Cond.methodLink (mO M) idx ⟨"NineBars", "canBe", "(I)Z"⟩)) : mCaV M M_Nb_canBe idx 10 := ⟨h, tb_im_Nb_canBe, tb_se_Nb_canBe, by decide, TX10, 19, rfl⟩
theorem d_Law_canBe_7 : decode method_10_code 7 = .ok (.ifCond .eq 7, 3) := by decide +kernel
theorem d_Law_canBe_14 : decode method_10_code 14 = .ok (.lconst 0, 1) := by decide +kernel
theorem d_Law_canBe_15 : decode method_10_code 15 = .ok (.lastore, 1) := by decide +kernel
theorem d_Law_canBe_16 : decode method_10_code 16 = .ok (.goto 9, 3) := by decide +kernel
theorem d_Law_canBe_25 : decode method_10_code 25 = .ok (.iconst 0, 1) := by decide +kernel
theorem d_Law_canBe_26 : decode method_10_code 26 = .ok (.ireturn, 1) := by decide +kernel
theorem d_Law_canBe_10 : decode method_10_code 10 = .ok (.lconst 1, 1) := by decide +kernel
theorem d_Law_canBe_11 : decode method_10_code 11 = .ok (.goto 4, 3) := by decide +kernel
theorem t_Law_canBe_J15 {G : mG} {r : mR} {s0 s1 s2 : Int} {h : mH}  (hr : f_Law_canBe_J15 s0 s1 s2 h = some r) : mJ G M_Law_canBe 15 [(9, 0), (9, 0), (9, 0), (9, 0)] [(1, s2), (0, s1), (2, s0)] h r := by
  unfold f_Law_canBe_J15 at hr
  refine j_lastore (pc := 15) d_Law_canBe_15 hr (fun h1 hr => ?_)
  refine j_goto (pc := 16) (tgt := 25) d_Law_canBe_16 ?_
  refine j_iconst (pc := 25) d_Law_canBe_25 ?_
  exact j_iret (pc := 26) d_Law_canBe_26 rfl hr
theorem t_Law_canBe {G : mG} (h : mH) (v0 v1 v2 : Int) (r : mR) (hr : f_Law_canBe h v0 v1 v2 = some r) : mJM G M_Law_canBe [(2, v0), (0, v1), (2, v2)] h r := by
  refine mJM_of (L := [(2, v0), (0, v1), (2, v2), (9, 0)]) rfl rfl rfl (Nat.le_of_ble_eq_true rfl) ?_
  unfold f_Law_canBe at hr
  refine j_aload_n (pc := 0) d_Law_canBe_0 rfl ?_
  refine j_iconst (pc := 1) d_Law_canBe_1 ?_
  refine j_aload_n (pc := 2) d_Law_canBe_2 rfl ?_
  refine j_iload_n (pc := 3) d_Law_canBe_3 rfl ?_
  obtain ⟨ha, hr⟩ := chk_some hr
  refine j_callC (pc := 4) (stk := [(0, v1), (2, v0), (0, 0), (2, v2)]) (as := [(2, v0), (0, v1)]) (P := (fun v9 => ((0 : Nat), v9) :: [(0, 0), (2, v2)])) (tg := 0) (ns := [("java/util/NoSuchElementException", 19), ("java/lang/IllegalStateException", 22)]) (mRunV (as := [(0, v1)]) (st := [(0, 0), (2, v2)]) d_Law_canBe_4 (mc_Nb_canBe (by decide)) rfl (mv_Nb_canBe tb_ml_Law_38) rfl (Nat.le_of_ble_eq_true rfl) ha) (fun v => rfl) ⟨⟨by decide, by decide, rfl, by decide⟩, by decide +kernel, tb_cl_Law_19, ⟨⟨by decide, by decide, rfl, by decide⟩, by decide +kernel, tb_cl_Law_27, trivial⟩⟩ hr (fun r1 h1 => t_Nb_canBe _ _ _ _ h1) (fun e h1 hr => ?_) (fun x2 h1 hr => ?_)
  · by_cases he : e = exNo "java/util/NoSuchElementException"
    · rw [if_pos he] at hr
      exact ⟨"java/util/NoSuchElementException", 19, 3, 1, he.symm, by decide +kernel, by decide +kernel, Or.inl ⟨3, rfl, d_Law_canBe_19, rfl⟩, (Nat.le_of_ble_eq_true rfl), j_iconst (pc := 20) d_Law_canBe_20 (j_iret (pc := 21) d_Law_canBe_21 rfl hr)⟩
    · rw [if_neg he] at hr
      by_cases he : e = exNo "java/lang/IllegalStateException"
      · rw [if_pos he] at hr
        exact ⟨"java/lang/IllegalStateException", 22, 3, 1, he.symm, by decide +kernel, by decide +kernel, Or.inl ⟨3, rfl, d_Law_canBe_22, rfl⟩, (Nat.le_of_ble_eq_true rfl), j_iconst (pc := 23) d_Law_canBe_23 (j_iret (pc := 24) d_Law_canBe_24 rfl hr)⟩
      · rw [if_neg he] at hr
        cases hr
  refine j_if_eq (pc := 7) (tgt := 14) d_Law_canBe_7 hr (fun hr => ?_) (fun hr => ?_)
  · refine j_lconst (pc := 14) (z := 0) d_Law_canBe_14 ?_
    exact mJ_weak (ls' := [(9, 0), (9, 0), (9, 0), (9, 0)]) (mwk_d (mwk_d (mwk_d (mwk_s mwk_n)))) (t_Law_canBe_J15  hr)
  · refine j_lconst (pc := 10) (z := 1) d_Law_canBe_10 ?_
    refine j_goto (pc := 11) (tgt := 15) d_Law_canBe_11 ?_
    exact mJ_weak (ls' := [(9, 0), (9, 0), (9, 0), (9, 0)]) (mwk_d (mwk_d (mwk_d (mwk_s mwk_n)))) (t_Law_canBe_J15  hr)
def M_Law_shortest : mM := ("NineBarsLaw", ⟨"NineBarsLaw", "shortest", "(LNineBars;III[J)I"⟩, method_11_code, 6, some .int, [(0, 12, 15, 19), (0, 12, 19, 27)], 15)
theorem tb_co_Law_shortest : mTB (Cond.codeWith ⟨"NineBarsLaw", "shortest", "(LNineBars;III[J)I"⟩ method_11_code 6 (some .int) [(0, 12, 15, 19), (0, 12, 19, 27)]) := tbq5 2 (by decide +kernel) rfl
theorem mc_Law_shortest {M : mM} (hd : 15 < mDp M) : mCal M M_Law_shortest 5 := ⟨tb_co_Law_shortest, tb_in_NineBarsLaw, ⟨by decide +kernel, by decide +kernel⟩, by decide +kernel, hd, by decide⟩
theorem d_Law_shortest_0 : decode method_11_code 0 = .ok (.aload 4, 2) := by decide +kernel
theorem d_Law_shortest_2 : decode method_11_code 2 = .ok (.iconst 0, 1) := by decide +kernel
theorem d_Law_shortest_3 : decode method_11_code 3 = .ok (.aload_n 0, 1) := by decide +kernel
theorem d_Law_shortest_4 : decode method_11_code 4 = .ok (.iload_n 1, 1) := by decide +kernel
theorem d_Law_shortest_5 : decode method_11_code 5 = .ok (.iload_n 2, 1) := by decide +kernel
theorem d_Law_shortest_6 : decode method_11_code 6 = .ok (.iload_n 3, 1) := by decide +kernel
theorem d_Law_shortest_7 : decode method_11_code 7 = .ok (.invokevirtual 42, 3) := by decide +kernel
theorem tb_ml_Law_42 : mTB (Cond.methodLink "NineBarsLaw" 42 ⟨"NineBars", "shortest", "(III)I"⟩) := tbq5 3 (by decide +kernel) rfl
theorem d_Law_shortest_15 : decode method_11_code 15 = .ok (.astore 5, 2) := by decide +kernel
theorem d_Law_shortest_17 : decode method_11_code 17 = .ok (.iconst 1, 1) := by decide +kernel
theorem d_Law_shortest_18 : decode method_11_code 18 = .ok (.ireturn, 1) := by decide +kernel
theorem d_Law_shortest_19 : decode method_11_code 19 = .ok (.astore 5, 2) := by decide +kernel
theorem d_Law_shortest_21 : decode method_11_code 21 = .ok (.iconst 2, 1) := by decide +kernel
theorem d_Law_shortest_22 : decode method_11_code 22 = .ok (.ireturn, 1) := by decide +kernel
theorem tb_im_Nb_shortest : mTB (Cond.instanceMethod ⟨"NineBars", "shortest", "(III)I"⟩) := tbq5 4 (by decide +kernel) rfl
theorem tb_se_Nb_shortest : mTB (Cond.selects "NineBars" ⟨"NineBars", "shortest", "(III)I"⟩ ⟨"NineBars", "shortest", "(III)I"⟩) := tbq5 5 (by decide +kernel) rfl
theorem mv_Nb_shortest {M : mM} {idx : Nat} (h : mTB (Cond.methodLink (mO M) idx ⟨"NineBars", "shortest", "(III)I"⟩)) : mCaV M M_Nb_shortest idx 10 := ⟨h, tb_im_Nb_shortest, tb_se_Nb_shortest, by decide, TX10, 19, rfl⟩
theorem d_Law_shortest_10 : decode method_11_code 10 = .ok (.i2l, 1) := by decide +kernel
theorem d_Law_shortest_11 : decode method_11_code 11 = .ok (.lastore, 1) := by decide +kernel
theorem d_Law_shortest_12 : decode method_11_code 12 = .ok (.goto 11, 3) := by decide +kernel
theorem d_Law_shortest_23 : decode method_11_code 23 = .ok (.iconst 0, 1) := by decide +kernel
theorem d_Law_shortest_24 : decode method_11_code 24 = .ok (.ireturn, 1) := by decide +kernel
theorem t_Law_shortest {G : mG} (h : mH) (v0 v1 v2 v3 v4 : Int) (r : mR) (hr : f_Law_shortest h v0 v1 v2 v3 v4 = some r) : mJM G M_Law_shortest [(2, v0), (0, v1), (0, v2), (0, v3), (2, v4)] h r := by
  refine mJM_of (L := [(2, v0), (0, v1), (0, v2), (0, v3), (2, v4), (9, 0)]) rfl rfl rfl (Nat.le_of_ble_eq_true rfl) ?_
  unfold f_Law_shortest at hr
  refine j_aload (pc := 0) d_Law_shortest_0 rfl ?_
  refine j_iconst (pc := 2) d_Law_shortest_2 ?_
  refine j_aload_n (pc := 3) d_Law_shortest_3 rfl ?_
  refine j_iload_n (pc := 4) d_Law_shortest_4 rfl ?_
  refine j_iload_n (pc := 5) d_Law_shortest_5 rfl ?_
  refine j_iload_n (pc := 6) d_Law_shortest_6 rfl ?_
  obtain ⟨ha, hr⟩ := chk_some hr
  refine j_callC (pc := 7) (stk := [(0, v3), (0, v2), (0, v1), (2, v0), (0, 0), (2, v4)]) (as := [(2, v0), (0, v1), (0, v2), (0, v3)]) (P := (fun v9 => ((0 : Nat), v9) :: [(0, 0), (2, v4)])) (tg := 0) (ns := [("java/util/NoSuchElementException", 15), ("java/lang/IllegalStateException", 19)]) (mRunV (as := [(0, v1), (0, v2), (0, v3)]) (st := [(0, 0), (2, v4)]) d_Law_shortest_7 (mc_Nb_shortest (by decide)) rfl (mv_Nb_shortest tb_ml_Law_42) rfl (Nat.le_of_ble_eq_true rfl) ha) (fun v => rfl) ⟨⟨by decide, by decide, rfl, by decide⟩, by decide +kernel, tb_cl_Law_19, ⟨⟨by decide, by decide, rfl, by decide⟩, by decide +kernel, tb_cl_Law_27, trivial⟩⟩ hr (fun r1 h1 => t_Nb_shortest _ _ _ _ _ _ h1) (fun e h1 hr => ?_) (fun x2 h1 hr => ?_)
  · by_cases he : e = exNo "java/util/NoSuchElementException"
    · rw [if_pos he] at hr
      exact ⟨"java/util/NoSuchElementException", 15, 5, 2, he.symm, by decide +kernel, by decide +kernel, Or.inr ⟨d_Law_shortest_15, rfl⟩, (Nat.le_of_ble_eq_true rfl), j_iconst (pc := 17) d_Law_shortest_17 (j_iret (pc := 18) d_Law_shortest_18 rfl hr)⟩
    · rw [if_neg he] at hr
      by_cases he : e = exNo "java/lang/IllegalStateException"
      · rw [if_pos he] at hr
        exact ⟨"java/lang/IllegalStateException", 19, 5, 2, he.symm, by decide +kernel, by decide +kernel, Or.inr ⟨d_Law_shortest_19, rfl⟩, (Nat.le_of_ble_eq_true rfl), j_iconst (pc := 21) d_Law_shortest_21 (j_iret (pc := 22) d_Law_shortest_22 rfl hr)⟩
      · rw [if_neg he] at hr
        cases hr
  refine j_i2l (pc := 10) d_Law_shortest_10 ?_
  refine j_lastore (pc := 11) d_Law_shortest_11 hr (fun h3 hr => ?_)
  refine j_goto (pc := 12) (tgt := 23) d_Law_shortest_12 ?_
  refine j_iconst (pc := 23) d_Law_shortest_23 ?_
  exact j_iret (pc := 24) d_Law_shortest_24 rfl hr
def M_Law_opening : mM := ("NineBarsLaw", ⟨"NineBarsLaw", "opening", "(LNineBars;I[J)I"⟩, method_12_code, 4, some .int, [(0, 9, 12, 27)], 15)
theorem tb_co_Law_opening : mTB (Cond.codeWith ⟨"NineBarsLaw", "opening", "(LNineBars;I[J)I"⟩ method_12_code 4 (some .int) [(0, 9, 12, 27)]) := tbq5 29 (by decide +kernel) rfl
theorem mc_Law_opening {M : mM} (hd : 15 < mDp M) : mCal M M_Law_opening 3 := ⟨tb_co_Law_opening, tb_in_NineBarsLaw, ⟨by decide +kernel, by decide +kernel⟩, by decide +kernel, hd, by decide⟩
theorem d_Law_opening_0 : decode method_12_code 0 = .ok (.aload_n 2, 1) := by decide +kernel
theorem d_Law_opening_1 : decode method_12_code 1 = .ok (.iconst 0, 1) := by decide +kernel
theorem d_Law_opening_2 : decode method_12_code 2 = .ok (.aload_n 0, 1) := by decide +kernel
theorem d_Law_opening_3 : decode method_12_code 3 = .ok (.iload_n 1, 1) := by decide +kernel
theorem d_Law_opening_4 : decode method_12_code 4 = .ok (.invokevirtual 46, 3) := by decide +kernel
theorem tb_ml_Law_46 : mTB (Cond.methodLink "NineBarsLaw" 46 ⟨"NineBars", "opening", "(I)I"⟩) := tbq5 30 (by decide +kernel) rfl
theorem d_Law_opening_12 : decode method_12_code 12 = .ok (.astore_n 3, 1) := by decide +kernel
theorem d_Law_opening_13 : decode method_12_code 13 = .ok (.iconst 1, 1) := by decide +kernel
theorem d_Law_opening_14 : decode method_12_code 14 = .ok (.ireturn, 1) := by decide +kernel
theorem tb_im_Nb_opening : mTB (Cond.instanceMethod ⟨"NineBars", "opening", "(I)I"⟩) := tbq5 31 (by decide +kernel) rfl
theorem tb_se_Nb_opening : mTB (Cond.selects "NineBars" ⟨"NineBars", "opening", "(I)I"⟩ ⟨"NineBars", "opening", "(I)I"⟩) := tbq5 32 (by decide +kernel) rfl
theorem mv_Nb_opening {M : mM} {idx : Nat} (h : mTB (Cond.methodLink (mO M) idx ⟨"NineBars", "opening", "(I)I"⟩)) : mCaV M M_Nb_opening idx 10 := ⟨h, tb_im_Nb_opening, tb_se_Nb_opening, by decide, TX10, 19, rfl⟩
theorem d_Law_opening_7 : decode method_12_code 7 = .ok (.i2l, 1) := by decide +kernel
theorem d_Law_opening_8 : decode method_12_code 8 = .ok (.lastore, 1) := by decide +kernel
theorem d_Law_opening_9 : decode method_12_code 9 = .ok (.goto 6, 3) := by decide +kernel
theorem d_Law_opening_15 : decode method_12_code 15 = .ok (.iconst 0, 1) := by decide +kernel
theorem d_Law_opening_16 : decode method_12_code 16 = .ok (.ireturn, 1) := by decide +kernel
theorem t_Law_opening {G : mG} (h : mH) (v0 v1 v2 : Int) (r : mR) (hr : f_Law_opening h v0 v1 v2 = some r) : mJM G M_Law_opening [(2, v0), (0, v1), (2, v2)] h r := by
  refine mJM_of (L := [(2, v0), (0, v1), (2, v2), (9, 0)]) rfl rfl rfl (Nat.le_of_ble_eq_true rfl) ?_
  unfold f_Law_opening at hr
  refine j_aload_n (pc := 0) d_Law_opening_0 rfl ?_
  refine j_iconst (pc := 1) d_Law_opening_1 ?_
  refine j_aload_n (pc := 2) d_Law_opening_2 rfl ?_
  refine j_iload_n (pc := 3) d_Law_opening_3 rfl ?_
  obtain ⟨ha, hr⟩ := chk_some hr
  refine j_callC (pc := 4) (stk := [(0, v1), (2, v0), (0, 0), (2, v2)]) (as := [(2, v0), (0, v1)]) (P := (fun v9 => ((0 : Nat), v9) :: [(0, 0), (2, v2)])) (tg := 0) (ns := [("java/lang/IllegalStateException", 12)]) (mRunV (as := [(0, v1)]) (st := [(0, 0), (2, v2)]) d_Law_opening_4 (mc_Nb_opening (by decide)) rfl (mv_Nb_opening tb_ml_Law_46) rfl (Nat.le_of_ble_eq_true rfl) ha) (fun v => rfl) ⟨⟨by decide, by decide, rfl, by decide⟩, by decide +kernel, tb_cl_Law_27, trivial⟩ hr (fun r1 h1 => t_Nb_opening _ _ _ _ h1) (fun e h1 hr => ?_) (fun x2 h1 hr => ?_)
  · by_cases he : e = exNo "java/lang/IllegalStateException"
    · rw [if_pos he] at hr
      exact ⟨"java/lang/IllegalStateException", 12, 3, 1, he.symm, by decide +kernel, by decide +kernel, Or.inl ⟨3, rfl, d_Law_opening_12, rfl⟩, (Nat.le_of_ble_eq_true rfl), j_iconst (pc := 13) d_Law_opening_13 (j_iret (pc := 14) d_Law_opening_14 rfl hr)⟩
    · rw [if_neg he] at hr
      cases hr
  refine j_i2l (pc := 7) d_Law_opening_7 ?_
  refine j_lastore (pc := 8) d_Law_opening_8 hr (fun h3 hr => ?_)
  refine j_goto (pc := 9) (tgt := 15) d_Law_opening_9 ?_
  refine j_iconst (pc := 15) d_Law_opening_15 ?_
  exact j_iret (pc := 16) d_Law_opening_16 rfl hr
def M_Law_ways : mM := ("NineBarsLaw", ⟨"NineBarsLaw", "ways", "(LNineBars;[J)I"⟩, method_13_code, 3, some .int, [(0, 7, 10, 27)], 15)
theorem tb_co_Law_ways : mTB (Cond.codeWith ⟨"NineBarsLaw", "ways", "(LNineBars;[J)I"⟩ method_13_code 3 (some .int) [(0, 7, 10, 27)]) := tbq5 40 (by decide +kernel) rfl
theorem mc_Law_ways {M : mM} (hd : 15 < mDp M) : mCal M M_Law_ways 2 := ⟨tb_co_Law_ways, tb_in_NineBarsLaw, ⟨by decide +kernel, by decide +kernel⟩, by decide +kernel, hd, by decide⟩
theorem d_Law_ways_0 : decode method_13_code 0 = .ok (.aload_n 1, 1) := by decide +kernel
theorem d_Law_ways_1 : decode method_13_code 1 = .ok (.iconst 0, 1) := by decide +kernel
theorem d_Law_ways_2 : decode method_13_code 2 = .ok (.aload_n 0, 1) := by decide +kernel
theorem d_Law_ways_3 : decode method_13_code 3 = .ok (.invokevirtual 49, 3) := by decide +kernel
theorem tb_ml_Law_49 : mTB (Cond.methodLink "NineBarsLaw" 49 ⟨"NineBars", "ways", "()J"⟩) := tbq5 41 (by decide +kernel) rfl
theorem d_Law_ways_10 : decode method_13_code 10 = .ok (.astore_n 2, 1) := by decide +kernel
theorem d_Law_ways_11 : decode method_13_code 11 = .ok (.iconst 1, 1) := by decide +kernel
theorem d_Law_ways_12 : decode method_13_code 12 = .ok (.ireturn, 1) := by decide +kernel
theorem tb_im_Nb_ways : mTB (Cond.instanceMethod ⟨"NineBars", "ways", "()J"⟩) := tbq5 42 (by decide +kernel) rfl
theorem tb_se_Nb_ways : mTB (Cond.selects "NineBars" ⟨"NineBars", "ways", "()J"⟩ ⟨"NineBars", "ways", "()J"⟩) := tbq5 43 (by decide +kernel) rfl
theorem mv_Nb_ways {M : mM} {idx : Nat} (h : mTB (Cond.methodLink (mO M) idx ⟨"NineBars", "ways", "()J"⟩)) : mCaV M M_Nb_ways idx 10 := ⟨h, tb_im_Nb_ways, tb_se_Nb_ways, by decide, TX10, 19, rfl⟩
theorem d_Law_ways_6 : decode method_13_code 6 = .ok (.lastore, 1) := by decide +kernel
theorem d_Law_ways_7 : decode method_13_code 7 = .ok (.goto 6, 3) := by decide +kernel
theorem d_Law_ways_13 : decode method_13_code 13 = .ok (.iconst 0, 1) := by decide +kernel
theorem d_Law_ways_14 : decode method_13_code 14 = .ok (.ireturn, 1) := by decide +kernel
theorem t_Law_ways {G : mG} (h : mH) (v0 v1 : Int) (r : mR) (hr : f_Law_ways h v0 v1 = some r) : mJM G M_Law_ways [(2, v0), (2, v1)] h r := by
  refine mJM_of (L := [(2, v0), (2, v1), (9, 0)]) rfl rfl rfl (Nat.le_of_ble_eq_true rfl) ?_
  unfold f_Law_ways at hr
  refine j_aload_n (pc := 0) d_Law_ways_0 rfl ?_
  refine j_iconst (pc := 1) d_Law_ways_1 ?_
  refine j_aload_n (pc := 2) d_Law_ways_2 rfl ?_
  obtain ⟨ha, hr⟩ := chk_some hr
  refine j_callC (pc := 3) (stk := [(2, v0), (0, 0), (2, v1)]) (as := [(2, v0)]) (P := (fun v9 => ((1 : Nat), v9) :: [(0, 0), (2, v1)])) (tg := 1) (ns := [("java/lang/IllegalStateException", 10)]) (mRunV (as := []) (st := [(0, 0), (2, v1)]) d_Law_ways_3 (mc_Nb_ways (by decide)) rfl (mv_Nb_ways tb_ml_Law_49) rfl (Nat.le_of_ble_eq_true rfl) ha) (fun v => rfl) ⟨⟨by decide, by decide, rfl, by decide⟩, by decide +kernel, tb_cl_Law_27, trivial⟩ hr (fun r1 h1 => t_Nb_ways _ _ _ h1) (fun e h1 hr => ?_) (fun x2 h1 hr => ?_)
  · by_cases he : e = exNo "java/lang/IllegalStateException"
    · rw [if_pos he] at hr
      exact ⟨"java/lang/IllegalStateException", 10, 2, 1, he.symm, by decide +kernel, by decide +kernel, Or.inl ⟨2, rfl, d_Law_ways_10, rfl⟩, (Nat.le_of_ble_eq_true rfl), j_iconst (pc := 11) d_Law_ways_11 (j_iret (pc := 12) d_Law_ways_12 rfl hr)⟩
    · rw [if_neg he] at hr
      cases hr
  refine j_lastore (pc := 6) d_Law_ways_6 hr (fun h3 hr => ?_)
  refine j_goto (pc := 7) (tgt := 13) d_Law_ways_7 ?_
  refine j_iconst (pc := 13) d_Law_ways_13 ?_
  exact j_iret (pc := 14) d_Law_ways_14 rfl hr
def M_Law_farthest : mM := ("NineBarsLaw", ⟨"NineBarsLaw", "farthest", "(LNineBars;I[J)I"⟩, method_14_code, 4, some .int, [(0, 9, 12, 27), (0, 9, 15, 13)], 15)
theorem tb_co_Law_farthest : mTB (Cond.codeWith ⟨"NineBarsLaw", "farthest", "(LNineBars;I[J)I"⟩ method_14_code 4 (some .int) [(0, 9, 12, 27), (0, 9, 15, 13)]) := tbq5 64 (by decide +kernel) rfl
theorem mc_Law_farthest {M : mM} (hd : 15 < mDp M) : mCal M M_Law_farthest 3 := ⟨tb_co_Law_farthest, tb_in_NineBarsLaw, ⟨by decide +kernel, by decide +kernel⟩, by decide +kernel, hd, by decide⟩
theorem d_Law_farthest_0 : decode method_14_code 0 = .ok (.aload_n 2, 1) := by decide +kernel
theorem d_Law_farthest_1 : decode method_14_code 1 = .ok (.iconst 0, 1) := by decide +kernel
theorem d_Law_farthest_2 : decode method_14_code 2 = .ok (.aload_n 0, 1) := by decide +kernel
theorem d_Law_farthest_3 : decode method_14_code 3 = .ok (.iload_n 1, 1) := by decide +kernel
theorem d_Law_farthest_4 : decode method_14_code 4 = .ok (.invokevirtual 53, 3) := by decide +kernel
theorem tb_ml_Law_53 : mTB (Cond.methodLink "NineBarsLaw" 53 ⟨"NineBars", "farthest", "(I)I"⟩) := tbq5 65 (by decide +kernel) rfl
theorem d_Law_farthest_12 : decode method_14_code 12 = .ok (.astore_n 3, 1) := by decide +kernel
theorem d_Law_farthest_13 : decode method_14_code 13 = .ok (.iconst 1, 1) := by decide +kernel
theorem d_Law_farthest_14 : decode method_14_code 14 = .ok (.ireturn, 1) := by decide +kernel
theorem d_Law_farthest_15 : decode method_14_code 15 = .ok (.astore_n 3, 1) := by decide +kernel
theorem d_Law_farthest_16 : decode method_14_code 16 = .ok (.iconst 2, 1) := by decide +kernel
theorem d_Law_farthest_17 : decode method_14_code 17 = .ok (.ireturn, 1) := by decide +kernel
theorem tb_im_Nb_farthest : mTB (Cond.instanceMethod ⟨"NineBars", "farthest", "(I)I"⟩) := tbq5 66 (by decide +kernel) rfl
theorem tb_se_Nb_farthest : mTB (Cond.selects "NineBars" ⟨"NineBars", "farthest", "(I)I"⟩ ⟨"NineBars", "farthest", "(I)I"⟩) := tbq5 67 (by decide +kernel) rfl
theorem mv_Nb_farthest {M : mM} {idx : Nat} (h : mTB (Cond.methodLink (mO M) idx ⟨"NineBars", "farthest", "(I)I"⟩)) : mCaV M M_Nb_farthest idx 10 := ⟨h, tb_im_Nb_farthest, tb_se_Nb_farthest, by decide, TX10, 19, rfl⟩
theorem d_Law_farthest_7 : decode method_14_code 7 = .ok (.i2l, 1) := by decide +kernel
theorem d_Law_farthest_8 : decode method_14_code 8 = .ok (.lastore, 1) := by decide +kernel
theorem d_Law_farthest_9 : decode method_14_code 9 = .ok (.goto 9, 3) := by decide +kernel
theorem d_Law_farthest_18 : decode method_14_code 18 = .ok (.iconst 0, 1) := by decide +kernel
theorem d_Law_farthest_19 : decode method_14_code 19 = .ok (.ireturn, 1) := by decide +kernel
theorem t_Law_farthest {G : mG} (h : mH) (v0 v1 v2 : Int) (r : mR) (hr : f_Law_farthest h v0 v1 v2 = some r) : mJM G M_Law_farthest [(2, v0), (0, v1), (2, v2)] h r := by
  refine mJM_of (L := [(2, v0), (0, v1), (2, v2), (9, 0)]) rfl rfl rfl (Nat.le_of_ble_eq_true rfl) ?_
  unfold f_Law_farthest at hr
  refine j_aload_n (pc := 0) d_Law_farthest_0 rfl ?_
  refine j_iconst (pc := 1) d_Law_farthest_1 ?_
  refine j_aload_n (pc := 2) d_Law_farthest_2 rfl ?_
  refine j_iload_n (pc := 3) d_Law_farthest_3 rfl ?_
  obtain ⟨ha, hr⟩ := chk_some hr
  refine j_callC (pc := 4) (stk := [(0, v1), (2, v0), (0, 0), (2, v2)]) (as := [(2, v0), (0, v1)]) (P := (fun v9 => ((0 : Nat), v9) :: [(0, 0), (2, v2)])) (tg := 0) (ns := [("java/lang/IllegalStateException", 12), ("java/lang/IllegalArgumentException", 15)]) (mRunV (as := [(0, v1)]) (st := [(0, 0), (2, v2)]) d_Law_farthest_4 (mc_Nb_farthest (by decide)) rfl (mv_Nb_farthest tb_ml_Law_53) rfl (Nat.le_of_ble_eq_true rfl) ha) (fun v => rfl) ⟨⟨by decide, by decide, rfl, by decide⟩, by decide +kernel, tb_cl_Law_27, ⟨⟨by decide, by decide, rfl, by decide⟩, by decide +kernel, tb_cl_Law_13, trivial⟩⟩ hr (fun r1 h1 => t_Nb_farthest _ _ _ _ h1) (fun e h1 hr => ?_) (fun x2 h1 hr => ?_)
  · by_cases he : e = exNo "java/lang/IllegalStateException"
    · rw [if_pos he] at hr
      exact ⟨"java/lang/IllegalStateException", 12, 3, 1, he.symm, by decide +kernel, by decide +kernel, Or.inl ⟨3, rfl, d_Law_farthest_12, rfl⟩, (Nat.le_of_ble_eq_true rfl), j_iconst (pc := 13) d_Law_farthest_13 (j_iret (pc := 14) d_Law_farthest_14 rfl hr)⟩
    · rw [if_neg he] at hr
      by_cases he : e = exNo "java/lang/IllegalArgumentException"
      · rw [if_pos he] at hr
        exact ⟨"java/lang/IllegalArgumentException", 15, 3, 1, he.symm, by decide +kernel, by decide +kernel, Or.inl ⟨3, rfl, d_Law_farthest_15, rfl⟩, (Nat.le_of_ble_eq_true rfl), j_iconst (pc := 16) d_Law_farthest_16 (j_iret (pc := 17) d_Law_farthest_17 rfl hr)⟩
      · rw [if_neg he] at hr
        cases hr
  refine j_i2l (pc := 7) d_Law_farthest_7 ?_
  refine j_lastore (pc := 8) d_Law_farthest_8 hr (fun h3 hr => ?_)
  refine j_goto (pc := 9) (tgt := 18) d_Law_farthest_9 ?_
  refine j_iconst (pc := 18) d_Law_farthest_18 ?_
  exact j_iret (pc := 19) d_Law_farthest_19 rfl hr
def M_Law_within : mM := ("NineBarsLaw", ⟨"NineBarsLaw", "within", "(LNineBars;I[J)I"⟩, method_15_code, 4, some .int, [(0, 9, 12, 27), (0, 9, 15, 13)], 15)
theorem tb_co_Law_within : mTB (Cond.codeWith ⟨"NineBarsLaw", "within", "(LNineBars;I[J)I"⟩ method_15_code 4 (some .int) [(0, 9, 12, 27), (0, 9, 15, 13)]) := tbq5 76 (by decide +kernel) rfl
theorem mc_Law_within {M : mM} (hd : 15 < mDp M) : mCal M M_Law_within 3 := ⟨tb_co_Law_within, tb_in_NineBarsLaw, ⟨by decide +kernel, by decide +kernel⟩, by decide +kernel, hd, by decide⟩
theorem d_Law_within_0 : decode method_15_code 0 = .ok (.aload_n 2, 1) := by decide +kernel
theorem d_Law_within_1 : decode method_15_code 1 = .ok (.iconst 0, 1) := by decide +kernel
theorem d_Law_within_2 : decode method_15_code 2 = .ok (.aload_n 0, 1) := by decide +kernel
theorem d_Law_within_3 : decode method_15_code 3 = .ok (.iload_n 1, 1) := by decide +kernel
theorem d_Law_within_4 : decode method_15_code 4 = .ok (.invokevirtual 56, 3) := by decide +kernel
theorem tb_ml_Law_56 : mTB (Cond.methodLink "NineBarsLaw" 56 ⟨"NineBars", "within", "(I)I"⟩) := tbq5 77 (by decide +kernel) rfl
theorem d_Law_within_12 : decode method_15_code 12 = .ok (.astore_n 3, 1) := by decide +kernel
theorem d_Law_within_13 : decode method_15_code 13 = .ok (.iconst 1, 1) := by decide +kernel
theorem d_Law_within_14 : decode method_15_code 14 = .ok (.ireturn, 1) := by decide +kernel
theorem d_Law_within_15 : decode method_15_code 15 = .ok (.astore_n 3, 1) := by decide +kernel
theorem d_Law_within_16 : decode method_15_code 16 = .ok (.iconst 2, 1) := by decide +kernel
theorem d_Law_within_17 : decode method_15_code 17 = .ok (.ireturn, 1) := by decide +kernel
theorem tb_im_Nb_within : mTB (Cond.instanceMethod ⟨"NineBars", "within", "(I)I"⟩) := tbq5 78 (by decide +kernel) rfl
theorem tb_se_Nb_within : mTB (Cond.selects "NineBars" ⟨"NineBars", "within", "(I)I"⟩ ⟨"NineBars", "within", "(I)I"⟩) := tbq5 79 (by decide +kernel) rfl
theorem mv_Nb_within {M : mM} {idx : Nat} (h : mTB (Cond.methodLink (mO M) idx ⟨"NineBars", "within", "(I)I"⟩)) : mCaV M M_Nb_within idx 10 := ⟨h, tb_im_Nb_within, tb_se_Nb_within, by decide, TX10, 19, rfl⟩
theorem d_Law_within_7 : decode method_15_code 7 = .ok (.i2l, 1) := by decide +kernel
theorem d_Law_within_8 : decode method_15_code 8 = .ok (.lastore, 1) := by decide +kernel
theorem d_Law_within_9 : decode method_15_code 9 = .ok (.goto 9, 3) := by decide +kernel
theorem d_Law_within_18 : decode method_15_code 18 = .ok (.iconst 0, 1) := by decide +kernel
theorem d_Law_within_19 : decode method_15_code 19 = .ok (.ireturn, 1) := by decide +kernel
theorem t_Law_within {G : mG} (h : mH) (v0 v1 v2 : Int) (r : mR) (hr : f_Law_within h v0 v1 v2 = some r) : mJM G M_Law_within [(2, v0), (0, v1), (2, v2)] h r := by
  refine mJM_of (L := [(2, v0), (0, v1), (2, v2), (9, 0)]) rfl rfl rfl (Nat.le_of_ble_eq_true rfl) ?_
  unfold f_Law_within at hr
  refine j_aload_n (pc := 0) d_Law_within_0 rfl ?_
  refine j_iconst (pc := 1) d_Law_within_1 ?_
  refine j_aload_n (pc := 2) d_Law_within_2 rfl ?_
  refine j_iload_n (pc := 3) d_Law_within_3 rfl ?_
  obtain ⟨ha, hr⟩ := chk_some hr
  refine j_callC (pc := 4) (stk := [(0, v1), (2, v0), (0, 0), (2, v2)]) (as := [(2, v0), (0, v1)]) (P := (fun v9 => ((0 : Nat), v9) :: [(0, 0), (2, v2)])) (tg := 0) (ns := [("java/lang/IllegalStateException", 12), ("java/lang/IllegalArgumentException", 15)]) (mRunV (as := [(0, v1)]) (st := [(0, 0), (2, v2)]) d_Law_within_4 (mc_Nb_within (by decide)) rfl (mv_Nb_within tb_ml_Law_56) rfl (Nat.le_of_ble_eq_true rfl) ha) (fun v => rfl) ⟨⟨by decide, by decide, rfl, by decide⟩, by decide +kernel, tb_cl_Law_27, ⟨⟨by decide, by decide, rfl, by decide⟩, by decide +kernel, tb_cl_Law_13, trivial⟩⟩ hr (fun r1 h1 => t_Nb_within _ _ _ _ h1) (fun e h1 hr => ?_) (fun x2 h1 hr => ?_)
  · by_cases he : e = exNo "java/lang/IllegalStateException"
    · rw [if_pos he] at hr
      exact ⟨"java/lang/IllegalStateException", 12, 3, 1, he.symm, by decide +kernel, by decide +kernel, Or.inl ⟨3, rfl, d_Law_within_12, rfl⟩, (Nat.le_of_ble_eq_true rfl), j_iconst (pc := 13) d_Law_within_13 (j_iret (pc := 14) d_Law_within_14 rfl hr)⟩
    · rw [if_neg he] at hr
      by_cases he : e = exNo "java/lang/IllegalArgumentException"
      · rw [if_pos he] at hr
        exact ⟨"java/lang/IllegalArgumentException", 15, 3, 1, he.symm, by decide +kernel, by decide +kernel, Or.inl ⟨3, rfl, d_Law_within_15, rfl⟩, (Nat.le_of_ble_eq_true rfl), j_iconst (pc := 16) d_Law_within_16 (j_iret (pc := 17) d_Law_within_17 rfl hr)⟩
      · rw [if_neg he] at hr
        cases hr
  refine j_i2l (pc := 7) d_Law_within_7 ?_
  refine j_lastore (pc := 8) d_Law_within_8 hr (fun h3 hr => ?_)
  refine j_goto (pc := 9) (tgt := 18) d_Law_within_9 ?_
  refine j_iconst (pc := 18) d_Law_within_18 ?_
  exact j_iret (pc := 19) d_Law_within_19 rfl hr
def M_Law_fromStart : mM := ("NineBarsLaw", ⟨"NineBarsLaw", "fromStart", "(LNineBars;I[J)I"⟩, method_16_code, 4, some .int, [(0, 16, 19, 19), (0, 16, 22, 27)], 15)
theorem tb_co_Law_fromStart : mTB (Cond.codeWith ⟨"NineBarsLaw", "fromStart", "(LNineBars;I[J)I"⟩ method_16_code 4 (some .int) [(0, 16, 19, 19), (0, 16, 22, 27)]) := tbq5 88 (by decide +kernel) rfl
theorem mc_Law_fromStart {M : mM} (hd : 15 < mDp M) : mCal M M_Law_fromStart 3 := ⟨tb_co_Law_fromStart, tb_in_NineBarsLaw, ⟨by decide +kernel, by decide +kernel⟩, by decide +kernel, hd, by decide⟩
theorem d_Law_fromStart_0 : decode method_16_code 0 = .ok (.aload_n 2, 1) := by decide +kernel
theorem d_Law_fromStart_1 : decode method_16_code 1 = .ok (.iconst 0, 1) := by decide +kernel
theorem d_Law_fromStart_2 : decode method_16_code 2 = .ok (.aload_n 0, 1) := by decide +kernel
theorem d_Law_fromStart_3 : decode method_16_code 3 = .ok (.iload_n 1, 1) := by decide +kernel
theorem d_Law_fromStart_4 : decode method_16_code 4 = .ok (.invokevirtual 59, 3) := by decide +kernel
theorem tb_ml_Law_59 : mTB (Cond.methodLink "NineBarsLaw" 59 ⟨"NineBars", "fromStart", "(I)Z"⟩) := tbq5 89 (by decide +kernel) rfl
theorem d_Law_fromStart_19 : decode method_16_code 19 = .ok (.astore_n 3, 1) := by decide +kernel
theorem d_Law_fromStart_20 : decode method_16_code 20 = .ok (.iconst 1, 1) := by decide +kernel
theorem d_Law_fromStart_21 : decode method_16_code 21 = .ok (.ireturn, 1) := by decide +kernel
theorem d_Law_fromStart_22 : decode method_16_code 22 = .ok (.astore_n 3, 1) := by decide +kernel
theorem d_Law_fromStart_23 : decode method_16_code 23 = .ok (.iconst 2, 1) := by decide +kernel
theorem d_Law_fromStart_24 : decode method_16_code 24 = .ok (.ireturn, 1) := by decide +kernel
theorem tb_im_Nb_fromStart : mTB (Cond.instanceMethod ⟨"NineBars", "fromStart", "(I)Z"⟩) := tbq5 90 (by decide +kernel) rfl
theorem tb_se_Nb_fromStart : mTB (Cond.selects "NineBars" ⟨"NineBars", "fromStart", "(I)Z"⟩ ⟨"NineBars", "fromStart", "(I)Z"⟩) := tbq5 91 (by decide +kernel) rfl
theorem mv_Nb_fromStart {M : mM} {idx : Nat} (h : mTB (Cond.methodLink (mO M) idx ⟨"NineBars", "fromStart", "(I)Z"⟩)) : mCaV M M_Nb_fromStart idx 10 := ⟨h, tb_im_Nb_fromStart, tb_se_Nb_fromStart, by decide, TX10, 19, rfl⟩
theorem d_Law_fromStart_7 : decode method_16_code 7 = .ok (.ifCond .eq 7, 3) := by decide +kernel
theorem d_Law_fromStart_14 : decode method_16_code 14 = .ok (.lconst 0, 1) := by decide +kernel
theorem d_Law_fromStart_15 : decode method_16_code 15 = .ok (.lastore, 1) := by decide +kernel
theorem d_Law_fromStart_16 : decode method_16_code 16 = .ok (.goto 9, 3) := by decide +kernel
theorem d_Law_fromStart_25 : decode method_16_code 25 = .ok (.iconst 0, 1) := by decide +kernel
theorem d_Law_fromStart_26 : decode method_16_code 26 = .ok (.ireturn, 1) := by decide +kernel
theorem d_Law_fromStart_10 : decode method_16_code 10 = .ok (.lconst 1, 1) := by decide +kernel
theorem d_Law_fromStart_11 : decode method_16_code 11 = .ok (.goto 4, 3) := by decide +kernel
theorem t_Law_fromStart_J15 {G : mG} {r : mR} {s0 s1 s2 : Int} {h : mH}  (hr : f_Law_fromStart_J15 s0 s1 s2 h = some r) : mJ G M_Law_fromStart 15 [(9, 0), (9, 0), (9, 0), (9, 0)] [(1, s2), (0, s1), (2, s0)] h r := by
  unfold f_Law_fromStart_J15 at hr
  refine j_lastore (pc := 15) d_Law_fromStart_15 hr (fun h1 hr => ?_)
  refine j_goto (pc := 16) (tgt := 25) d_Law_fromStart_16 ?_
  refine j_iconst (pc := 25) d_Law_fromStart_25 ?_
  exact j_iret (pc := 26) d_Law_fromStart_26 rfl hr
theorem t_Law_fromStart {G : mG} (h : mH) (v0 v1 v2 : Int) (r : mR) (hr : f_Law_fromStart h v0 v1 v2 = some r) : mJM G M_Law_fromStart [(2, v0), (0, v1), (2, v2)] h r := by
  refine mJM_of (L := [(2, v0), (0, v1), (2, v2), (9, 0)]) rfl rfl rfl (Nat.le_of_ble_eq_true rfl) ?_
  unfold f_Law_fromStart at hr
  refine j_aload_n (pc := 0) d_Law_fromStart_0 rfl ?_
  refine j_iconst (pc := 1) d_Law_fromStart_1 ?_
  refine j_aload_n (pc := 2) d_Law_fromStart_2 rfl ?_
  refine j_iload_n (pc := 3) d_Law_fromStart_3 rfl ?_
  obtain ⟨ha, hr⟩ := chk_some hr
  refine j_callC (pc := 4) (stk := [(0, v1), (2, v0), (0, 0), (2, v2)]) (as := [(2, v0), (0, v1)]) (P := (fun v9 => ((0 : Nat), v9) :: [(0, 0), (2, v2)])) (tg := 0) (ns := [("java/util/NoSuchElementException", 19), ("java/lang/IllegalStateException", 22)]) (mRunV (as := [(0, v1)]) (st := [(0, 0), (2, v2)]) d_Law_fromStart_4 (mc_Nb_fromStart (by decide)) rfl (mv_Nb_fromStart tb_ml_Law_59) rfl (Nat.le_of_ble_eq_true rfl) ha) (fun v => rfl) ⟨⟨by decide, by decide, rfl, by decide⟩, by decide +kernel, tb_cl_Law_19, ⟨⟨by decide, by decide, rfl, by decide⟩, by decide +kernel, tb_cl_Law_27, trivial⟩⟩ hr (fun r1 h1 => t_Nb_fromStart _ _ _ _ h1) (fun e h1 hr => ?_) (fun x2 h1 hr => ?_)
  · by_cases he : e = exNo "java/util/NoSuchElementException"
    · rw [if_pos he] at hr
      exact ⟨"java/util/NoSuchElementException", 19, 3, 1, he.symm, by decide +kernel, by decide +kernel, Or.inl ⟨3, rfl, d_Law_fromStart_19, rfl⟩, (Nat.le_of_ble_eq_true rfl), j_iconst (pc := 20) d_Law_fromStart_20 (j_iret (pc := 21) d_Law_fromStart_21 rfl hr)⟩
    · rw [if_neg he] at hr
      by_cases he : e = exNo "java/lang/IllegalStateException"
      · rw [if_pos he] at hr
        exact ⟨"java/lang/IllegalStateException", 22, 3, 1, he.symm, by decide +kernel, by decide +kernel, Or.inl ⟨3, rfl, d_Law_fromStart_22, rfl⟩, (Nat.le_of_ble_eq_true rfl), j_iconst (pc := 23) d_Law_fromStart_23 (j_iret (pc := 24) d_Law_fromStart_24 rfl hr)⟩
      · rw [if_neg he] at hr
        cases hr
  refine j_if_eq (pc := 7) (tgt := 14) d_Law_fromStart_7 hr (fun hr => ?_) (fun hr => ?_)
  · refine j_lconst (pc := 14) (z := 0) d_Law_fromStart_14 ?_
    exact mJ_weak (ls' := [(9, 0), (9, 0), (9, 0), (9, 0)]) (mwk_d (mwk_d (mwk_d (mwk_s mwk_n)))) (t_Law_fromStart_J15  hr)
  · refine j_lconst (pc := 10) (z := 1) d_Law_fromStart_10 ?_
    refine j_goto (pc := 11) (tgt := 15) d_Law_fromStart_11 ?_
    exact mJ_weak (ls' := [(9, 0), (9, 0), (9, 0), (9, 0)]) (mwk_d (mwk_d (mwk_d (mwk_s mwk_n)))) (t_Law_fromStart_J15  hr)
def M_Law_dead : mM := ("NineBarsLaw", ⟨"NineBarsLaw", "dead", "(LNineBars;I[J)I"⟩, method_17_code, 4, some .int, [(0, 9, 12, 27), (0, 9, 15, 13)], 15)
theorem tb_co_Law_dead : mTB (Cond.codeWith ⟨"NineBarsLaw", "dead", "(LNineBars;I[J)I"⟩ method_17_code 4 (some .int) [(0, 9, 12, 27), (0, 9, 15, 13)]) := tbq5 95 (by decide +kernel) rfl
theorem mc_Law_dead {M : mM} (hd : 15 < mDp M) : mCal M M_Law_dead 3 := ⟨tb_co_Law_dead, tb_in_NineBarsLaw, ⟨by decide +kernel, by decide +kernel⟩, by decide +kernel, hd, by decide⟩
theorem d_Law_dead_0 : decode method_17_code 0 = .ok (.aload_n 2, 1) := by decide +kernel
theorem d_Law_dead_1 : decode method_17_code 1 = .ok (.iconst 0, 1) := by decide +kernel
theorem d_Law_dead_2 : decode method_17_code 2 = .ok (.aload_n 0, 1) := by decide +kernel
theorem d_Law_dead_3 : decode method_17_code 3 = .ok (.iload_n 1, 1) := by decide +kernel
theorem d_Law_dead_4 : decode method_17_code 4 = .ok (.invokevirtual 62, 3) := by decide +kernel
theorem tb_ml_Law_62 : mTB (Cond.methodLink "NineBarsLaw" 62 ⟨"NineBars", "dead", "(I)I"⟩) := tbq5 96 (by decide +kernel) rfl
theorem d_Law_dead_12 : decode method_17_code 12 = .ok (.astore_n 3, 1) := by decide +kernel
theorem d_Law_dead_13 : decode method_17_code 13 = .ok (.iconst 1, 1) := by decide +kernel
theorem d_Law_dead_14 : decode method_17_code 14 = .ok (.ireturn, 1) := by decide +kernel
theorem d_Law_dead_15 : decode method_17_code 15 = .ok (.astore_n 3, 1) := by decide +kernel
theorem d_Law_dead_16 : decode method_17_code 16 = .ok (.iconst 2, 1) := by decide +kernel
theorem d_Law_dead_17 : decode method_17_code 17 = .ok (.ireturn, 1) := by decide +kernel
theorem tb_im_Nb_dead : mTB (Cond.instanceMethod ⟨"NineBars", "dead", "(I)I"⟩) := tbq5 97 (by decide +kernel) rfl
theorem tb_se_Nb_dead : mTB (Cond.selects "NineBars" ⟨"NineBars", "dead", "(I)I"⟩ ⟨"NineBars", "dead", "(I)I"⟩) := tbq5 98 (by decide +kernel) rfl
theorem mv_Nb_dead {M : mM} {idx : Nat} (h : mTB (Cond.methodLink (mO M) idx ⟨"NineBars", "dead", "(I)I"⟩)) : mCaV M M_Nb_dead idx 10 := ⟨h, tb_im_Nb_dead, tb_se_Nb_dead, by decide, TX10, 19, rfl⟩
theorem d_Law_dead_7 : decode method_17_code 7 = .ok (.i2l, 1) := by decide +kernel
theorem d_Law_dead_8 : decode method_17_code 8 = .ok (.lastore, 1) := by decide +kernel
theorem d_Law_dead_9 : decode method_17_code 9 = .ok (.goto 9, 3) := by decide +kernel
theorem d_Law_dead_18 : decode method_17_code 18 = .ok (.iconst 0, 1) := by decide +kernel
theorem d_Law_dead_19 : decode method_17_code 19 = .ok (.ireturn, 1) := by decide +kernel
theorem t_Law_dead {G : mG} (h : mH) (v0 v1 v2 : Int) (r : mR) (hr : f_Law_dead h v0 v1 v2 = some r) : mJM G M_Law_dead [(2, v0), (0, v1), (2, v2)] h r := by
  refine mJM_of (L := [(2, v0), (0, v1), (2, v2), (9, 0)]) rfl rfl rfl (Nat.le_of_ble_eq_true rfl) ?_
  unfold f_Law_dead at hr
  refine j_aload_n (pc := 0) d_Law_dead_0 rfl ?_
  refine j_iconst (pc := 1) d_Law_dead_1 ?_
  refine j_aload_n (pc := 2) d_Law_dead_2 rfl ?_
  refine j_iload_n (pc := 3) d_Law_dead_3 rfl ?_
  obtain ⟨ha, hr⟩ := chk_some hr
  refine j_callC (pc := 4) (stk := [(0, v1), (2, v0), (0, 0), (2, v2)]) (as := [(2, v0), (0, v1)]) (P := (fun v9 => ((0 : Nat), v9) :: [(0, 0), (2, v2)])) (tg := 0) (ns := [("java/lang/IllegalStateException", 12), ("java/lang/IllegalArgumentException", 15)]) (mRunV (as := [(0, v1)]) (st := [(0, 0), (2, v2)]) d_Law_dead_4 (mc_Nb_dead (by decide)) rfl (mv_Nb_dead tb_ml_Law_62) rfl (Nat.le_of_ble_eq_true rfl) ha) (fun v => rfl) ⟨⟨by decide, by decide, rfl, by decide⟩, by decide +kernel, tb_cl_Law_27, ⟨⟨by decide, by decide, rfl, by decide⟩, by decide +kernel, tb_cl_Law_13, trivial⟩⟩ hr (fun r1 h1 => t_Nb_dead _ _ _ _ h1) (fun e h1 hr => ?_) (fun x2 h1 hr => ?_)
  · by_cases he : e = exNo "java/lang/IllegalStateException"
    · rw [if_pos he] at hr
      exact ⟨"java/lang/IllegalStateException", 12, 3, 1, he.symm, by decide +kernel, by decide +kernel, Or.inl ⟨3, rfl, d_Law_dead_12, rfl⟩, (Nat.le_of_ble_eq_true rfl), j_iconst (pc := 13) d_Law_dead_13 (j_iret (pc := 14) d_Law_dead_14 rfl hr)⟩
    · rw [if_neg he] at hr
      by_cases he : e = exNo "java/lang/IllegalArgumentException"
      · rw [if_pos he] at hr
        exact ⟨"java/lang/IllegalArgumentException", 15, 3, 1, he.symm, by decide +kernel, by decide +kernel, Or.inl ⟨3, rfl, d_Law_dead_15, rfl⟩, (Nat.le_of_ble_eq_true rfl), j_iconst (pc := 16) d_Law_dead_16 (j_iret (pc := 17) d_Law_dead_17 rfl hr)⟩
      · rw [if_neg he] at hr
        cases hr
  refine j_i2l (pc := 7) d_Law_dead_7 ?_
  refine j_lastore (pc := 8) d_Law_dead_8 hr (fun h3 hr => ?_)
  refine j_goto (pc := 9) (tgt := 18) d_Law_dead_9 ?_
  refine j_iconst (pc := 18) d_Law_dead_18 ?_
  exact j_iret (pc := 19) d_Law_dead_19 rfl hr
def M_Law_oneWays : mM := ("NineBarsLaw", ⟨"NineBarsLaw", "oneWays", "(LNineBars;[J)I"⟩, method_18_code, 3, some .int, [(0, 8, 11, 27)], 15)
theorem tb_co_Law_oneWays : mTB (Cond.codeWith ⟨"NineBarsLaw", "oneWays", "(LNineBars;[J)I"⟩ method_18_code 3 (some .int) [(0, 8, 11, 27)]) := tbq5 102 (by decide +kernel) rfl
theorem mc_Law_oneWays {M : mM} (hd : 15 < mDp M) : mCal M M_Law_oneWays 2 := ⟨tb_co_Law_oneWays, tb_in_NineBarsLaw, ⟨by decide +kernel, by decide +kernel⟩, by decide +kernel, hd, by decide⟩
theorem d_Law_oneWays_0 : decode method_18_code 0 = .ok (.aload_n 1, 1) := by decide +kernel
theorem d_Law_oneWays_1 : decode method_18_code 1 = .ok (.iconst 0, 1) := by decide +kernel
theorem d_Law_oneWays_2 : decode method_18_code 2 = .ok (.aload_n 0, 1) := by decide +kernel
theorem d_Law_oneWays_3 : decode method_18_code 3 = .ok (.invokevirtual 65, 3) := by decide +kernel
theorem tb_ml_Law_65 : mTB (Cond.methodLink "NineBarsLaw" 65 ⟨"NineBars", "oneWays", "()I"⟩) := tbq5 103 (by decide +kernel) rfl
theorem d_Law_oneWays_11 : decode method_18_code 11 = .ok (.astore_n 2, 1) := by decide +kernel
theorem d_Law_oneWays_12 : decode method_18_code 12 = .ok (.iconst 1, 1) := by decide +kernel
theorem d_Law_oneWays_13 : decode method_18_code 13 = .ok (.ireturn, 1) := by decide +kernel
theorem tb_im_Nb_oneWays : mTB (Cond.instanceMethod ⟨"NineBars", "oneWays", "()I"⟩) := tbq5 104 (by decide +kernel) rfl
theorem tb_se_Nb_oneWays : mTB (Cond.selects "NineBars" ⟨"NineBars", "oneWays", "()I"⟩ ⟨"NineBars", "oneWays", "()I"⟩) := tbq5 105 (by decide +kernel) rfl
theorem mv_Nb_oneWays {M : mM} {idx : Nat} (h : mTB (Cond.methodLink (mO M) idx ⟨"NineBars", "oneWays", "()I"⟩)) : mCaV M M_Nb_oneWays idx 10 := ⟨h, tb_im_Nb_oneWays, tb_se_Nb_oneWays, by decide, TX10, 19, rfl⟩
theorem d_Law_oneWays_6 : decode method_18_code 6 = .ok (.i2l, 1) := by decide +kernel
theorem d_Law_oneWays_7 : decode method_18_code 7 = .ok (.lastore, 1) := by decide +kernel
theorem d_Law_oneWays_8 : decode method_18_code 8 = .ok (.goto 6, 3) := by decide +kernel
theorem d_Law_oneWays_14 : decode method_18_code 14 = .ok (.iconst 0, 1) := by decide +kernel
theorem d_Law_oneWays_15 : decode method_18_code 15 = .ok (.ireturn, 1) := by decide +kernel
theorem t_Law_oneWays {G : mG} (h : mH) (v0 v1 : Int) (r : mR) (hr : f_Law_oneWays h v0 v1 = some r) : mJM G M_Law_oneWays [(2, v0), (2, v1)] h r := by
  refine mJM_of (L := [(2, v0), (2, v1), (9, 0)]) rfl rfl rfl (Nat.le_of_ble_eq_true rfl) ?_
  unfold f_Law_oneWays at hr
  refine j_aload_n (pc := 0) d_Law_oneWays_0 rfl ?_
  refine j_iconst (pc := 1) d_Law_oneWays_1 ?_
  refine j_aload_n (pc := 2) d_Law_oneWays_2 rfl ?_
  obtain ⟨ha, hr⟩ := chk_some hr
  refine j_callC (pc := 3) (stk := [(2, v0), (0, 0), (2, v1)]) (as := [(2, v0)]) (P := (fun v9 => ((0 : Nat), v9) :: [(0, 0), (2, v1)])) (tg := 0) (ns := [("java/lang/IllegalStateException", 11)]) (mRunV (as := []) (st := [(0, 0), (2, v1)]) d_Law_oneWays_3 (mc_Nb_oneWays (by decide)) rfl (mv_Nb_oneWays tb_ml_Law_65) rfl (Nat.le_of_ble_eq_true rfl) ha) (fun v => rfl) ⟨⟨by decide, by decide, rfl, by decide⟩, by decide +kernel, tb_cl_Law_27, trivial⟩ hr (fun r1 h1 => t_Nb_oneWays _ _ _ h1) (fun e h1 hr => ?_) (fun x2 h1 hr => ?_)
  · by_cases he : e = exNo "java/lang/IllegalStateException"
    · rw [if_pos he] at hr
      exact ⟨"java/lang/IllegalStateException", 11, 2, 1, he.symm, by decide +kernel, by decide +kernel, Or.inl ⟨2, rfl, d_Law_oneWays_11, rfl⟩, (Nat.le_of_ble_eq_true rfl), j_iconst (pc := 12) d_Law_oneWays_12 (j_iret (pc := 13) d_Law_oneWays_13 rfl hr)⟩
    · rw [if_neg he] at hr
      cases hr
  refine j_i2l (pc := 6) d_Law_oneWays_6 ?_
  refine j_lastore (pc := 7) d_Law_oneWays_7 hr (fun h3 hr => ?_)
  refine j_goto (pc := 8) (tgt := 14) d_Law_oneWays_8 ?_
  refine j_iconst (pc := 14) d_Law_oneWays_14 ?_
  exact j_iret (pc := 15) d_Law_oneWays_15 rfl hr
def M_Law_fewestOf : mM := ("NineBarsLaw", ⟨"NineBarsLaw", "fewestOf", "(LNineBars;I[J)I"⟩, method_19_code, 4, some .int, [(0, 9, 12, 19), (0, 9, 15, 27)], 15)
theorem tb_co_Law_fewestOf : mTB (Cond.codeWith ⟨"NineBarsLaw", "fewestOf", "(LNineBars;I[J)I"⟩ method_19_code 4 (some .int) [(0, 9, 12, 19), (0, 9, 15, 27)]) := tbq5 114 (by decide +kernel) rfl
theorem mc_Law_fewestOf {M : mM} (hd : 15 < mDp M) : mCal M M_Law_fewestOf 3 := ⟨tb_co_Law_fewestOf, tb_in_NineBarsLaw, ⟨by decide +kernel, by decide +kernel⟩, by decide +kernel, hd, by decide⟩
theorem d_Law_fewestOf_0 : decode method_19_code 0 = .ok (.aload_n 2, 1) := by decide +kernel
theorem d_Law_fewestOf_1 : decode method_19_code 1 = .ok (.iconst 0, 1) := by decide +kernel
theorem d_Law_fewestOf_2 : decode method_19_code 2 = .ok (.aload_n 0, 1) := by decide +kernel
theorem d_Law_fewestOf_3 : decode method_19_code 3 = .ok (.iload_n 1, 1) := by decide +kernel
theorem d_Law_fewestOf_4 : decode method_19_code 4 = .ok (.invokevirtual 69, 3) := by decide +kernel
theorem tb_ml_Law_69 : mTB (Cond.methodLink "NineBarsLaw" 69 ⟨"NineBars", "fewestOf", "(I)I"⟩) := tbq5 115 (by decide +kernel) rfl
theorem d_Law_fewestOf_12 : decode method_19_code 12 = .ok (.astore_n 3, 1) := by decide +kernel
theorem d_Law_fewestOf_13 : decode method_19_code 13 = .ok (.iconst 1, 1) := by decide +kernel
theorem d_Law_fewestOf_14 : decode method_19_code 14 = .ok (.ireturn, 1) := by decide +kernel
theorem d_Law_fewestOf_15 : decode method_19_code 15 = .ok (.astore_n 3, 1) := by decide +kernel
theorem d_Law_fewestOf_16 : decode method_19_code 16 = .ok (.iconst 2, 1) := by decide +kernel
theorem d_Law_fewestOf_17 : decode method_19_code 17 = .ok (.ireturn, 1) := by decide +kernel
theorem tb_im_Nb_fewestOf : mTB (Cond.instanceMethod ⟨"NineBars", "fewestOf", "(I)I"⟩) := tbq5 116 (by decide +kernel) rfl
theorem tb_se_Nb_fewestOf : mTB (Cond.selects "NineBars" ⟨"NineBars", "fewestOf", "(I)I"⟩ ⟨"NineBars", "fewestOf", "(I)I"⟩) := tbq5 117 (by decide +kernel) rfl
theorem mv_Nb_fewestOf {M : mM} {idx : Nat} (h : mTB (Cond.methodLink (mO M) idx ⟨"NineBars", "fewestOf", "(I)I"⟩)) : mCaV M M_Nb_fewestOf idx 10 := ⟨h, tb_im_Nb_fewestOf, tb_se_Nb_fewestOf, by decide, TX10, 19, rfl⟩
theorem d_Law_fewestOf_7 : decode method_19_code 7 = .ok (.i2l, 1) := by decide +kernel
theorem d_Law_fewestOf_8 : decode method_19_code 8 = .ok (.lastore, 1) := by decide +kernel
theorem d_Law_fewestOf_9 : decode method_19_code 9 = .ok (.goto 9, 3) := by decide +kernel
theorem d_Law_fewestOf_18 : decode method_19_code 18 = .ok (.iconst 0, 1) := by decide +kernel
theorem d_Law_fewestOf_19 : decode method_19_code 19 = .ok (.ireturn, 1) := by decide +kernel
theorem t_Law_fewestOf {G : mG} (h : mH) (v0 v1 v2 : Int) (r : mR) (hr : f_Law_fewestOf h v0 v1 v2 = some r) : mJM G M_Law_fewestOf [(2, v0), (0, v1), (2, v2)] h r := by
  refine mJM_of (L := [(2, v0), (0, v1), (2, v2), (9, 0)]) rfl rfl rfl (Nat.le_of_ble_eq_true rfl) ?_
  unfold f_Law_fewestOf at hr
  refine j_aload_n (pc := 0) d_Law_fewestOf_0 rfl ?_
  refine j_iconst (pc := 1) d_Law_fewestOf_1 ?_
  refine j_aload_n (pc := 2) d_Law_fewestOf_2 rfl ?_
  refine j_iload_n (pc := 3) d_Law_fewestOf_3 rfl ?_
  obtain ⟨ha, hr⟩ := chk_some hr
  refine j_callC (pc := 4) (stk := [(0, v1), (2, v0), (0, 0), (2, v2)]) (as := [(2, v0), (0, v1)]) (P := (fun v9 => ((0 : Nat), v9) :: [(0, 0), (2, v2)])) (tg := 0) (ns := [("java/util/NoSuchElementException", 12), ("java/lang/IllegalStateException", 15)]) (mRunV (as := [(0, v1)]) (st := [(0, 0), (2, v2)]) d_Law_fewestOf_4 (mc_Nb_fewestOf (by decide)) rfl (mv_Nb_fewestOf tb_ml_Law_69) rfl (Nat.le_of_ble_eq_true rfl) ha) (fun v => rfl) ⟨⟨by decide, by decide, rfl, by decide⟩, by decide +kernel, tb_cl_Law_19, ⟨⟨by decide, by decide, rfl, by decide⟩, by decide +kernel, tb_cl_Law_27, trivial⟩⟩ hr (fun r1 h1 => t_Nb_fewestOf _ _ _ _ h1) (fun e h1 hr => ?_) (fun x2 h1 hr => ?_)
  · by_cases he : e = exNo "java/util/NoSuchElementException"
    · rw [if_pos he] at hr
      exact ⟨"java/util/NoSuchElementException", 12, 3, 1, he.symm, by decide +kernel, by decide +kernel, Or.inl ⟨3, rfl, d_Law_fewestOf_12, rfl⟩, (Nat.le_of_ble_eq_true rfl), j_iconst (pc := 13) d_Law_fewestOf_13 (j_iret (pc := 14) d_Law_fewestOf_14 rfl hr)⟩
    · rw [if_neg he] at hr
      by_cases he : e = exNo "java/lang/IllegalStateException"
      · rw [if_pos he] at hr
        exact ⟨"java/lang/IllegalStateException", 15, 3, 1, he.symm, by decide +kernel, by decide +kernel, Or.inl ⟨3, rfl, d_Law_fewestOf_15, rfl⟩, (Nat.le_of_ble_eq_true rfl), j_iconst (pc := 16) d_Law_fewestOf_16 (j_iret (pc := 17) d_Law_fewestOf_17 rfl hr)⟩
      · rw [if_neg he] at hr
        cases hr
  refine j_i2l (pc := 7) d_Law_fewestOf_7 ?_
  refine j_lastore (pc := 8) d_Law_fewestOf_8 hr (fun h3 hr => ?_)
  refine j_goto (pc := 9) (tgt := 18) d_Law_fewestOf_9 ?_
  refine j_iconst (pc := 18) d_Law_fewestOf_18 ?_
  exact j_iret (pc := 19) d_Law_fewestOf_19 rfl hr
def M_Law_musts : mM := ("NineBarsLaw", ⟨"NineBarsLaw", "musts", "(LNineBars;I[J)I"⟩, method_20_code, 4, some .int, [(0, 9, 12, 27), (0, 9, 15, 13)], 15)
theorem tb_co_Law_musts : mTB (Cond.codeWith ⟨"NineBarsLaw", "musts", "(LNineBars;I[J)I"⟩ method_20_code 4 (some .int) [(0, 9, 12, 27), (0, 9, 15, 13)]) := tbq5 126 (by decide +kernel) rfl
theorem mc_Law_musts {M : mM} (hd : 15 < mDp M) : mCal M M_Law_musts 3 := ⟨tb_co_Law_musts, tb_in_NineBarsLaw, ⟨by decide +kernel, by decide +kernel⟩, by decide +kernel, hd, by decide⟩
theorem d_Law_musts_0 : decode method_20_code 0 = .ok (.aload_n 2, 1) := by decide +kernel
theorem d_Law_musts_1 : decode method_20_code 1 = .ok (.iconst 0, 1) := by decide +kernel
theorem d_Law_musts_2 : decode method_20_code 2 = .ok (.aload_n 0, 1) := by decide +kernel
theorem d_Law_musts_3 : decode method_20_code 3 = .ok (.iload_n 1, 1) := by decide +kernel
theorem d_Law_musts_4 : decode method_20_code 4 = .ok (.invokevirtual 72, 3) := by decide +kernel
theorem tb_ml_Law_72 : mTB (Cond.methodLink "NineBarsLaw" 72 ⟨"NineBars", "musts", "(I)I"⟩) := tbq5 127 (by decide +kernel) rfl
theorem d_Law_musts_12 : decode method_20_code 12 = .ok (.astore_n 3, 1) := by decide +kernel
theorem d_Law_musts_13 : decode method_20_code 13 = .ok (.iconst 1, 1) := by decide +kernel
theorem d_Law_musts_14 : decode method_20_code 14 = .ok (.ireturn, 1) := by decide +kernel
theorem d_Law_musts_15 : decode method_20_code 15 = .ok (.astore_n 3, 1) := by decide +kernel
theorem d_Law_musts_16 : decode method_20_code 16 = .ok (.iconst 2, 1) := by decide +kernel
theorem d_Law_musts_17 : decode method_20_code 17 = .ok (.ireturn, 1) := by decide +kernel
theorem tb_im_Nb_musts : mTB (Cond.instanceMethod ⟨"NineBars", "musts", "(I)I"⟩) := tbq5 128 (by decide +kernel) rfl
theorem tb_se_Nb_musts : mTB (Cond.selects "NineBars" ⟨"NineBars", "musts", "(I)I"⟩ ⟨"NineBars", "musts", "(I)I"⟩) := tbq5 129 (by decide +kernel) rfl
theorem mv_Nb_musts {M : mM} {idx : Nat} (h : mTB (Cond.methodLink (mO M) idx ⟨"NineBars", "musts", "(I)I"⟩)) : mCaV M M_Nb_musts idx 10 := ⟨h, tb_im_Nb_musts, tb_se_Nb_musts, by decide, TX10, 19, rfl⟩
theorem d_Law_musts_7 : decode method_20_code 7 = .ok (.i2l, 1) := by decide +kernel
theorem d_Law_musts_8 : decode method_20_code 8 = .ok (.lastore, 1) := by decide +kernel
theorem d_Law_musts_9 : decode method_20_code 9 = .ok (.goto 9, 3) := by decide +kernel
theorem d_Law_musts_18 : decode method_20_code 18 = .ok (.iconst 0, 1) := by decide +kernel
theorem d_Law_musts_19 : decode method_20_code 19 = .ok (.ireturn, 1) := by decide +kernel
theorem t_Law_musts {G : mG} (h : mH) (v0 v1 v2 : Int) (r : mR) (hr : f_Law_musts h v0 v1 v2 = some r) : mJM G M_Law_musts [(2, v0), (0, v1), (2, v2)] h r := by
  refine mJM_of (L := [(2, v0), (0, v1), (2, v2), (9, 0)]) rfl rfl rfl (Nat.le_of_ble_eq_true rfl) ?_
  unfold f_Law_musts at hr
  refine j_aload_n (pc := 0) d_Law_musts_0 rfl ?_
  refine j_iconst (pc := 1) d_Law_musts_1 ?_
  refine j_aload_n (pc := 2) d_Law_musts_2 rfl ?_
  refine j_iload_n (pc := 3) d_Law_musts_3 rfl ?_
  obtain ⟨ha, hr⟩ := chk_some hr
  refine j_callC (pc := 4) (stk := [(0, v1), (2, v0), (0, 0), (2, v2)]) (as := [(2, v0), (0, v1)]) (P := (fun v9 => ((0 : Nat), v9) :: [(0, 0), (2, v2)])) (tg := 0) (ns := [("java/lang/IllegalStateException", 12), ("java/lang/IllegalArgumentException", 15)]) (mRunV (as := [(0, v1)]) (st := [(0, 0), (2, v2)]) d_Law_musts_4 (mc_Nb_musts (by decide)) rfl (mv_Nb_musts tb_ml_Law_72) rfl (Nat.le_of_ble_eq_true rfl) ha) (fun v => rfl) ⟨⟨by decide, by decide, rfl, by decide⟩, by decide +kernel, tb_cl_Law_27, ⟨⟨by decide, by decide, rfl, by decide⟩, by decide +kernel, tb_cl_Law_13, trivial⟩⟩ hr (fun r1 h1 => t_Nb_musts _ _ _ _ h1) (fun e h1 hr => ?_) (fun x2 h1 hr => ?_)
  · by_cases he : e = exNo "java/lang/IllegalStateException"
    · rw [if_pos he] at hr
      exact ⟨"java/lang/IllegalStateException", 12, 3, 1, he.symm, by decide +kernel, by decide +kernel, Or.inl ⟨3, rfl, d_Law_musts_12, rfl⟩, (Nat.le_of_ble_eq_true rfl), j_iconst (pc := 13) d_Law_musts_13 (j_iret (pc := 14) d_Law_musts_14 rfl hr)⟩
    · rw [if_neg he] at hr
      by_cases he : e = exNo "java/lang/IllegalArgumentException"
      · rw [if_pos he] at hr
        exact ⟨"java/lang/IllegalArgumentException", 15, 3, 1, he.symm, by decide +kernel, by decide +kernel, Or.inl ⟨3, rfl, d_Law_musts_15, rfl⟩, (Nat.le_of_ble_eq_true rfl), j_iconst (pc := 16) d_Law_musts_16 (j_iret (pc := 17) d_Law_musts_17 rfl hr)⟩
      · rw [if_neg he] at hr
        cases hr
  refine j_i2l (pc := 7) d_Law_musts_7 ?_
  refine j_lastore (pc := 8) d_Law_musts_8 hr (fun h3 hr => ?_)
  refine j_goto (pc := 9) (tgt := 18) d_Law_musts_9 ?_
  refine j_iconst (pc := 18) d_Law_musts_18 ?_
  exact j_iret (pc := 19) d_Law_musts_19 rfl hr
def M_Law_halves : mM := ("NineBarsLaw", ⟨"NineBarsLaw", "halves", "(LNineBars;II[J)I"⟩, method_21_code, 5, some .int, [(0, 10, 13, 13)], 5)
theorem tb_co_Law_halves : mTB (Cond.codeWith ⟨"NineBarsLaw", "halves", "(LNineBars;II[J)I"⟩ method_21_code 5 (some .int) [(0, 10, 13, 13)]) := tbq5 138 (by decide +kernel) rfl
theorem mc_Law_halves {M : mM} (hd : 5 < mDp M) : mCal M M_Law_halves 4 := ⟨tb_co_Law_halves, tb_in_NineBarsLaw, ⟨by decide +kernel, by decide +kernel⟩, by decide +kernel, hd, by decide⟩
theorem d_Law_halves_0 : decode method_21_code 0 = .ok (.aload_n 3, 1) := by decide +kernel
theorem d_Law_halves_1 : decode method_21_code 1 = .ok (.iconst 0, 1) := by decide +kernel
theorem d_Law_halves_2 : decode method_21_code 2 = .ok (.aload_n 0, 1) := by decide +kernel
theorem d_Law_halves_3 : decode method_21_code 3 = .ok (.iload_n 1, 1) := by decide +kernel
theorem d_Law_halves_4 : decode method_21_code 4 = .ok (.iload_n 2, 1) := by decide +kernel
theorem d_Law_halves_5 : decode method_21_code 5 = .ok (.invokevirtual 75, 3) := by decide +kernel
theorem tb_ml_Law_75 : mTB (Cond.methodLink "NineBarsLaw" 75 ⟨"NineBars", "halves", "(II)I"⟩) := tbq5 139 (by decide +kernel) rfl
theorem d_Law_halves_13 : decode method_21_code 13 = .ok (.astore 4, 2) := by decide +kernel
theorem d_Law_halves_15 : decode method_21_code 15 = .ok (.iconst 1, 1) := by decide +kernel
theorem d_Law_halves_16 : decode method_21_code 16 = .ok (.ireturn, 1) := by decide +kernel
theorem tb_im_Nb_halves : mTB (Cond.instanceMethod ⟨"NineBars", "halves", "(II)I"⟩) := tbq5 140 (by decide +kernel) rfl
theorem tb_se_Nb_halves : mTB (Cond.selects "NineBars" ⟨"NineBars", "halves", "(II)I"⟩ ⟨"NineBars", "halves", "(II)I"⟩) := tbq5 141 (by decide +kernel) rfl
theorem mv_Nb_halves {M : mM} {idx : Nat} (h : mTB (Cond.methodLink (mO M) idx ⟨"NineBars", "halves", "(II)I"⟩)) : mCaV M M_Nb_halves idx 10 := ⟨h, tb_im_Nb_halves, tb_se_Nb_halves, by decide, TX10, 19, rfl⟩
theorem d_Law_halves_8 : decode method_21_code 8 = .ok (.i2l, 1) := by decide +kernel
theorem d_Law_halves_9 : decode method_21_code 9 = .ok (.lastore, 1) := by decide +kernel
theorem d_Law_halves_10 : decode method_21_code 10 = .ok (.goto 7, 3) := by decide +kernel
theorem d_Law_halves_17 : decode method_21_code 17 = .ok (.iconst 0, 1) := by decide +kernel
theorem d_Law_halves_18 : decode method_21_code 18 = .ok (.ireturn, 1) := by decide +kernel
theorem t_Law_halves {G : mG} (h : mH) (v0 v1 v2 v3 : Int) (r : mR) (hr : f_Law_halves h v0 v1 v2 v3 = some r) : mJM G M_Law_halves [(2, v0), (0, v1), (0, v2), (2, v3)] h r := by
  refine mJM_of (L := [(2, v0), (0, v1), (0, v2), (2, v3), (9, 0)]) rfl rfl rfl (Nat.le_of_ble_eq_true rfl) ?_
  unfold f_Law_halves at hr
  refine j_aload_n (pc := 0) d_Law_halves_0 rfl ?_
  refine j_iconst (pc := 1) d_Law_halves_1 ?_
  refine j_aload_n (pc := 2) d_Law_halves_2 rfl ?_
  refine j_iload_n (pc := 3) d_Law_halves_3 rfl ?_
  refine j_iload_n (pc := 4) d_Law_halves_4 rfl ?_
  obtain ⟨ha, hr⟩ := chk_some hr
  refine j_callC (pc := 5) (stk := [(0, v2), (0, v1), (2, v0), (0, 0), (2, v3)]) (as := [(2, v0), (0, v1), (0, v2)]) (P := (fun v9 => ((0 : Nat), v9) :: [(0, 0), (2, v3)])) (tg := 0) (ns := [("java/lang/IllegalArgumentException", 13)]) (mRunV (as := [(0, v1), (0, v2)]) (st := [(0, 0), (2, v3)]) d_Law_halves_5 (mc_Nb_halves (by decide)) rfl (mv_Nb_halves tb_ml_Law_75) rfl (Nat.le_of_ble_eq_true rfl) ha) (fun v => rfl) ⟨⟨by decide, by decide, rfl, by decide⟩, by decide +kernel, tb_cl_Law_13, trivial⟩ hr (fun r1 h1 => t_Nb_halves _ _ _ _ _ h1) (fun e h1 hr => ?_) (fun x2 h1 hr => ?_)
  · by_cases he : e = exNo "java/lang/IllegalArgumentException"
    · rw [if_pos he] at hr
      exact ⟨"java/lang/IllegalArgumentException", 13, 4, 2, he.symm, by decide +kernel, by decide +kernel, Or.inr ⟨d_Law_halves_13, rfl⟩, (Nat.le_of_ble_eq_true rfl), j_iconst (pc := 15) d_Law_halves_15 (j_iret (pc := 16) d_Law_halves_16 rfl hr)⟩
    · rw [if_neg he] at hr
      cases hr
  refine j_i2l (pc := 8) d_Law_halves_8 ?_
  refine j_lastore (pc := 9) d_Law_halves_9 hr (fun h3 hr => ?_)
  refine j_goto (pc := 10) (tgt := 17) d_Law_halves_10 ?_
  refine j_iconst (pc := 17) d_Law_halves_17 ?_
  exact j_iret (pc := 18) d_Law_halves_18 rfl hr
def M_Law_halvesFirst : mM := ("NineBarsLaw", ⟨"NineBarsLaw", "halvesFirst", "(LNineBars;II[J)I"⟩, method_22_code, 5, some .int, [(0, 10, 13, 13)], 5)
theorem tb_co_Law_halvesFirst : mTB (Cond.codeWith ⟨"NineBarsLaw", "halvesFirst", "(LNineBars;II[J)I"⟩ method_22_code 5 (some .int) [(0, 10, 13, 13)]) := tbq5 152 (by decide +kernel) rfl
theorem mc_Law_halvesFirst {M : mM} (hd : 5 < mDp M) : mCal M M_Law_halvesFirst 4 := ⟨tb_co_Law_halvesFirst, tb_in_NineBarsLaw, ⟨by decide +kernel, by decide +kernel⟩, by decide +kernel, hd, by decide⟩
theorem d_Law_halvesFirst_0 : decode method_22_code 0 = .ok (.aload_n 3, 1) := by decide +kernel
theorem d_Law_halvesFirst_1 : decode method_22_code 1 = .ok (.iconst 0, 1) := by decide +kernel
theorem d_Law_halvesFirst_2 : decode method_22_code 2 = .ok (.aload_n 0, 1) := by decide +kernel
theorem d_Law_halvesFirst_3 : decode method_22_code 3 = .ok (.iload_n 1, 1) := by decide +kernel
theorem d_Law_halvesFirst_4 : decode method_22_code 4 = .ok (.iload_n 2, 1) := by decide +kernel
theorem d_Law_halvesFirst_5 : decode method_22_code 5 = .ok (.invokevirtual 78, 3) := by decide +kernel
theorem tb_ml_Law_78 : mTB (Cond.methodLink "NineBarsLaw" 78 ⟨"NineBars", "halvesFirst", "(II)I"⟩) := tbq5 153 (by decide +kernel) rfl
theorem d_Law_halvesFirst_13 : decode method_22_code 13 = .ok (.astore 4, 2) := by decide +kernel
theorem d_Law_halvesFirst_15 : decode method_22_code 15 = .ok (.iconst 1, 1) := by decide +kernel
theorem d_Law_halvesFirst_16 : decode method_22_code 16 = .ok (.ireturn, 1) := by decide +kernel
theorem tb_im_Nb_halvesFirst : mTB (Cond.instanceMethod ⟨"NineBars", "halvesFirst", "(II)I"⟩) := tbq5 154 (by decide +kernel) rfl
theorem tb_se_Nb_halvesFirst : mTB (Cond.selects "NineBars" ⟨"NineBars", "halvesFirst", "(II)I"⟩ ⟨"NineBars", "halvesFirst", "(II)I"⟩) := tbq5 155 (by decide +kernel) rfl
theorem mv_Nb_halvesFirst {M : mM} {idx : Nat} (h : mTB (Cond.methodLink (mO M) idx ⟨"NineBars", "halvesFirst", "(II)I"⟩)) : mCaV M M_Nb_halvesFirst idx 10 := ⟨h, tb_im_Nb_halvesFirst, tb_se_Nb_halvesFirst, by decide, TX10, 19, rfl⟩
theorem d_Law_halvesFirst_8 : decode method_22_code 8 = .ok (.i2l, 1) := by decide +kernel
theorem d_Law_halvesFirst_9 : decode method_22_code 9 = .ok (.lastore, 1) := by decide +kernel
theorem d_Law_halvesFirst_10 : decode method_22_code 10 = .ok (.goto 7, 3) := by decide +kernel
theorem d_Law_halvesFirst_17 : decode method_22_code 17 = .ok (.iconst 0, 1) := by decide +kernel
theorem d_Law_halvesFirst_18 : decode method_22_code 18 = .ok (.ireturn, 1) := by decide +kernel
theorem t_Law_halvesFirst {G : mG} (h : mH) (v0 v1 v2 v3 : Int) (r : mR) (hr : f_Law_halvesFirst h v0 v1 v2 v3 = some r) : mJM G M_Law_halvesFirst [(2, v0), (0, v1), (0, v2), (2, v3)] h r := by
  refine mJM_of (L := [(2, v0), (0, v1), (0, v2), (2, v3), (9, 0)]) rfl rfl rfl (Nat.le_of_ble_eq_true rfl) ?_
  unfold f_Law_halvesFirst at hr
  refine j_aload_n (pc := 0) d_Law_halvesFirst_0 rfl ?_
  refine j_iconst (pc := 1) d_Law_halvesFirst_1 ?_
  refine j_aload_n (pc := 2) d_Law_halvesFirst_2 rfl ?_
  refine j_iload_n (pc := 3) d_Law_halvesFirst_3 rfl ?_
  refine j_iload_n (pc := 4) d_Law_halvesFirst_4 rfl ?_
  obtain ⟨ha, hr⟩ := chk_some hr
  refine j_callC (pc := 5) (stk := [(0, v2), (0, v1), (2, v0), (0, 0), (2, v3)]) (as := [(2, v0), (0, v1), (0, v2)]) (P := (fun v9 => ((0 : Nat), v9) :: [(0, 0), (2, v3)])) (tg := 0) (ns := [("java/lang/IllegalArgumentException", 13)]) (mRunV (as := [(0, v1), (0, v2)]) (st := [(0, 0), (2, v3)]) d_Law_halvesFirst_5 (mc_Nb_halvesFirst (by decide)) rfl (mv_Nb_halvesFirst tb_ml_Law_78) rfl (Nat.le_of_ble_eq_true rfl) ha) (fun v => rfl) ⟨⟨by decide, by decide, rfl, by decide⟩, by decide +kernel, tb_cl_Law_13, trivial⟩ hr (fun r1 h1 => t_Nb_halvesFirst _ _ _ _ _ h1) (fun e h1 hr => ?_) (fun x2 h1 hr => ?_)
  · by_cases he : e = exNo "java/lang/IllegalArgumentException"
    · rw [if_pos he] at hr
      exact ⟨"java/lang/IllegalArgumentException", 13, 4, 2, he.symm, by decide +kernel, by decide +kernel, Or.inr ⟨d_Law_halvesFirst_13, rfl⟩, (Nat.le_of_ble_eq_true rfl), j_iconst (pc := 15) d_Law_halvesFirst_15 (j_iret (pc := 16) d_Law_halvesFirst_16 rfl hr)⟩
    · rw [if_neg he] at hr
      cases hr
  refine j_i2l (pc := 8) d_Law_halvesFirst_8 ?_
  refine j_lastore (pc := 9) d_Law_halvesFirst_9 hr (fun h3 hr => ?_)
  refine j_goto (pc := 10) (tgt := 17) d_Law_halvesFirst_10 ?_
  refine j_iconst (pc := 17) d_Law_halvesFirst_17 ?_
  exact j_iret (pc := 18) d_Law_halvesFirst_18 rfl hr
def M_Law_ifWorn : mM := ("NineBarsLaw", ⟨"NineBarsLaw", "ifWorn", "(LNineBars;I[J)I"⟩, method_23_code, 4, some .int, [(0, 9, 12, 19), (0, 9, 15, 27)], 15)
theorem tb_co_Law_ifWorn : mTB (Cond.codeWith ⟨"NineBarsLaw", "ifWorn", "(LNineBars;I[J)I"⟩ method_23_code 4 (some .int) [(0, 9, 12, 19), (0, 9, 15, 27)]) := tbq5 163 (by decide +kernel) rfl
theorem mc_Law_ifWorn {M : mM} (hd : 15 < mDp M) : mCal M M_Law_ifWorn 3 := ⟨tb_co_Law_ifWorn, tb_in_NineBarsLaw, ⟨by decide +kernel, by decide +kernel⟩, by decide +kernel, hd, by decide⟩
theorem d_Law_ifWorn_0 : decode method_23_code 0 = .ok (.aload_n 2, 1) := by decide +kernel
theorem d_Law_ifWorn_1 : decode method_23_code 1 = .ok (.iconst 0, 1) := by decide +kernel
theorem d_Law_ifWorn_2 : decode method_23_code 2 = .ok (.aload_n 0, 1) := by decide +kernel
theorem d_Law_ifWorn_3 : decode method_23_code 3 = .ok (.iload_n 1, 1) := by decide +kernel
theorem d_Law_ifWorn_4 : decode method_23_code 4 = .ok (.invokevirtual 81, 3) := by decide +kernel
theorem tb_ml_Law_81 : mTB (Cond.methodLink "NineBarsLaw" 81 ⟨"NineBars", "ifWorn", "(I)I"⟩) := tbq5 164 (by decide +kernel) rfl
theorem d_Law_ifWorn_12 : decode method_23_code 12 = .ok (.astore_n 3, 1) := by decide +kernel
theorem d_Law_ifWorn_13 : decode method_23_code 13 = .ok (.iconst 1, 1) := by decide +kernel
theorem d_Law_ifWorn_14 : decode method_23_code 14 = .ok (.ireturn, 1) := by decide +kernel
theorem d_Law_ifWorn_15 : decode method_23_code 15 = .ok (.astore_n 3, 1) := by decide +kernel
theorem d_Law_ifWorn_16 : decode method_23_code 16 = .ok (.iconst 2, 1) := by decide +kernel
theorem d_Law_ifWorn_17 : decode method_23_code 17 = .ok (.ireturn, 1) := by decide +kernel
theorem tb_im_Nb_ifWorn : mTB (Cond.instanceMethod ⟨"NineBars", "ifWorn", "(I)I"⟩) := tbq5 165 (by decide +kernel) rfl
theorem tb_se_Nb_ifWorn : mTB (Cond.selects "NineBars" ⟨"NineBars", "ifWorn", "(I)I"⟩ ⟨"NineBars", "ifWorn", "(I)I"⟩) := tbq5 166 (by decide +kernel) rfl
theorem mv_Nb_ifWorn {M : mM} {idx : Nat} (h : mTB (Cond.methodLink (mO M) idx ⟨"NineBars", "ifWorn", "(I)I"⟩)) : mCaV M M_Nb_ifWorn idx 10 := ⟨h, tb_im_Nb_ifWorn, tb_se_Nb_ifWorn, by decide, TX10, 19, rfl⟩
theorem d_Law_ifWorn_7 : decode method_23_code 7 = .ok (.i2l, 1) := by decide +kernel
theorem d_Law_ifWorn_8 : decode method_23_code 8 = .ok (.lastore, 1) := by decide +kernel
theorem d_Law_ifWorn_9 : decode method_23_code 9 = .ok (.goto 9, 3) := by decide +kernel
theorem d_Law_ifWorn_18 : decode method_23_code 18 = .ok (.iconst 0, 1) := by decide +kernel
theorem d_Law_ifWorn_19 : decode method_23_code 19 = .ok (.ireturn, 1) := by decide +kernel
theorem t_Law_ifWorn {G : mG} (h : mH) (v0 v1 v2 : Int) (r : mR) (hr : f_Law_ifWorn h v0 v1 v2 = some r) : mJM G M_Law_ifWorn [(2, v0), (0, v1), (2, v2)] h r := by
  refine mJM_of (L := [(2, v0), (0, v1), (2, v2), (9, 0)]) rfl rfl rfl (Nat.le_of_ble_eq_true rfl) ?_
  unfold f_Law_ifWorn at hr
  refine j_aload_n (pc := 0) d_Law_ifWorn_0 rfl ?_
  refine j_iconst (pc := 1) d_Law_ifWorn_1 ?_
  refine j_aload_n (pc := 2) d_Law_ifWorn_2 rfl ?_
  refine j_iload_n (pc := 3) d_Law_ifWorn_3 rfl ?_
  obtain ⟨ha, hr⟩ := chk_some hr
  refine j_callC (pc := 4) (stk := [(0, v1), (2, v0), (0, 0), (2, v2)]) (as := [(2, v0), (0, v1)]) (P := (fun v9 => ((0 : Nat), v9) :: [(0, 0), (2, v2)])) (tg := 0) (ns := [("java/util/NoSuchElementException", 12), ("java/lang/IllegalStateException", 15)]) (mRunV (as := [(0, v1)]) (st := [(0, 0), (2, v2)]) d_Law_ifWorn_4 (mc_Nb_ifWorn (by decide)) rfl (mv_Nb_ifWorn tb_ml_Law_81) rfl (Nat.le_of_ble_eq_true rfl) ha) (fun v => rfl) ⟨⟨by decide, by decide, rfl, by decide⟩, by decide +kernel, tb_cl_Law_19, ⟨⟨by decide, by decide, rfl, by decide⟩, by decide +kernel, tb_cl_Law_27, trivial⟩⟩ hr (fun r1 h1 => t_Nb_ifWorn _ _ _ _ h1) (fun e h1 hr => ?_) (fun x2 h1 hr => ?_)
  · by_cases he : e = exNo "java/util/NoSuchElementException"
    · rw [if_pos he] at hr
      exact ⟨"java/util/NoSuchElementException", 12, 3, 1, he.symm, by decide +kernel, by decide +kernel, Or.inl ⟨3, rfl, d_Law_ifWorn_12, rfl⟩, (Nat.le_of_ble_eq_true rfl), j_iconst (pc := 13) d_Law_ifWorn_13 (j_iret (pc := 14) d_Law_ifWorn_14 rfl hr)⟩
    · rw [if_neg he] at hr
      by_cases he : e = exNo "java/lang/IllegalStateException"
      · rw [if_pos he] at hr
        exact ⟨"java/lang/IllegalStateException", 15, 3, 1, he.symm, by decide +kernel, by decide +kernel, Or.inl ⟨3, rfl, d_Law_ifWorn_15, rfl⟩, (Nat.le_of_ble_eq_true rfl), j_iconst (pc := 16) d_Law_ifWorn_16 (j_iret (pc := 17) d_Law_ifWorn_17 rfl hr)⟩
      · rw [if_neg he] at hr
        cases hr
  refine j_i2l (pc := 7) d_Law_ifWorn_7 ?_
  refine j_lastore (pc := 8) d_Law_ifWorn_8 hr (fun h3 hr => ?_)
  refine j_goto (pc := 9) (tgt := 18) d_Law_ifWorn_9 ?_
  refine j_iconst (pc := 18) d_Law_ifWorn_18 ?_
  exact j_iret (pc := 19) d_Law_ifWorn_19 rfl hr
def M_Law_weakest : mM := ("NineBarsLaw", ⟨"NineBarsLaw", "weakest", "(LNineBars;[J)I"⟩, method_24_code, 3, some .int, [(0, 8, 11, 27)], 15)
theorem tb_co_Law_weakest : mTB (Cond.codeWith ⟨"NineBarsLaw", "weakest", "(LNineBars;[J)I"⟩ method_24_code 3 (some .int) [(0, 8, 11, 27)]) := tbq5 179 (by decide +kernel) rfl
theorem mc_Law_weakest {M : mM} (hd : 15 < mDp M) : mCal M M_Law_weakest 2 := ⟨tb_co_Law_weakest, tb_in_NineBarsLaw, ⟨by decide +kernel, by decide +kernel⟩, by decide +kernel, hd, by decide⟩
theorem d_Law_weakest_0 : decode method_24_code 0 = .ok (.aload_n 1, 1) := by decide +kernel
theorem d_Law_weakest_1 : decode method_24_code 1 = .ok (.iconst 0, 1) := by decide +kernel
theorem d_Law_weakest_2 : decode method_24_code 2 = .ok (.aload_n 0, 1) := by decide +kernel
theorem d_Law_weakest_3 : decode method_24_code 3 = .ok (.invokevirtual 84, 3) := by decide +kernel
theorem tb_ml_Law_84 : mTB (Cond.methodLink "NineBarsLaw" 84 ⟨"NineBars", "weakest", "()I"⟩) := tbq5 180 (by decide +kernel) rfl
theorem d_Law_weakest_11 : decode method_24_code 11 = .ok (.astore_n 2, 1) := by decide +kernel
theorem d_Law_weakest_12 : decode method_24_code 12 = .ok (.iconst 1, 1) := by decide +kernel
theorem d_Law_weakest_13 : decode method_24_code 13 = .ok (.ireturn, 1) := by decide +kernel
theorem tb_im_Nb_weakest : mTB (Cond.instanceMethod ⟨"NineBars", "weakest", "()I"⟩) := tbq5 181 (by decide +kernel) rfl
theorem tb_se_Nb_weakest : mTB (Cond.selects "NineBars" ⟨"NineBars", "weakest", "()I"⟩ ⟨"NineBars", "weakest", "()I"⟩) := tbq5 182 (by decide +kernel) rfl
theorem mv_Nb_weakest {M : mM} {idx : Nat} (h : mTB (Cond.methodLink (mO M) idx ⟨"NineBars", "weakest", "()I"⟩)) : mCaV M M_Nb_weakest idx 10 := ⟨h, tb_im_Nb_weakest, tb_se_Nb_weakest, by decide, TX10, 19, rfl⟩
theorem d_Law_weakest_6 : decode method_24_code 6 = .ok (.i2l, 1) := by decide +kernel
theorem d_Law_weakest_7 : decode method_24_code 7 = .ok (.lastore, 1) := by decide +kernel
theorem d_Law_weakest_8 : decode method_24_code 8 = .ok (.goto 6, 3) := by decide +kernel
theorem d_Law_weakest_14 : decode method_24_code 14 = .ok (.iconst 0, 1) := by decide +kernel
theorem d_Law_weakest_15 : decode method_24_code 15 = .ok (.ireturn, 1) := by decide +kernel
theorem t_Law_weakest {G : mG} (h : mH) (v0 v1 : Int) (r : mR) (hr : f_Law_weakest h v0 v1 = some r) : mJM G M_Law_weakest [(2, v0), (2, v1)] h r := by
  refine mJM_of (L := [(2, v0), (2, v1), (9, 0)]) rfl rfl rfl (Nat.le_of_ble_eq_true rfl) ?_
  unfold f_Law_weakest at hr
  refine j_aload_n (pc := 0) d_Law_weakest_0 rfl ?_
  refine j_iconst (pc := 1) d_Law_weakest_1 ?_
  refine j_aload_n (pc := 2) d_Law_weakest_2 rfl ?_
  obtain ⟨ha, hr⟩ := chk_some hr
  refine j_callC (pc := 3) (stk := [(2, v0), (0, 0), (2, v1)]) (as := [(2, v0)]) (P := (fun v9 => ((0 : Nat), v9) :: [(0, 0), (2, v1)])) (tg := 0) (ns := [("java/lang/IllegalStateException", 11)]) (mRunV (as := []) (st := [(0, 0), (2, v1)]) d_Law_weakest_3 (mc_Nb_weakest (by decide)) rfl (mv_Nb_weakest tb_ml_Law_84) rfl (Nat.le_of_ble_eq_true rfl) ha) (fun v => rfl) ⟨⟨by decide, by decide, rfl, by decide⟩, by decide +kernel, tb_cl_Law_27, trivial⟩ hr (fun r1 h1 => t_Nb_weakest _ _ _ h1) (fun e h1 hr => ?_) (fun x2 h1 hr => ?_)
  · by_cases he : e = exNo "java/lang/IllegalStateException"
    · rw [if_pos he] at hr
      exact ⟨"java/lang/IllegalStateException", 11, 2, 1, he.symm, by decide +kernel, by decide +kernel, Or.inl ⟨2, rfl, d_Law_weakest_11, rfl⟩, (Nat.le_of_ble_eq_true rfl), j_iconst (pc := 12) d_Law_weakest_12 (j_iret (pc := 13) d_Law_weakest_13 rfl hr)⟩
    · rw [if_neg he] at hr
      cases hr
  refine j_i2l (pc := 6) d_Law_weakest_6 ?_
  refine j_lastore (pc := 7) d_Law_weakest_7 hr (fun h3 hr => ?_)
  refine j_goto (pc := 8) (tgt := 14) d_Law_weakest_8 ?_
  refine j_iconst (pc := 14) d_Law_weakest_14 ?_
  exact j_iret (pc := 15) d_Law_weakest_15 rfl hr
def M_Law_hardest : mM := ("NineBarsLaw", ⟨"NineBarsLaw", "hardest", "(LNineBars;II[J)I"⟩, method_25_code, 5, some .int, [(0, 10, 13, 13), (0, 10, 17, 27)], 15)
theorem tb_co_Law_hardest : mTB (Cond.codeWith ⟨"NineBarsLaw", "hardest", "(LNineBars;II[J)I"⟩ method_25_code 5 (some .int) [(0, 10, 13, 13), (0, 10, 17, 27)]) := tbq5 186 (by decide +kernel) rfl
theorem mc_Law_hardest {M : mM} (hd : 15 < mDp M) : mCal M M_Law_hardest 4 := ⟨tb_co_Law_hardest, tb_in_NineBarsLaw, ⟨by decide +kernel, by decide +kernel⟩, by decide +kernel, hd, by decide⟩
theorem d_Law_hardest_0 : decode method_25_code 0 = .ok (.aload_n 3, 1) := by decide +kernel
theorem d_Law_hardest_1 : decode method_25_code 1 = .ok (.iconst 0, 1) := by decide +kernel
theorem d_Law_hardest_2 : decode method_25_code 2 = .ok (.aload_n 0, 1) := by decide +kernel
theorem d_Law_hardest_3 : decode method_25_code 3 = .ok (.iload_n 1, 1) := by decide +kernel
theorem d_Law_hardest_4 : decode method_25_code 4 = .ok (.iload_n 2, 1) := by decide +kernel
theorem d_Law_hardest_5 : decode method_25_code 5 = .ok (.invokevirtual 87, 3) := by decide +kernel
theorem tb_ml_Law_87 : mTB (Cond.methodLink "NineBarsLaw" 87 ⟨"NineBars", "hardest", "(II)I"⟩) := tbq5 187 (by decide +kernel) rfl
theorem d_Law_hardest_13 : decode method_25_code 13 = .ok (.astore 4, 2) := by decide +kernel
theorem d_Law_hardest_15 : decode method_25_code 15 = .ok (.iconst 1, 1) := by decide +kernel
theorem d_Law_hardest_16 : decode method_25_code 16 = .ok (.ireturn, 1) := by decide +kernel
theorem d_Law_hardest_17 : decode method_25_code 17 = .ok (.astore 4, 2) := by decide +kernel
theorem d_Law_hardest_19 : decode method_25_code 19 = .ok (.iconst 2, 1) := by decide +kernel
theorem d_Law_hardest_20 : decode method_25_code 20 = .ok (.ireturn, 1) := by decide +kernel
theorem tb_im_Nb_hardest : mTB (Cond.instanceMethod ⟨"NineBars", "hardest", "(II)I"⟩) := tbq5 188 (by decide +kernel) rfl
theorem tb_se_Nb_hardest : mTB (Cond.selects "NineBars" ⟨"NineBars", "hardest", "(II)I"⟩ ⟨"NineBars", "hardest", "(II)I"⟩) := tbq5 189 (by decide +kernel) rfl
theorem mv_Nb_hardest {M : mM} {idx : Nat} (h : mTB (Cond.methodLink (mO M) idx ⟨"NineBars", "hardest", "(II)I"⟩)) : mCaV M M_Nb_hardest idx 10 := ⟨h, tb_im_Nb_hardest, tb_se_Nb_hardest, by decide, TX10, 19, rfl⟩
theorem d_Law_hardest_8 : decode method_25_code 8 = .ok (.i2l, 1) := by decide +kernel
theorem d_Law_hardest_9 : decode method_25_code 9 = .ok (.lastore, 1) := by decide +kernel
theorem d_Law_hardest_10 : decode method_25_code 10 = .ok (.goto 11, 3) := by decide +kernel
theorem d_Law_hardest_21 : decode method_25_code 21 = .ok (.iconst 0, 1) := by decide +kernel
theorem d_Law_hardest_22 : decode method_25_code 22 = .ok (.ireturn, 1) := by decide +kernel
theorem t_Law_hardest {G : mG} (h : mH) (v0 v1 v2 v3 : Int) (r : mR) (hr : f_Law_hardest h v0 v1 v2 v3 = some r) : mJM G M_Law_hardest [(2, v0), (0, v1), (0, v2), (2, v3)] h r := by
  refine mJM_of (L := [(2, v0), (0, v1), (0, v2), (2, v3), (9, 0)]) rfl rfl rfl (Nat.le_of_ble_eq_true rfl) ?_
  unfold f_Law_hardest at hr
  refine j_aload_n (pc := 0) d_Law_hardest_0 rfl ?_
  refine j_iconst (pc := 1) d_Law_hardest_1 ?_
  refine j_aload_n (pc := 2) d_Law_hardest_2 rfl ?_
  refine j_iload_n (pc := 3) d_Law_hardest_3 rfl ?_
  refine j_iload_n (pc := 4) d_Law_hardest_4 rfl ?_
  obtain ⟨ha, hr⟩ := chk_some hr
  refine j_callC (pc := 5) (stk := [(0, v2), (0, v1), (2, v0), (0, 0), (2, v3)]) (as := [(2, v0), (0, v1), (0, v2)]) (P := (fun v9 => ((0 : Nat), v9) :: [(0, 0), (2, v3)])) (tg := 0) (ns := [("java/lang/IllegalArgumentException", 13), ("java/lang/IllegalStateException", 17)]) (mRunV (as := [(0, v1), (0, v2)]) (st := [(0, 0), (2, v3)]) d_Law_hardest_5 (mc_Nb_hardest (by decide)) rfl (mv_Nb_hardest tb_ml_Law_87) rfl (Nat.le_of_ble_eq_true rfl) ha) (fun v => rfl) ⟨⟨by decide, by decide, rfl, by decide⟩, by decide +kernel, tb_cl_Law_13, ⟨⟨by decide, by decide, rfl, by decide⟩, by decide +kernel, tb_cl_Law_27, trivial⟩⟩ hr (fun r1 h1 => t_Nb_hardest _ _ _ _ _ h1) (fun e h1 hr => ?_) (fun x2 h1 hr => ?_)
  · by_cases he : e = exNo "java/lang/IllegalArgumentException"
    · rw [if_pos he] at hr
      exact ⟨"java/lang/IllegalArgumentException", 13, 4, 2, he.symm, by decide +kernel, by decide +kernel, Or.inr ⟨d_Law_hardest_13, rfl⟩, (Nat.le_of_ble_eq_true rfl), j_iconst (pc := 15) d_Law_hardest_15 (j_iret (pc := 16) d_Law_hardest_16 rfl hr)⟩
    · rw [if_neg he] at hr
      by_cases he : e = exNo "java/lang/IllegalStateException"
      · rw [if_pos he] at hr
        exact ⟨"java/lang/IllegalStateException", 17, 4, 2, he.symm, by decide +kernel, by decide +kernel, Or.inr ⟨d_Law_hardest_17, rfl⟩, (Nat.le_of_ble_eq_true rfl), j_iconst (pc := 19) d_Law_hardest_19 (j_iret (pc := 20) d_Law_hardest_20 rfl hr)⟩
      · rw [if_neg he] at hr
        cases hr
  refine j_i2l (pc := 8) d_Law_hardest_8 ?_
  refine j_lastore (pc := 9) d_Law_hardest_9 hr (fun h3 hr => ?_)
  refine j_goto (pc := 10) (tgt := 21) d_Law_hardest_10 ?_
  refine j_iconst (pc := 21) d_Law_hardest_21 ?_
  exact j_iret (pc := 22) d_Law_hardest_22 rfl hr
def M_Law_known : mM := ("NineBarsLaw", ⟨"NineBarsLaw", "known", "(LNineBars;I[J)I"⟩, method_26_code, 4, some .int, [(0, 8, 11, 19), (0, 8, 14, 27), (0, 8, 17, 13)], 15)
theorem tb_co_Law_known : mTB (Cond.codeWith ⟨"NineBarsLaw", "known", "(LNineBars;I[J)I"⟩ method_26_code 4 (some .int) [(0, 8, 11, 19), (0, 8, 14, 27), (0, 8, 17, 13)]) := tbq5 225 (by decide +kernel) rfl
theorem mc_Law_known {M : mM} (hd : 15 < mDp M) : mCal M M_Law_known 3 := ⟨tb_co_Law_known, tb_in_NineBarsLaw, ⟨by decide +kernel, by decide +kernel⟩, by decide +kernel, hd, by decide⟩
theorem d_Law_known_0 : decode method_26_code 0 = .ok (.aload_n 2, 1) := by decide +kernel
theorem d_Law_known_1 : decode method_26_code 1 = .ok (.iconst 0, 1) := by decide +kernel
theorem d_Law_known_2 : decode method_26_code 2 = .ok (.aload_n 0, 1) := by decide +kernel
theorem d_Law_known_3 : decode method_26_code 3 = .ok (.iload_n 1, 1) := by decide +kernel
theorem d_Law_known_4 : decode method_26_code 4 = .ok (.invokevirtual 90, 3) := by decide +kernel
theorem tb_ml_Law_90 : mTB (Cond.methodLink "NineBarsLaw" 90 ⟨"NineBars", "known", "(I)J"⟩) := tbq5 226 (by decide +kernel) rfl
theorem d_Law_known_11 : decode method_26_code 11 = .ok (.astore_n 3, 1) := by decide +kernel
theorem d_Law_known_12 : decode method_26_code 12 = .ok (.iconst 1, 1) := by decide +kernel
theorem d_Law_known_13 : decode method_26_code 13 = .ok (.ireturn, 1) := by decide +kernel
theorem d_Law_known_14 : decode method_26_code 14 = .ok (.astore_n 3, 1) := by decide +kernel
theorem d_Law_known_15 : decode method_26_code 15 = .ok (.iconst 2, 1) := by decide +kernel
theorem d_Law_known_16 : decode method_26_code 16 = .ok (.ireturn, 1) := by decide +kernel
theorem d_Law_known_17 : decode method_26_code 17 = .ok (.astore_n 3, 1) := by decide +kernel
theorem d_Law_known_18 : decode method_26_code 18 = .ok (.iconst 3, 1) := by decide +kernel
theorem d_Law_known_19 : decode method_26_code 19 = .ok (.ireturn, 1) := by decide +kernel
theorem tb_im_Nb_known : mTB (Cond.instanceMethod ⟨"NineBars", "known", "(I)J"⟩) := tbq5 227 (by decide +kernel) rfl
theorem tb_se_Nb_known : mTB (Cond.selects "NineBars" ⟨"NineBars", "known", "(I)J"⟩ ⟨"NineBars", "known", "(I)J"⟩) := tbq5 228 (by decide +kernel) rfl
theorem mv_Nb_known {M : mM} {idx : Nat} (h : mTB (Cond.methodLink (mO M) idx ⟨"NineBars", "known", "(I)J"⟩)) : mCaV M M_Nb_known idx 10 := ⟨h, tb_im_Nb_known, tb_se_Nb_known, by decide, TX10, 19, rfl⟩
theorem d_Law_known_7 : decode method_26_code 7 = .ok (.lastore, 1) := by decide +kernel
theorem d_Law_known_8 : decode method_26_code 8 = .ok (.goto 12, 3) := by decide +kernel
theorem d_Law_known_20 : decode method_26_code 20 = .ok (.iconst 0, 1) := by decide +kernel
theorem d_Law_known_21 : decode method_26_code 21 = .ok (.ireturn, 1) := by decide +kernel
theorem t_Law_known {G : mG} (h : mH) (v0 v1 v2 : Int) (r : mR) (hr : f_Law_known h v0 v1 v2 = some r) : mJM G M_Law_known [(2, v0), (0, v1), (2, v2)] h r := by
  refine mJM_of (L := [(2, v0), (0, v1), (2, v2), (9, 0)]) rfl rfl rfl (Nat.le_of_ble_eq_true rfl) ?_
  unfold f_Law_known at hr
  refine j_aload_n (pc := 0) d_Law_known_0 rfl ?_
  refine j_iconst (pc := 1) d_Law_known_1 ?_
  refine j_aload_n (pc := 2) d_Law_known_2 rfl ?_
  refine j_iload_n (pc := 3) d_Law_known_3 rfl ?_
  obtain ⟨ha, hr⟩ := chk_some hr
  refine j_callC (pc := 4) (stk := [(0, v1), (2, v0), (0, 0), (2, v2)]) (as := [(2, v0), (0, v1)]) (P := (fun v9 => ((1 : Nat), v9) :: [(0, 0), (2, v2)])) (tg := 1) (ns := [("java/util/NoSuchElementException", 11), ("java/lang/IllegalStateException", 14), ("java/lang/IllegalArgumentException", 17)]) (mRunV (as := [(0, v1)]) (st := [(0, 0), (2, v2)]) d_Law_known_4 (mc_Nb_known (by decide)) rfl (mv_Nb_known tb_ml_Law_90) rfl (Nat.le_of_ble_eq_true rfl) ha) (fun v => rfl) ⟨⟨by decide, by decide, rfl, by decide⟩, by decide +kernel, tb_cl_Law_19, ⟨⟨by decide, by decide, rfl, by decide⟩, by decide +kernel, tb_cl_Law_27, ⟨⟨by decide, by decide, rfl, by decide⟩, by decide +kernel, tb_cl_Law_13, trivial⟩⟩⟩ hr (fun r1 h1 => t_Nb_known _ _ _ _ h1) (fun e h1 hr => ?_) (fun x2 h1 hr => ?_)
  · by_cases he : e = exNo "java/util/NoSuchElementException"
    · rw [if_pos he] at hr
      exact ⟨"java/util/NoSuchElementException", 11, 3, 1, he.symm, by decide +kernel, by decide +kernel, Or.inl ⟨3, rfl, d_Law_known_11, rfl⟩, (Nat.le_of_ble_eq_true rfl), j_iconst (pc := 12) d_Law_known_12 (j_iret (pc := 13) d_Law_known_13 rfl hr)⟩
    · rw [if_neg he] at hr
      by_cases he : e = exNo "java/lang/IllegalStateException"
      · rw [if_pos he] at hr
        exact ⟨"java/lang/IllegalStateException", 14, 3, 1, he.symm, by decide +kernel, by decide +kernel, Or.inl ⟨3, rfl, d_Law_known_14, rfl⟩, (Nat.le_of_ble_eq_true rfl), j_iconst (pc := 15) d_Law_known_15 (j_iret (pc := 16) d_Law_known_16 rfl hr)⟩
      · rw [if_neg he] at hr
        by_cases he : e = exNo "java/lang/IllegalArgumentException"
        · rw [if_pos he] at hr
          exact ⟨"java/lang/IllegalArgumentException", 17, 3, 1, he.symm, by decide +kernel, by decide +kernel, Or.inl ⟨3, rfl, d_Law_known_17, rfl⟩, (Nat.le_of_ble_eq_true rfl), j_iconst (pc := 18) d_Law_known_18 (j_iret (pc := 19) d_Law_known_19 rfl hr)⟩
        · rw [if_neg he] at hr
          cases hr
  refine j_lastore (pc := 7) d_Law_known_7 hr (fun h3 hr => ?_)
  refine j_goto (pc := 8) (tgt := 20) d_Law_known_8 ?_
  refine j_iconst (pc := 20) d_Law_known_20 ?_
  exact j_iret (pc := 21) d_Law_known_21 rfl hr
def M_Law_keeps : mM := ("NineBarsLaw", ⟨"NineBarsLaw", "keeps", "(LNineBars;II[J)I"⟩, method_27_code, 5, some .int, [(0, 9, 12, 13), (0, 9, 16, 27)], 15)
theorem tb_co_Law_keeps : mTB (Cond.codeWith ⟨"NineBarsLaw", "keeps", "(LNineBars;II[J)I"⟩ method_27_code 5 (some .int) [(0, 9, 12, 13), (0, 9, 16, 27)]) := tbq6 3 (by decide +kernel) rfl
theorem mc_Law_keeps {M : mM} (hd : 15 < mDp M) : mCal M M_Law_keeps 4 := ⟨tb_co_Law_keeps, tb_in_NineBarsLaw, ⟨by decide +kernel, by decide +kernel⟩, by decide +kernel, hd, by decide⟩
theorem d_Law_keeps_0 : decode method_27_code 0 = .ok (.aload_n 3, 1) := by decide +kernel
theorem d_Law_keeps_1 : decode method_27_code 1 = .ok (.iconst 0, 1) := by decide +kernel
theorem d_Law_keeps_2 : decode method_27_code 2 = .ok (.aload_n 0, 1) := by decide +kernel
theorem d_Law_keeps_3 : decode method_27_code 3 = .ok (.iload_n 1, 1) := by decide +kernel
theorem d_Law_keeps_4 : decode method_27_code 4 = .ok (.iload_n 2, 1) := by decide +kernel
theorem d_Law_keeps_5 : decode method_27_code 5 = .ok (.invokevirtual 94, 3) := by decide +kernel
theorem tb_ml_Law_94 : mTB (Cond.methodLink "NineBarsLaw" 94 ⟨"NineBars", "keeps", "(II)J"⟩) := tbq6 4 (by decide +kernel) rfl
theorem d_Law_keeps_12 : decode method_27_code 12 = .ok (.astore 4, 2) := by decide +kernel
theorem d_Law_keeps_14 : decode method_27_code 14 = .ok (.iconst 1, 1) := by decide +kernel
theorem d_Law_keeps_15 : decode method_27_code 15 = .ok (.ireturn, 1) := by decide +kernel
theorem d_Law_keeps_16 : decode method_27_code 16 = .ok (.astore 4, 2) := by decide +kernel
theorem d_Law_keeps_18 : decode method_27_code 18 = .ok (.iconst 2, 1) := by decide +kernel
theorem d_Law_keeps_19 : decode method_27_code 19 = .ok (.ireturn, 1) := by decide +kernel
theorem tb_im_Nb_keeps : mTB (Cond.instanceMethod ⟨"NineBars", "keeps", "(II)J"⟩) := tbq6 5 (by decide +kernel) rfl
theorem tb_se_Nb_keeps : mTB (Cond.selects "NineBars" ⟨"NineBars", "keeps", "(II)J"⟩ ⟨"NineBars", "keeps", "(II)J"⟩) := tbq6 6 (by decide +kernel) rfl
theorem mv_Nb_keeps {M : mM} {idx : Nat} (h : mTB (Cond.methodLink (mO M) idx ⟨"NineBars", "keeps", "(II)J"⟩)) : mCaV M M_Nb_keeps idx 10 := ⟨h, tb_im_Nb_keeps, tb_se_Nb_keeps, by decide, TX10, 19, rfl⟩
theorem d_Law_keeps_8 : decode method_27_code 8 = .ok (.lastore, 1) := by decide +kernel
theorem d_Law_keeps_9 : decode method_27_code 9 = .ok (.goto 11, 3) := by decide +kernel
theorem d_Law_keeps_20 : decode method_27_code 20 = .ok (.iconst 0, 1) := by decide +kernel
theorem d_Law_keeps_21 : decode method_27_code 21 = .ok (.ireturn, 1) := by decide +kernel
theorem t_Law_keeps {G : mG} (h : mH) (v0 v1 v2 v3 : Int) (r : mR) (hr : f_Law_keeps h v0 v1 v2 v3 = some r) : mJM G M_Law_keeps [(2, v0), (0, v1), (0, v2), (2, v3)] h r := by
  refine mJM_of (L := [(2, v0), (0, v1), (0, v2), (2, v3), (9, 0)]) rfl rfl rfl (Nat.le_of_ble_eq_true rfl) ?_
  unfold f_Law_keeps at hr
  refine j_aload_n (pc := 0) d_Law_keeps_0 rfl ?_
  refine j_iconst (pc := 1) d_Law_keeps_1 ?_
  refine j_aload_n (pc := 2) d_Law_keeps_2 rfl ?_
  refine j_iload_n (pc := 3) d_Law_keeps_3 rfl ?_
  refine j_iload_n (pc := 4) d_Law_keeps_4 rfl ?_
  obtain ⟨ha, hr⟩ := chk_some hr
  refine j_callC (pc := 5) (stk := [(0, v2), (0, v1), (2, v0), (0, 0), (2, v3)]) (as := [(2, v0), (0, v1), (0, v2)]) (P := (fun v9 => ((1 : Nat), v9) :: [(0, 0), (2, v3)])) (tg := 1) (ns := [("java/lang/IllegalArgumentException", 12), ("java/lang/IllegalStateException", 16)]) (mRunV (as := [(0, v1), (0, v2)]) (st := [(0, 0), (2, v3)]) d_Law_keeps_5 (mc_Nb_keeps (by decide)) rfl (mv_Nb_keeps tb_ml_Law_94) rfl (Nat.le_of_ble_eq_true rfl) ha) (fun v => rfl) ⟨⟨by decide, by decide, rfl, by decide⟩, by decide +kernel, tb_cl_Law_13, ⟨⟨by decide, by decide, rfl, by decide⟩, by decide +kernel, tb_cl_Law_27, trivial⟩⟩ hr (fun r1 h1 => t_Nb_keeps _ _ _ _ _ h1) (fun e h1 hr => ?_) (fun x2 h1 hr => ?_)
  · by_cases he : e = exNo "java/lang/IllegalArgumentException"
    · rw [if_pos he] at hr
      exact ⟨"java/lang/IllegalArgumentException", 12, 4, 2, he.symm, by decide +kernel, by decide +kernel, Or.inr ⟨d_Law_keeps_12, rfl⟩, (Nat.le_of_ble_eq_true rfl), j_iconst (pc := 14) d_Law_keeps_14 (j_iret (pc := 15) d_Law_keeps_15 rfl hr)⟩
    · rw [if_neg he] at hr
      by_cases he : e = exNo "java/lang/IllegalStateException"
      · rw [if_pos he] at hr
        exact ⟨"java/lang/IllegalStateException", 16, 4, 2, he.symm, by decide +kernel, by decide +kernel, Or.inr ⟨d_Law_keeps_16, rfl⟩, (Nat.le_of_ble_eq_true rfl), j_iconst (pc := 18) d_Law_keeps_18 (j_iret (pc := 19) d_Law_keeps_19 rfl hr)⟩
      · rw [if_neg he] at hr
        cases hr
  refine j_lastore (pc := 8) d_Law_keeps_8 hr (fun h3 hr => ?_)
  refine j_goto (pc := 9) (tgt := 20) d_Law_keeps_9 ?_
  refine j_iconst (pc := 20) d_Law_keeps_20 ?_
  exact j_iret (pc := 21) d_Law_keeps_21 rfl hr
def M_Law_fits : mM := ("NineBarsLaw", ⟨"NineBarsLaw", "fits", "(LNineBars;III[J)I"⟩, method_28_code, 6, some .int, [(0, 12, 15, 19), (0, 12, 19, 27), (0, 12, 23, 13)], 11)
theorem tb_co_Law_fits : mTB (Cond.codeWith ⟨"NineBarsLaw", "fits", "(LNineBars;III[J)I"⟩ method_28_code 6 (some .int) [(0, 12, 15, 19), (0, 12, 19, 27), (0, 12, 23, 13)]) := tbq6 34 (by decide +kernel) rfl
theorem mc_Law_fits {M : mM} (hd : 11 < mDp M) : mCal M M_Law_fits 5 := ⟨tb_co_Law_fits, tb_in_NineBarsLaw, ⟨by decide +kernel, by decide +kernel⟩, by decide +kernel, hd, by decide⟩
theorem d_Law_fits_0 : decode method_28_code 0 = .ok (.aload 4, 2) := by decide +kernel
theorem d_Law_fits_2 : decode method_28_code 2 = .ok (.iconst 0, 1) := by decide +kernel
theorem d_Law_fits_3 : decode method_28_code 3 = .ok (.aload_n 0, 1) := by decide +kernel
theorem d_Law_fits_4 : decode method_28_code 4 = .ok (.iload_n 1, 1) := by decide +kernel
theorem d_Law_fits_5 : decode method_28_code 5 = .ok (.iload_n 2, 1) := by decide +kernel
theorem d_Law_fits_6 : decode method_28_code 6 = .ok (.iload_n 3, 1) := by decide +kernel
theorem d_Law_fits_7 : decode method_28_code 7 = .ok (.invokevirtual 98, 3) := by decide +kernel
theorem tb_ml_Law_98 : mTB (Cond.methodLink "NineBarsLaw" 98 ⟨"NineBars", "fits", "(III)I"⟩) := tbq6 35 (by decide +kernel) rfl
theorem d_Law_fits_15 : decode method_28_code 15 = .ok (.astore 5, 2) := by decide +kernel
theorem d_Law_fits_17 : decode method_28_code 17 = .ok (.iconst 1, 1) := by decide +kernel
theorem d_Law_fits_18 : decode method_28_code 18 = .ok (.ireturn, 1) := by decide +kernel
theorem d_Law_fits_19 : decode method_28_code 19 = .ok (.astore 5, 2) := by decide +kernel
theorem d_Law_fits_21 : decode method_28_code 21 = .ok (.iconst 2, 1) := by decide +kernel
theorem d_Law_fits_22 : decode method_28_code 22 = .ok (.ireturn, 1) := by decide +kernel
theorem d_Law_fits_23 : decode method_28_code 23 = .ok (.astore 5, 2) := by decide +kernel
theorem d_Law_fits_25 : decode method_28_code 25 = .ok (.iconst 3, 1) := by decide +kernel
theorem d_Law_fits_26 : decode method_28_code 26 = .ok (.ireturn, 1) := by decide +kernel
theorem tb_im_Nb_fits : mTB (Cond.instanceMethod ⟨"NineBars", "fits", "(III)I"⟩) := tbq6 36 (by decide +kernel) rfl
theorem tb_se_Nb_fits : mTB (Cond.selects "NineBars" ⟨"NineBars", "fits", "(III)I"⟩ ⟨"NineBars", "fits", "(III)I"⟩) := tbq6 37 (by decide +kernel) rfl
theorem mv_Nb_fits {M : mM} {idx : Nat} (h : mTB (Cond.methodLink (mO M) idx ⟨"NineBars", "fits", "(III)I"⟩)) : mCaV M M_Nb_fits idx 10 := ⟨h, tb_im_Nb_fits, tb_se_Nb_fits, by decide, TX10, 19, rfl⟩
theorem d_Law_fits_10 : decode method_28_code 10 = .ok (.i2l, 1) := by decide +kernel
theorem d_Law_fits_11 : decode method_28_code 11 = .ok (.lastore, 1) := by decide +kernel
theorem d_Law_fits_12 : decode method_28_code 12 = .ok (.goto 15, 3) := by decide +kernel
theorem d_Law_fits_27 : decode method_28_code 27 = .ok (.iconst 0, 1) := by decide +kernel
theorem d_Law_fits_28 : decode method_28_code 28 = .ok (.ireturn, 1) := by decide +kernel
theorem t_Law_fits {G : mG} (h : mH) (v0 v1 v2 v3 v4 : Int) (r : mR) (hr : f_Law_fits h v0 v1 v2 v3 v4 = some r) : mJM G M_Law_fits [(2, v0), (0, v1), (0, v2), (0, v3), (2, v4)] h r := by
  refine mJM_of (L := [(2, v0), (0, v1), (0, v2), (0, v3), (2, v4), (9, 0)]) rfl rfl rfl (Nat.le_of_ble_eq_true rfl) ?_
  unfold f_Law_fits at hr
  refine j_aload (pc := 0) d_Law_fits_0 rfl ?_
  refine j_iconst (pc := 2) d_Law_fits_2 ?_
  refine j_aload_n (pc := 3) d_Law_fits_3 rfl ?_
  refine j_iload_n (pc := 4) d_Law_fits_4 rfl ?_
  refine j_iload_n (pc := 5) d_Law_fits_5 rfl ?_
  refine j_iload_n (pc := 6) d_Law_fits_6 rfl ?_
  obtain ⟨ha, hr⟩ := chk_some hr
  refine j_callC (pc := 7) (stk := [(0, v3), (0, v2), (0, v1), (2, v0), (0, 0), (2, v4)]) (as := [(2, v0), (0, v1), (0, v2), (0, v3)]) (P := (fun v9 => ((0 : Nat), v9) :: [(0, 0), (2, v4)])) (tg := 0) (ns := [("java/util/NoSuchElementException", 15), ("java/lang/IllegalStateException", 19), ("java/lang/IllegalArgumentException", 23)]) (mRunV (as := [(0, v1), (0, v2), (0, v3)]) (st := [(0, 0), (2, v4)]) d_Law_fits_7 (mc_Nb_fits (by decide)) rfl (mv_Nb_fits tb_ml_Law_98) rfl (Nat.le_of_ble_eq_true rfl) ha) (fun v => rfl) ⟨⟨by decide, by decide, rfl, by decide⟩, by decide +kernel, tb_cl_Law_19, ⟨⟨by decide, by decide, rfl, by decide⟩, by decide +kernel, tb_cl_Law_27, ⟨⟨by decide, by decide, rfl, by decide⟩, by decide +kernel, tb_cl_Law_13, trivial⟩⟩⟩ hr (fun r1 h1 => t_Nb_fits _ _ _ _ _ _ h1) (fun e h1 hr => ?_) (fun x2 h1 hr => ?_)
  · by_cases he : e = exNo "java/util/NoSuchElementException"
    · rw [if_pos he] at hr
      exact ⟨"java/util/NoSuchElementException", 15, 5, 2, he.symm, by decide +kernel, by decide +kernel, Or.inr ⟨d_Law_fits_15, rfl⟩, (Nat.le_of_ble_eq_true rfl), j_iconst (pc := 17) d_Law_fits_17 (j_iret (pc := 18) d_Law_fits_18 rfl hr)⟩
    · rw [if_neg he] at hr
      by_cases he : e = exNo "java/lang/IllegalStateException"
      · rw [if_pos he] at hr
        exact ⟨"java/lang/IllegalStateException", 19, 5, 2, he.symm, by decide +kernel, by decide +kernel, Or.inr ⟨d_Law_fits_19, rfl⟩, (Nat.le_of_ble_eq_true rfl), j_iconst (pc := 21) d_Law_fits_21 (j_iret (pc := 22) d_Law_fits_22 rfl hr)⟩
      · rw [if_neg he] at hr
        by_cases he : e = exNo "java/lang/IllegalArgumentException"
        · rw [if_pos he] at hr
          exact ⟨"java/lang/IllegalArgumentException", 23, 5, 2, he.symm, by decide +kernel, by decide +kernel, Or.inr ⟨d_Law_fits_23, rfl⟩, (Nat.le_of_ble_eq_true rfl), j_iconst (pc := 25) d_Law_fits_25 (j_iret (pc := 26) d_Law_fits_26 rfl hr)⟩
        · rw [if_neg he] at hr
          cases hr
  refine j_i2l (pc := 10) d_Law_fits_10 ?_
  refine j_lastore (pc := 11) d_Law_fits_11 hr (fun h3 hr => ?_)
  refine j_goto (pc := 12) (tgt := 27) d_Law_fits_12 ?_
  refine j_iconst (pc := 27) d_Law_fits_27 ?_
  exact j_iret (pc := 28) d_Law_fits_28 rfl hr
def M_Law_tries : mM := ("NineBarsLaw", ⟨"NineBarsLaw", "tries", "(LNineBars;III[J)I"⟩, method_29_code, 6, some .int, [(0, 12, 15, 19), (0, 12, 19, 27), (0, 12, 23, 13)], 11)
theorem tb_co_Law_tries : mTB (Cond.codeWith ⟨"NineBarsLaw", "tries", "(LNineBars;III[J)I"⟩ method_29_code 6 (some .int) [(0, 12, 15, 19), (0, 12, 19, 27), (0, 12, 23, 13)]) := tbq6 60 (by decide +kernel) rfl
theorem mc_Law_tries {M : mM} (hd : 11 < mDp M) : mCal M M_Law_tries 5 := ⟨tb_co_Law_tries, tb_in_NineBarsLaw, ⟨by decide +kernel, by decide +kernel⟩, by decide +kernel, hd, by decide⟩
theorem d_Law_tries_0 : decode method_29_code 0 = .ok (.aload 4, 2) := by decide +kernel
theorem d_Law_tries_2 : decode method_29_code 2 = .ok (.iconst 0, 1) := by decide +kernel
theorem d_Law_tries_3 : decode method_29_code 3 = .ok (.aload_n 0, 1) := by decide +kernel
theorem d_Law_tries_4 : decode method_29_code 4 = .ok (.iload_n 1, 1) := by decide +kernel
theorem d_Law_tries_5 : decode method_29_code 5 = .ok (.iload_n 2, 1) := by decide +kernel
theorem d_Law_tries_6 : decode method_29_code 6 = .ok (.iload_n 3, 1) := by decide +kernel
theorem d_Law_tries_7 : decode method_29_code 7 = .ok (.invokevirtual 101, 3) := by decide +kernel
theorem tb_ml_Law_101 : mTB (Cond.methodLink "NineBarsLaw" 101 ⟨"NineBars", "tries", "(III)I"⟩) := tbq6 61 (by decide +kernel) rfl
theorem d_Law_tries_15 : decode method_29_code 15 = .ok (.astore 5, 2) := by decide +kernel
theorem d_Law_tries_17 : decode method_29_code 17 = .ok (.iconst 1, 1) := by decide +kernel
theorem d_Law_tries_18 : decode method_29_code 18 = .ok (.ireturn, 1) := by decide +kernel
theorem d_Law_tries_19 : decode method_29_code 19 = .ok (.astore 5, 2) := by decide +kernel
theorem d_Law_tries_21 : decode method_29_code 21 = .ok (.iconst 2, 1) := by decide +kernel
theorem d_Law_tries_22 : decode method_29_code 22 = .ok (.ireturn, 1) := by decide +kernel
theorem d_Law_tries_23 : decode method_29_code 23 = .ok (.astore 5, 2) := by decide +kernel
theorem d_Law_tries_25 : decode method_29_code 25 = .ok (.iconst 3, 1) := by decide +kernel
theorem d_Law_tries_26 : decode method_29_code 26 = .ok (.ireturn, 1) := by decide +kernel
theorem tb_im_Nb_tries : mTB (Cond.instanceMethod ⟨"NineBars", "tries", "(III)I"⟩) := tbq6 62 (by decide +kernel) rfl
theorem tb_se_Nb_tries : mTB (Cond.selects "NineBars" ⟨"NineBars", "tries", "(III)I"⟩ ⟨"NineBars", "tries", "(III)I"⟩) := tbq6 63 (by decide +kernel) rfl
theorem mv_Nb_tries {M : mM} {idx : Nat} (h : mTB (Cond.methodLink (mO M) idx ⟨"NineBars", "tries", "(III)I"⟩)) : mCaV M M_Nb_tries idx 10 := ⟨h, tb_im_Nb_tries, tb_se_Nb_tries, by decide, TX10, 19, rfl⟩
theorem d_Law_tries_10 : decode method_29_code 10 = .ok (.i2l, 1) := by decide +kernel
theorem d_Law_tries_11 : decode method_29_code 11 = .ok (.lastore, 1) := by decide +kernel
theorem d_Law_tries_12 : decode method_29_code 12 = .ok (.goto 15, 3) := by decide +kernel
theorem d_Law_tries_27 : decode method_29_code 27 = .ok (.iconst 0, 1) := by decide +kernel
theorem d_Law_tries_28 : decode method_29_code 28 = .ok (.ireturn, 1) := by decide +kernel
theorem t_Law_tries {G : mG} (h : mH) (v0 v1 v2 v3 v4 : Int) (r : mR) (hr : f_Law_tries h v0 v1 v2 v3 v4 = some r) : mJM G M_Law_tries [(2, v0), (0, v1), (0, v2), (0, v3), (2, v4)] h r := by
  refine mJM_of (L := [(2, v0), (0, v1), (0, v2), (0, v3), (2, v4), (9, 0)]) rfl rfl rfl (Nat.le_of_ble_eq_true rfl) ?_
  unfold f_Law_tries at hr
  refine j_aload (pc := 0) d_Law_tries_0 rfl ?_
  refine j_iconst (pc := 2) d_Law_tries_2 ?_
  refine j_aload_n (pc := 3) d_Law_tries_3 rfl ?_
  refine j_iload_n (pc := 4) d_Law_tries_4 rfl ?_
  refine j_iload_n (pc := 5) d_Law_tries_5 rfl ?_
  refine j_iload_n (pc := 6) d_Law_tries_6 rfl ?_
  obtain ⟨ha, hr⟩ := chk_some hr
  refine j_callC (pc := 7) (stk := [(0, v3), (0, v2), (0, v1), (2, v0), (0, 0), (2, v4)]) (as := [(2, v0), (0, v1), (0, v2), (0, v3)]) (P := (fun v9 => ((0 : Nat), v9) :: [(0, 0), (2, v4)])) (tg := 0) (ns := [("java/util/NoSuchElementException", 15), ("java/lang/IllegalStateException", 19), ("java/lang/IllegalArgumentException", 23)]) (mRunV (as := [(0, v1), (0, v2), (0, v3)]) (st := [(0, 0), (2, v4)]) d_Law_tries_7 (mc_Nb_tries (by decide)) rfl (mv_Nb_tries tb_ml_Law_101) rfl (Nat.le_of_ble_eq_true rfl) ha) (fun v => rfl) ⟨⟨by decide, by decide, rfl, by decide⟩, by decide +kernel, tb_cl_Law_19, ⟨⟨by decide, by decide, rfl, by decide⟩, by decide +kernel, tb_cl_Law_27, ⟨⟨by decide, by decide, rfl, by decide⟩, by decide +kernel, tb_cl_Law_13, trivial⟩⟩⟩ hr (fun r1 h1 => t_Nb_tries _ _ _ _ _ _ h1) (fun e h1 hr => ?_) (fun x2 h1 hr => ?_)
  · by_cases he : e = exNo "java/util/NoSuchElementException"
    · rw [if_pos he] at hr
      exact ⟨"java/util/NoSuchElementException", 15, 5, 2, he.symm, by decide +kernel, by decide +kernel, Or.inr ⟨d_Law_tries_15, rfl⟩, (Nat.le_of_ble_eq_true rfl), j_iconst (pc := 17) d_Law_tries_17 (j_iret (pc := 18) d_Law_tries_18 rfl hr)⟩
    · rw [if_neg he] at hr
      by_cases he : e = exNo "java/lang/IllegalStateException"
      · rw [if_pos he] at hr
        exact ⟨"java/lang/IllegalStateException", 19, 5, 2, he.symm, by decide +kernel, by decide +kernel, Or.inr ⟨d_Law_tries_19, rfl⟩, (Nat.le_of_ble_eq_true rfl), j_iconst (pc := 21) d_Law_tries_21 (j_iret (pc := 22) d_Law_tries_22 rfl hr)⟩
      · rw [if_neg he] at hr
        by_cases he : e = exNo "java/lang/IllegalArgumentException"
        · rw [if_pos he] at hr
          exact ⟨"java/lang/IllegalArgumentException", 23, 5, 2, he.symm, by decide +kernel, by decide +kernel, Or.inr ⟨d_Law_tries_23, rfl⟩, (Nat.le_of_ble_eq_true rfl), j_iconst (pc := 25) d_Law_tries_25 (j_iret (pc := 26) d_Law_tries_26 rfl hr)⟩
        · rw [if_neg he] at hr
          cases hr
  refine j_i2l (pc := 10) d_Law_tries_10 ?_
  refine j_lastore (pc := 11) d_Law_tries_11 hr (fun h3 hr => ?_)
  refine j_goto (pc := 12) (tgt := 27) d_Law_tries_12 ?_
  refine j_iconst (pc := 27) d_Law_tries_27 ?_
  exact j_iret (pc := 28) d_Law_tries_28 rfl hr
def M_Law_rows : mM := ("NineBarsLaw", ⟨"NineBarsLaw", "rows", "(LNineBars;IZ[J)I"⟩, method_30_code, 5, some .int, [(0, 9, 12, 13), (0, 9, 16, 27)], 15)
theorem tb_co_Law_rows : mTB (Cond.codeWith ⟨"NineBarsLaw", "rows", "(LNineBars;IZ[J)I"⟩ method_30_code 5 (some .int) [(0, 9, 12, 13), (0, 9, 16, 27)]) := tbq6 79 (by decide +kernel) rfl
theorem mc_Law_rows {M : mM} (hd : 15 < mDp M) : mCal M M_Law_rows 4 := ⟨tb_co_Law_rows, tb_in_NineBarsLaw, ⟨by decide +kernel, by decide +kernel⟩, by decide +kernel, hd, by decide⟩
theorem d_Law_rows_0 : decode method_30_code 0 = .ok (.aload_n 3, 1) := by decide +kernel
theorem d_Law_rows_1 : decode method_30_code 1 = .ok (.iconst 0, 1) := by decide +kernel
theorem d_Law_rows_2 : decode method_30_code 2 = .ok (.aload_n 0, 1) := by decide +kernel
theorem d_Law_rows_3 : decode method_30_code 3 = .ok (.iload_n 1, 1) := by decide +kernel
theorem d_Law_rows_4 : decode method_30_code 4 = .ok (.iload_n 2, 1) := by decide +kernel
theorem d_Law_rows_5 : decode method_30_code 5 = .ok (.invokevirtual 104, 3) := by decide +kernel
theorem tb_ml_Law_104 : mTB (Cond.methodLink "NineBarsLaw" 104 ⟨"NineBars", "rows", "(IZ)J"⟩) := tbq6 80 (by decide +kernel) rfl
theorem d_Law_rows_12 : decode method_30_code 12 = .ok (.astore 4, 2) := by decide +kernel
theorem d_Law_rows_14 : decode method_30_code 14 = .ok (.iconst 1, 1) := by decide +kernel
theorem d_Law_rows_15 : decode method_30_code 15 = .ok (.ireturn, 1) := by decide +kernel
theorem d_Law_rows_16 : decode method_30_code 16 = .ok (.astore 4, 2) := by decide +kernel
theorem d_Law_rows_18 : decode method_30_code 18 = .ok (.iconst 2, 1) := by decide +kernel
theorem d_Law_rows_19 : decode method_30_code 19 = .ok (.ireturn, 1) := by decide +kernel
theorem tb_im_Nb_rows : mTB (Cond.instanceMethod ⟨"NineBars", "rows", "(IZ)J"⟩) := tbq6 81 (by decide +kernel) rfl
theorem tb_se_Nb_rows : mTB (Cond.selects "NineBars" ⟨"NineBars", "rows", "(IZ)J"⟩ ⟨"NineBars", "rows", "(IZ)J"⟩) := tbq6 82 (by decide +kernel) rfl
theorem mv_Nb_rows {M : mM} {idx : Nat} (h : mTB (Cond.methodLink (mO M) idx ⟨"NineBars", "rows", "(IZ)J"⟩)) : mCaV M M_Nb_rows idx 10 := ⟨h, tb_im_Nb_rows, tb_se_Nb_rows, by decide, TX10, 19, rfl⟩
theorem d_Law_rows_8 : decode method_30_code 8 = .ok (.lastore, 1) := by decide +kernel
theorem d_Law_rows_9 : decode method_30_code 9 = .ok (.goto 11, 3) := by decide +kernel
theorem d_Law_rows_20 : decode method_30_code 20 = .ok (.iconst 0, 1) := by decide +kernel
theorem d_Law_rows_21 : decode method_30_code 21 = .ok (.ireturn, 1) := by decide +kernel
theorem t_Law_rows {G : mG} (h : mH) (v0 v1 v2 v3 : Int) (r : mR) (hr : f_Law_rows h v0 v1 v2 v3 = some r) : mJM G M_Law_rows [(2, v0), (0, v1), (0, v2), (2, v3)] h r := by
  refine mJM_of (L := [(2, v0), (0, v1), (0, v2), (2, v3), (9, 0)]) rfl rfl rfl (Nat.le_of_ble_eq_true rfl) ?_
  unfold f_Law_rows at hr
  refine j_aload_n (pc := 0) d_Law_rows_0 rfl ?_
  refine j_iconst (pc := 1) d_Law_rows_1 ?_
  refine j_aload_n (pc := 2) d_Law_rows_2 rfl ?_
  refine j_iload_n (pc := 3) d_Law_rows_3 rfl ?_
  refine j_iload_n (pc := 4) d_Law_rows_4 rfl ?_
  obtain ⟨ha, hr⟩ := chk_some hr
  refine j_callC (pc := 5) (stk := [(0, v2), (0, v1), (2, v0), (0, 0), (2, v3)]) (as := [(2, v0), (0, v1), (0, v2)]) (P := (fun v9 => ((1 : Nat), v9) :: [(0, 0), (2, v3)])) (tg := 1) (ns := [("java/lang/IllegalArgumentException", 12), ("java/lang/IllegalStateException", 16)]) (mRunV (as := [(0, v1), (0, v2)]) (st := [(0, 0), (2, v3)]) d_Law_rows_5 (mc_Nb_rows (by decide)) rfl (mv_Nb_rows tb_ml_Law_104) rfl (Nat.le_of_ble_eq_true rfl) ha) (fun v => rfl) ⟨⟨by decide, by decide, rfl, by decide⟩, by decide +kernel, tb_cl_Law_13, ⟨⟨by decide, by decide, rfl, by decide⟩, by decide +kernel, tb_cl_Law_27, trivial⟩⟩ hr (fun r1 h1 => t_Nb_rows _ _ _ _ _ h1) (fun e h1 hr => ?_) (fun x2 h1 hr => ?_)
  · by_cases he : e = exNo "java/lang/IllegalArgumentException"
    · rw [if_pos he] at hr
      exact ⟨"java/lang/IllegalArgumentException", 12, 4, 2, he.symm, by decide +kernel, by decide +kernel, Or.inr ⟨d_Law_rows_12, rfl⟩, (Nat.le_of_ble_eq_true rfl), j_iconst (pc := 14) d_Law_rows_14 (j_iret (pc := 15) d_Law_rows_15 rfl hr)⟩
    · rw [if_neg he] at hr
      by_cases he : e = exNo "java/lang/IllegalStateException"
      · rw [if_pos he] at hr
        exact ⟨"java/lang/IllegalStateException", 16, 4, 2, he.symm, by decide +kernel, by decide +kernel, Or.inr ⟨d_Law_rows_16, rfl⟩, (Nat.le_of_ble_eq_true rfl), j_iconst (pc := 18) d_Law_rows_18 (j_iret (pc := 19) d_Law_rows_19 rfl hr)⟩
      · rw [if_neg he] at hr
        cases hr
  refine j_lastore (pc := 8) d_Law_rows_8 hr (fun h3 hr => ?_)
  refine j_goto (pc := 9) (tgt := 20) d_Law_rows_9 ?_
  refine j_iconst (pc := 20) d_Law_rows_20 ?_
  exact j_iret (pc := 21) d_Law_rows_21 rfl hr
def M_Law_keys : mM := ("NineBarsLaw", ⟨"NineBarsLaw", "keys", "(LNineBars;[J)I"⟩, method_31_code, 3, some .int, [(0, 8, 11, 27)], 15)
theorem tb_co_Law_keys : mTB (Cond.codeWith ⟨"NineBarsLaw", "keys", "(LNineBars;[J)I"⟩ method_31_code 3 (some .int) [(0, 8, 11, 27)]) := tbq6 91 (by decide +kernel) rfl
theorem mc_Law_keys {M : mM} (hd : 15 < mDp M) : mCal M M_Law_keys 2 := ⟨tb_co_Law_keys, tb_in_NineBarsLaw, ⟨by decide +kernel, by decide +kernel⟩, by decide +kernel, hd, by decide⟩
theorem d_Law_keys_0 : decode method_31_code 0 = .ok (.aload_n 1, 1) := by decide +kernel
theorem d_Law_keys_1 : decode method_31_code 1 = .ok (.iconst 0, 1) := by decide +kernel
theorem d_Law_keys_2 : decode method_31_code 2 = .ok (.aload_n 0, 1) := by decide +kernel
theorem d_Law_keys_3 : decode method_31_code 3 = .ok (.invokevirtual 108, 3) := by decide +kernel
theorem tb_ml_Law_108 : mTB (Cond.methodLink "NineBarsLaw" 108 ⟨"NineBars", "keys", "()I"⟩) := tbq6 92 (by decide +kernel) rfl
theorem d_Law_keys_11 : decode method_31_code 11 = .ok (.astore_n 2, 1) := by decide +kernel
theorem d_Law_keys_12 : decode method_31_code 12 = .ok (.iconst 1, 1) := by decide +kernel
theorem d_Law_keys_13 : decode method_31_code 13 = .ok (.ireturn, 1) := by decide +kernel
theorem tb_im_Nb_keys : mTB (Cond.instanceMethod ⟨"NineBars", "keys", "()I"⟩) := tbq6 93 (by decide +kernel) rfl
theorem tb_se_Nb_keys : mTB (Cond.selects "NineBars" ⟨"NineBars", "keys", "()I"⟩ ⟨"NineBars", "keys", "()I"⟩) := tbq6 94 (by decide +kernel) rfl
theorem mv_Nb_keys {M : mM} {idx : Nat} (h : mTB (Cond.methodLink (mO M) idx ⟨"NineBars", "keys", "()I"⟩)) : mCaV M M_Nb_keys idx 10 := ⟨h, tb_im_Nb_keys, tb_se_Nb_keys, by decide, TX10, 19, rfl⟩
theorem d_Law_keys_6 : decode method_31_code 6 = .ok (.i2l, 1) := by decide +kernel
theorem d_Law_keys_7 : decode method_31_code 7 = .ok (.lastore, 1) := by decide +kernel
theorem d_Law_keys_8 : decode method_31_code 8 = .ok (.goto 6, 3) := by decide +kernel
theorem d_Law_keys_14 : decode method_31_code 14 = .ok (.iconst 0, 1) := by decide +kernel
theorem d_Law_keys_15 : decode method_31_code 15 = .ok (.ireturn, 1) := by decide +kernel
theorem t_Law_keys {G : mG} (h : mH) (v0 v1 : Int) (r : mR) (hr : f_Law_keys h v0 v1 = some r) : mJM G M_Law_keys [(2, v0), (2, v1)] h r := by
  refine mJM_of (L := [(2, v0), (2, v1), (9, 0)]) rfl rfl rfl (Nat.le_of_ble_eq_true rfl) ?_
  unfold f_Law_keys at hr
  refine j_aload_n (pc := 0) d_Law_keys_0 rfl ?_
  refine j_iconst (pc := 1) d_Law_keys_1 ?_
  refine j_aload_n (pc := 2) d_Law_keys_2 rfl ?_
  obtain ⟨ha, hr⟩ := chk_some hr
  refine j_callC (pc := 3) (stk := [(2, v0), (0, 0), (2, v1)]) (as := [(2, v0)]) (P := (fun v9 => ((0 : Nat), v9) :: [(0, 0), (2, v1)])) (tg := 0) (ns := [("java/lang/IllegalStateException", 11)]) (mRunV (as := []) (st := [(0, 0), (2, v1)]) d_Law_keys_3 (mc_Nb_keys (by decide)) rfl (mv_Nb_keys tb_ml_Law_108) rfl (Nat.le_of_ble_eq_true rfl) ha) (fun v => rfl) ⟨⟨by decide, by decide, rfl, by decide⟩, by decide +kernel, tb_cl_Law_27, trivial⟩ hr (fun r1 h1 => t_Nb_keys _ _ _ h1) (fun e h1 hr => ?_) (fun x2 h1 hr => ?_)
  · by_cases he : e = exNo "java/lang/IllegalStateException"
    · rw [if_pos he] at hr
      exact ⟨"java/lang/IllegalStateException", 11, 2, 1, he.symm, by decide +kernel, by decide +kernel, Or.inl ⟨2, rfl, d_Law_keys_11, rfl⟩, (Nat.le_of_ble_eq_true rfl), j_iconst (pc := 12) d_Law_keys_12 (j_iret (pc := 13) d_Law_keys_13 rfl hr)⟩
    · rw [if_neg he] at hr
      cases hr
  refine j_i2l (pc := 6) d_Law_keys_6 ?_
  refine j_lastore (pc := 7) d_Law_keys_7 hr (fun h3 hr => ?_)
  refine j_goto (pc := 8) (tgt := 14) d_Law_keys_8 ?_
  refine j_iconst (pc := 14) d_Law_keys_14 ?_
  exact j_iret (pc := 15) d_Law_keys_15 rfl hr
def M_Law_tray : mM := ("NineBarsLaw", ⟨"NineBarsLaw", "tray", "(LNineBars;III)I"⟩, method_32_code, 5, some .int, [(0, 7, 10, 19), (0, 7, 14, 13)], 5)
theorem tb_co_Law_tray : mTB (Cond.codeWith ⟨"NineBarsLaw", "tray", "(LNineBars;III)I"⟩ method_32_code 5 (some .int) [(0, 7, 10, 19), (0, 7, 14, 13)]) := tbq6 132 (by decide +kernel) rfl
theorem mc_Law_tray {M : mM} (hd : 5 < mDp M) : mCal M M_Law_tray 4 := ⟨tb_co_Law_tray, tb_in_NineBarsLaw, ⟨by decide +kernel, by decide +kernel⟩, by decide +kernel, hd, by decide⟩
theorem d_Law_tray_0 : decode method_32_code 0 = .ok (.aload_n 0, 1) := by decide +kernel
theorem d_Law_tray_1 : decode method_32_code 1 = .ok (.iload_n 1, 1) := by decide +kernel
theorem d_Law_tray_2 : decode method_32_code 2 = .ok (.iload_n 2, 1) := by decide +kernel
theorem d_Law_tray_3 : decode method_32_code 3 = .ok (.iload_n 3, 1) := by decide +kernel
theorem d_Law_tray_4 : decode method_32_code 4 = .ok (.invokevirtual 111, 3) := by decide +kernel
theorem tb_ml_Law_111 : mTB (Cond.methodLink "NineBarsLaw" 111 ⟨"NineBars", "tray", "(III)V"⟩) := tbq6 133 (by decide +kernel) rfl
theorem d_Law_tray_10 : decode method_32_code 10 = .ok (.astore 4, 2) := by decide +kernel
theorem d_Law_tray_12 : decode method_32_code 12 = .ok (.iconst 1, 1) := by decide +kernel
theorem d_Law_tray_13 : decode method_32_code 13 = .ok (.ireturn, 1) := by decide +kernel
theorem d_Law_tray_14 : decode method_32_code 14 = .ok (.astore 4, 2) := by decide +kernel
theorem d_Law_tray_16 : decode method_32_code 16 = .ok (.iconst 2, 1) := by decide +kernel
theorem d_Law_tray_17 : decode method_32_code 17 = .ok (.ireturn, 1) := by decide +kernel
theorem tb_im_Nb_tray : mTB (Cond.instanceMethod ⟨"NineBars", "tray", "(III)V"⟩) := tbq6 134 (by decide +kernel) rfl
theorem tb_se_Nb_tray : mTB (Cond.selects "NineBars" ⟨"NineBars", "tray", "(III)V"⟩ ⟨"NineBars", "tray", "(III)V"⟩) := tbq6 135 (by decide +kernel) rfl
theorem mv_Nb_tray {M : mM} {idx : Nat} (h : mTB (Cond.methodLink (mO M) idx ⟨"NineBars", "tray", "(III)V"⟩)) : mCaV M M_Nb_tray idx 10 := ⟨h, tb_im_Nb_tray, tb_se_Nb_tray, by decide, TX10, 19, rfl⟩
theorem d_Law_tray_7 : decode method_32_code 7 = .ok (.goto 11, 3) := by decide +kernel
theorem d_Law_tray_18 : decode method_32_code 18 = .ok (.iconst 0, 1) := by decide +kernel
theorem d_Law_tray_19 : decode method_32_code 19 = .ok (.ireturn, 1) := by decide +kernel
theorem t_Law_tray {G : mG} (h : mH) (v0 v1 v2 v3 : Int) (r : mR) (hr : f_Law_tray h v0 v1 v2 v3 = some r) : mJM G M_Law_tray [(2, v0), (0, v1), (0, v2), (0, v3)] h r := by
  refine mJM_of (L := [(2, v0), (0, v1), (0, v2), (0, v3), (9, 0)]) rfl rfl rfl (Nat.le_of_ble_eq_true rfl) ?_
  unfold f_Law_tray at hr
  refine j_aload_n (pc := 0) d_Law_tray_0 rfl ?_
  refine j_iload_n (pc := 1) d_Law_tray_1 rfl ?_
  refine j_iload_n (pc := 2) d_Law_tray_2 rfl ?_
  refine j_iload_n (pc := 3) d_Law_tray_3 rfl ?_
  obtain ⟨ha, hr⟩ := chk_some hr
  refine j_callC (pc := 4) (stk := [(0, v3), (0, v2), (0, v1), (2, v0)]) (as := [(2, v0), (0, v1), (0, v2), (0, v3)]) (P := (fun v9 => [])) (tg := 3) (ns := [("java/util/NoSuchElementException", 10), ("java/lang/IllegalArgumentException", 14)]) (mRunV (as := [(0, v1), (0, v2), (0, v3)]) (st := []) d_Law_tray_4 (mc_Nb_tray (by decide)) rfl (mv_Nb_tray tb_ml_Law_111) rfl (Nat.le_of_ble_eq_true rfl) ha) (fun v => rfl) ⟨⟨by decide, by decide, rfl, by decide⟩, by decide +kernel, tb_cl_Law_19, ⟨⟨by decide, by decide, rfl, by decide⟩, by decide +kernel, tb_cl_Law_13, trivial⟩⟩ hr (fun r1 h1 => t_Nb_tray _ _ _ _ _ _ h1) (fun e h1 hr => ?_) (fun x2 h1 hr => ?_)
  · by_cases he : e = exNo "java/util/NoSuchElementException"
    · rw [if_pos he] at hr
      exact ⟨"java/util/NoSuchElementException", 10, 4, 2, he.symm, by decide +kernel, by decide +kernel, Or.inr ⟨d_Law_tray_10, rfl⟩, (Nat.le_of_ble_eq_true rfl), j_iconst (pc := 12) d_Law_tray_12 (j_iret (pc := 13) d_Law_tray_13 rfl hr)⟩
    · rw [if_neg he] at hr
      by_cases he : e = exNo "java/lang/IllegalArgumentException"
      · rw [if_pos he] at hr
        exact ⟨"java/lang/IllegalArgumentException", 14, 4, 2, he.symm, by decide +kernel, by decide +kernel, Or.inr ⟨d_Law_tray_14, rfl⟩, (Nat.le_of_ble_eq_true rfl), j_iconst (pc := 16) d_Law_tray_16 (j_iret (pc := 17) d_Law_tray_17 rfl hr)⟩
      · rw [if_neg he] at hr
        cases hr
  refine j_goto (pc := 7) (tgt := 18) d_Law_tray_7 ?_
  refine j_iconst (pc := 18) d_Law_tray_18 ?_
  exact j_iret (pc := 19) d_Law_tray_19 rfl hr
def M_Law_write : mM := ("NineBarsLaw", ⟨"NineBarsLaw", "write", "(LNineBars;IIJ[J)I"⟩, method_33_code, 7, some .int, [(0, 11, 14, 19), (0, 11, 18, 27), (0, 11, 22, 119)], 7)
theorem tb_co_Law_write : mTB (Cond.codeWith ⟨"NineBarsLaw", "write", "(LNineBars;IIJ[J)I"⟩ method_33_code 7 (some .int) [(0, 11, 14, 19), (0, 11, 18, 27), (0, 11, 22, 119)]) := tbq6 144 (by decide +kernel) rfl
theorem mc_Law_write {M : mM} (hd : 7 < mDp M) : mCal M M_Law_write 5 := ⟨tb_co_Law_write, tb_in_NineBarsLaw, ⟨by decide +kernel, by decide +kernel⟩, by decide +kernel, hd, by decide⟩
theorem d_Law_write_0 : decode method_33_code 0 = .ok (.aload 5, 2) := by decide +kernel
theorem d_Law_write_2 : decode method_33_code 2 = .ok (.iconst 0, 1) := by decide +kernel
theorem d_Law_write_3 : decode method_33_code 3 = .ok (.aload_n 0, 1) := by decide +kernel
theorem d_Law_write_4 : decode method_33_code 4 = .ok (.iload_n 1, 1) := by decide +kernel
theorem d_Law_write_5 : decode method_33_code 5 = .ok (.iload_n 2, 1) := by decide +kernel
theorem d_Law_write_6 : decode method_33_code 6 = .ok (.lload_n 3, 1) := by decide +kernel
theorem d_Law_write_7 : decode method_33_code 7 = .ok (.invokevirtual 115, 3) := by decide +kernel
theorem tb_ml_Law_115 : mTB (Cond.methodLink "NineBarsLaw" 115 ⟨"NineBars", "write", "(IIJ)J"⟩) := tbq6 146 (by decide +kernel) rfl
theorem tb_cl_Law_119 : mTB (Cond.classLink "NineBarsLaw" 119 "java/lang/IndexOutOfBoundsException") := tbq6 145 (by decide +kernel) rfl
theorem d_Law_write_14 : decode method_33_code 14 = .ok (.astore 6, 2) := by decide +kernel
theorem d_Law_write_16 : decode method_33_code 16 = .ok (.iconst 1, 1) := by decide +kernel
theorem d_Law_write_17 : decode method_33_code 17 = .ok (.ireturn, 1) := by decide +kernel
theorem d_Law_write_18 : decode method_33_code 18 = .ok (.astore 6, 2) := by decide +kernel
theorem d_Law_write_20 : decode method_33_code 20 = .ok (.iconst 2, 1) := by decide +kernel
theorem d_Law_write_21 : decode method_33_code 21 = .ok (.ireturn, 1) := by decide +kernel
theorem d_Law_write_22 : decode method_33_code 22 = .ok (.astore 6, 2) := by decide +kernel
theorem d_Law_write_24 : decode method_33_code 24 = .ok (.iconst 3, 1) := by decide +kernel
theorem d_Law_write_25 : decode method_33_code 25 = .ok (.ireturn, 1) := by decide +kernel
theorem tb_im_Nb_write : mTB (Cond.instanceMethod ⟨"NineBars", "write", "(IIJ)J"⟩) := tbq6 147 (by decide +kernel) rfl
theorem tb_se_Nb_write : mTB (Cond.selects "NineBars" ⟨"NineBars", "write", "(IIJ)J"⟩ ⟨"NineBars", "write", "(IIJ)J"⟩) := tbq6 148 (by decide +kernel) rfl
theorem mv_Nb_write {M : mM} {idx : Nat} (h : mTB (Cond.methodLink (mO M) idx ⟨"NineBars", "write", "(IIJ)J"⟩)) : mCaV M M_Nb_write idx 10 := ⟨h, tb_im_Nb_write, tb_se_Nb_write, by decide, TX10, 19, rfl⟩
theorem d_Law_write_10 : decode method_33_code 10 = .ok (.lastore, 1) := by decide +kernel
theorem d_Law_write_11 : decode method_33_code 11 = .ok (.goto 15, 3) := by decide +kernel
theorem d_Law_write_26 : decode method_33_code 26 = .ok (.iconst 0, 1) := by decide +kernel
theorem d_Law_write_27 : decode method_33_code 27 = .ok (.ireturn, 1) := by decide +kernel
theorem t_Law_write {G : mG} (h : mH) (v0 v1 v2 v3 v5 : Int) (r : mR) (hr : f_Law_write h v0 v1 v2 v3 v5 = some r) : mJM G M_Law_write [(2, v0), (0, v1), (0, v2), (1, v3), (2, v5)] h r := by
  refine mJM_of (L := [(2, v0), (0, v1), (0, v2), (1, v3), (9, 0), (2, v5), (9, 0)]) rfl rfl rfl (Nat.le_of_ble_eq_true rfl) ?_
  unfold f_Law_write at hr
  refine j_aload (pc := 0) d_Law_write_0 rfl ?_
  refine j_iconst (pc := 2) d_Law_write_2 ?_
  refine j_aload_n (pc := 3) d_Law_write_3 rfl ?_
  refine j_iload_n (pc := 4) d_Law_write_4 rfl ?_
  refine j_iload_n (pc := 5) d_Law_write_5 rfl ?_
  refine j_lload_n (pc := 6) d_Law_write_6 rfl ?_
  obtain ⟨ha, hr⟩ := chk_some hr
  refine j_callC (pc := 7) (stk := [(1, v3), (0, v2), (0, v1), (2, v0), (0, 0), (2, v5)]) (as := [(2, v0), (0, v1), (0, v2), (1, v3)]) (P := (fun v9 => ((1 : Nat), v9) :: [(0, 0), (2, v5)])) (tg := 1) (ns := [("java/util/NoSuchElementException", 14), ("java/lang/IllegalStateException", 18), ("java/lang/IndexOutOfBoundsException", 22)]) (mRunV (as := [(0, v1), (0, v2), (1, v3)]) (st := [(0, 0), (2, v5)]) d_Law_write_7 (mc_Nb_write (by decide)) rfl (mv_Nb_write tb_ml_Law_115) rfl (Nat.le_of_ble_eq_true rfl) ha) (fun v => rfl) ⟨⟨by decide, by decide, rfl, by decide⟩, by decide +kernel, tb_cl_Law_19, ⟨⟨by decide, by decide, rfl, by decide⟩, by decide +kernel, tb_cl_Law_27, ⟨⟨by decide, by decide, rfl, by decide⟩, by decide +kernel, tb_cl_Law_119, trivial⟩⟩⟩ hr (fun r1 h1 => t_Nb_write _ _ _ _ _ _ h1) (fun e h1 hr => ?_) (fun x2 h1 hr => ?_)
  · by_cases he : e = exNo "java/util/NoSuchElementException"
    · rw [if_pos he] at hr
      exact ⟨"java/util/NoSuchElementException", 14, 6, 2, he.symm, by decide +kernel, by decide +kernel, Or.inr ⟨d_Law_write_14, rfl⟩, (Nat.le_of_ble_eq_true rfl), j_iconst (pc := 16) d_Law_write_16 (j_iret (pc := 17) d_Law_write_17 rfl hr)⟩
    · rw [if_neg he] at hr
      by_cases he : e = exNo "java/lang/IllegalStateException"
      · rw [if_pos he] at hr
        exact ⟨"java/lang/IllegalStateException", 18, 6, 2, he.symm, by decide +kernel, by decide +kernel, Or.inr ⟨d_Law_write_18, rfl⟩, (Nat.le_of_ble_eq_true rfl), j_iconst (pc := 20) d_Law_write_20 (j_iret (pc := 21) d_Law_write_21 rfl hr)⟩
      · rw [if_neg he] at hr
        by_cases he : e = exNo "java/lang/IndexOutOfBoundsException"
        · rw [if_pos he] at hr
          exact ⟨"java/lang/IndexOutOfBoundsException", 22, 6, 2, he.symm, by decide +kernel, by decide +kernel, Or.inr ⟨d_Law_write_22, rfl⟩, (Nat.le_of_ble_eq_true rfl), j_iconst (pc := 24) d_Law_write_24 (j_iret (pc := 25) d_Law_write_25 rfl hr)⟩
        · rw [if_neg he] at hr
          cases hr
  refine j_lastore (pc := 10) d_Law_write_10 hr (fun h3 hr => ?_)
  refine j_goto (pc := 11) (tgt := 26) d_Law_write_11 ?_
  refine j_iconst (pc := 26) d_Law_write_26 ?_
  exact j_iret (pc := 27) d_Law_write_27 rfl hr
def M_Law_pour : mM := ("NineBarsLaw", ⟨"NineBarsLaw", "pour", "(LNineBars;I[J)I"⟩, method_34_code, 4, some .int, [(0, 9, 12, 19), (0, 9, 15, 27)], 15)
theorem tb_co_Law_pour : mTB (Cond.codeWith ⟨"NineBarsLaw", "pour", "(LNineBars;I[J)I"⟩ method_34_code 4 (some .int) [(0, 9, 12, 19), (0, 9, 15, 27)]) := tbq6 173 (by decide +kernel) rfl
theorem mc_Law_pour {M : mM} (hd : 15 < mDp M) : mCal M M_Law_pour 3 := ⟨tb_co_Law_pour, tb_in_NineBarsLaw, ⟨by decide +kernel, by decide +kernel⟩, by decide +kernel, hd, by decide⟩
theorem d_Law_pour_0 : decode method_34_code 0 = .ok (.aload_n 2, 1) := by decide +kernel
theorem d_Law_pour_1 : decode method_34_code 1 = .ok (.iconst 0, 1) := by decide +kernel
theorem d_Law_pour_2 : decode method_34_code 2 = .ok (.aload_n 0, 1) := by decide +kernel
theorem d_Law_pour_3 : decode method_34_code 3 = .ok (.iload_n 1, 1) := by decide +kernel
theorem d_Law_pour_4 : decode method_34_code 4 = .ok (.invokevirtual 121, 3) := by decide +kernel
theorem tb_ml_Law_121 : mTB (Cond.methodLink "NineBarsLaw" 121 ⟨"NineBars", "pour", "(I)I"⟩) := tbq6 174 (by decide +kernel) rfl
theorem d_Law_pour_12 : decode method_34_code 12 = .ok (.astore_n 3, 1) := by decide +kernel
theorem d_Law_pour_13 : decode method_34_code 13 = .ok (.iconst 1, 1) := by decide +kernel
theorem d_Law_pour_14 : decode method_34_code 14 = .ok (.ireturn, 1) := by decide +kernel
theorem d_Law_pour_15 : decode method_34_code 15 = .ok (.astore_n 3, 1) := by decide +kernel
theorem d_Law_pour_16 : decode method_34_code 16 = .ok (.iconst 2, 1) := by decide +kernel
theorem d_Law_pour_17 : decode method_34_code 17 = .ok (.ireturn, 1) := by decide +kernel
theorem tb_im_Nb_pour : mTB (Cond.instanceMethod ⟨"NineBars", "pour", "(I)I"⟩) := tbq6 175 (by decide +kernel) rfl
theorem tb_se_Nb_pour : mTB (Cond.selects "NineBars" ⟨"NineBars", "pour", "(I)I"⟩ ⟨"NineBars", "pour", "(I)I"⟩) := tbq6 176 (by decide +kernel) rfl
theorem mv_Nb_pour {M : mM} {idx : Nat} (h : mTB (Cond.methodLink (mO M) idx ⟨"NineBars", "pour", "(I)I"⟩)) : mCaV M M_Nb_pour idx 10 := ⟨h, tb_im_Nb_pour, tb_se_Nb_pour, by decide, TX10, 19, rfl⟩
theorem d_Law_pour_7 : decode method_34_code 7 = .ok (.i2l, 1) := by decide +kernel
theorem d_Law_pour_8 : decode method_34_code 8 = .ok (.lastore, 1) := by decide +kernel
theorem d_Law_pour_9 : decode method_34_code 9 = .ok (.goto 9, 3) := by decide +kernel
theorem d_Law_pour_18 : decode method_34_code 18 = .ok (.iconst 0, 1) := by decide +kernel
theorem d_Law_pour_19 : decode method_34_code 19 = .ok (.ireturn, 1) := by decide +kernel
theorem t_Law_pour {G : mG} (h : mH) (v0 v1 v2 : Int) (r : mR) (hr : f_Law_pour h v0 v1 v2 = some r) : mJM G M_Law_pour [(2, v0), (0, v1), (2, v2)] h r := by
  refine mJM_of (L := [(2, v0), (0, v1), (2, v2), (9, 0)]) rfl rfl rfl (Nat.le_of_ble_eq_true rfl) ?_
  unfold f_Law_pour at hr
  refine j_aload_n (pc := 0) d_Law_pour_0 rfl ?_
  refine j_iconst (pc := 1) d_Law_pour_1 ?_
  refine j_aload_n (pc := 2) d_Law_pour_2 rfl ?_
  refine j_iload_n (pc := 3) d_Law_pour_3 rfl ?_
  obtain ⟨ha, hr⟩ := chk_some hr
  refine j_callC (pc := 4) (stk := [(0, v1), (2, v0), (0, 0), (2, v2)]) (as := [(2, v0), (0, v1)]) (P := (fun v9 => ((0 : Nat), v9) :: [(0, 0), (2, v2)])) (tg := 0) (ns := [("java/util/NoSuchElementException", 12), ("java/lang/IllegalStateException", 15)]) (mRunV (as := [(0, v1)]) (st := [(0, 0), (2, v2)]) d_Law_pour_4 (mc_Nb_pour (by decide)) rfl (mv_Nb_pour tb_ml_Law_121) rfl (Nat.le_of_ble_eq_true rfl) ha) (fun v => rfl) ⟨⟨by decide, by decide, rfl, by decide⟩, by decide +kernel, tb_cl_Law_19, ⟨⟨by decide, by decide, rfl, by decide⟩, by decide +kernel, tb_cl_Law_27, trivial⟩⟩ hr (fun r1 h1 => t_Nb_pour _ _ _ _ h1) (fun e h1 hr => ?_) (fun x2 h1 hr => ?_)
  · by_cases he : e = exNo "java/util/NoSuchElementException"
    · rw [if_pos he] at hr
      exact ⟨"java/util/NoSuchElementException", 12, 3, 1, he.symm, by decide +kernel, by decide +kernel, Or.inl ⟨3, rfl, d_Law_pour_12, rfl⟩, (Nat.le_of_ble_eq_true rfl), j_iconst (pc := 13) d_Law_pour_13 (j_iret (pc := 14) d_Law_pour_14 rfl hr)⟩
    · rw [if_neg he] at hr
      by_cases he : e = exNo "java/lang/IllegalStateException"
      · rw [if_pos he] at hr
        exact ⟨"java/lang/IllegalStateException", 15, 3, 1, he.symm, by decide +kernel, by decide +kernel, Or.inl ⟨3, rfl, d_Law_pour_15, rfl⟩, (Nat.le_of_ble_eq_true rfl), j_iconst (pc := 16) d_Law_pour_16 (j_iret (pc := 17) d_Law_pour_17 rfl hr)⟩
      · rw [if_neg he] at hr
        cases hr
  refine j_i2l (pc := 7) d_Law_pour_7 ?_
  refine j_lastore (pc := 8) d_Law_pour_8 hr (fun h3 hr => ?_)
  refine j_goto (pc := 9) (tgt := 18) d_Law_pour_9 ?_
  refine j_iconst (pc := 18) d_Law_pour_18 ?_
  exact j_iret (pc := 19) d_Law_pour_19 rfl hr
def M_Law_image : mM := ("NineBarsLaw", ⟨"NineBarsLaw", "image", "(LNineBars;I)I"⟩, method_35_code, 3, some .int, [(0, 5, 8, 19)], 5)
theorem tb_co_Law_image : mTB (Cond.codeWith ⟨"NineBarsLaw", "image", "(LNineBars;I)I"⟩ method_35_code 3 (some .int) [(0, 5, 8, 19)]) := tbq6 182 (by decide +kernel) rfl
theorem mc_Law_image {M : mM} (hd : 5 < mDp M) : mCal M M_Law_image 2 := ⟨tb_co_Law_image, tb_in_NineBarsLaw, ⟨by decide +kernel, by decide +kernel⟩, by decide +kernel, hd, by decide⟩
theorem d_Law_image_0 : decode method_35_code 0 = .ok (.aload_n 0, 1) := by decide +kernel
theorem d_Law_image_1 : decode method_35_code 1 = .ok (.iload_n 1, 1) := by decide +kernel
theorem d_Law_image_2 : decode method_35_code 2 = .ok (.invokevirtual 124, 3) := by decide +kernel
theorem tb_ml_Law_124 : mTB (Cond.methodLink "NineBarsLaw" 124 ⟨"NineBars", "image", "(I)V"⟩) := tbq6 183 (by decide +kernel) rfl
theorem d_Law_image_8 : decode method_35_code 8 = .ok (.astore_n 2, 1) := by decide +kernel
theorem d_Law_image_9 : decode method_35_code 9 = .ok (.iconst 1, 1) := by decide +kernel
theorem d_Law_image_10 : decode method_35_code 10 = .ok (.ireturn, 1) := by decide +kernel
theorem tb_im_Nb_image : mTB (Cond.instanceMethod ⟨"NineBars", "image", "(I)V"⟩) := tbq6 184 (by decide +kernel) rfl
theorem tb_se_Nb_image : mTB (Cond.selects "NineBars" ⟨"NineBars", "image", "(I)V"⟩ ⟨"NineBars", "image", "(I)V"⟩) := tbq6 185 (by decide +kernel) rfl
theorem mv_Nb_image {M : mM} {idx : Nat} (h : mTB (Cond.methodLink (mO M) idx ⟨"NineBars", "image", "(I)V"⟩)) : mCaV M M_Nb_image idx 10 := ⟨h, tb_im_Nb_image, tb_se_Nb_image, by decide, TX10, 19, rfl⟩
theorem d_Law_image_5 : decode method_35_code 5 = .ok (.goto 6, 3) := by decide +kernel
theorem d_Law_image_11 : decode method_35_code 11 = .ok (.iconst 0, 1) := by decide +kernel
theorem d_Law_image_12 : decode method_35_code 12 = .ok (.ireturn, 1) := by decide +kernel
theorem t_Law_image {G : mG} (h : mH) (v0 v1 : Int) (r : mR) (hr : f_Law_image h v0 v1 = some r) : mJM G M_Law_image [(2, v0), (0, v1)] h r := by
  refine mJM_of (L := [(2, v0), (0, v1), (9, 0)]) rfl rfl rfl (Nat.le_of_ble_eq_true rfl) ?_
  unfold f_Law_image at hr
  refine j_aload_n (pc := 0) d_Law_image_0 rfl ?_
  refine j_iload_n (pc := 1) d_Law_image_1 rfl ?_
  obtain ⟨ha, hr⟩ := chk_some hr
  refine j_callC (pc := 2) (stk := [(0, v1), (2, v0)]) (as := [(2, v0), (0, v1)]) (P := (fun v9 => [])) (tg := 3) (ns := [("java/util/NoSuchElementException", 8)]) (mRunV (as := [(0, v1)]) (st := []) d_Law_image_2 (mc_Nb_image (by decide)) rfl (mv_Nb_image tb_ml_Law_124) rfl (Nat.le_of_ble_eq_true rfl) ha) (fun v => rfl) ⟨⟨by decide, by decide, rfl, by decide⟩, by decide +kernel, tb_cl_Law_19, trivial⟩ hr (fun r1 h1 => t_Nb_image _ _ _ _ h1) (fun e h1 hr => ?_) (fun x2 h1 hr => ?_)
  · by_cases he : e = exNo "java/util/NoSuchElementException"
    · rw [if_pos he] at hr
      exact ⟨"java/util/NoSuchElementException", 8, 2, 1, he.symm, by decide +kernel, by decide +kernel, Or.inl ⟨2, rfl, d_Law_image_8, rfl⟩, (Nat.le_of_ble_eq_true rfl), j_iconst (pc := 9) d_Law_image_9 (j_iret (pc := 10) d_Law_image_10 rfl hr)⟩
    · rw [if_neg he] at hr
      cases hr
  refine j_goto (pc := 5) (tgt := 11) d_Law_image_5 ?_
  refine j_iconst (pc := 11) d_Law_image_11 ?_
  exact j_iret (pc := 12) d_Law_image_12 rfl hr
def M_Law_restore : mM := ("NineBarsLaw", ⟨"NineBarsLaw", "restore", "(LNineBars;I)I"⟩, method_36_code, 3, some .int, [(0, 5, 8, 19), (0, 5, 11, 27)], 5)
theorem tb_co_Law_restore : mTB (Cond.codeWith ⟨"NineBarsLaw", "restore", "(LNineBars;I)I"⟩ method_36_code 3 (some .int) [(0, 5, 8, 19), (0, 5, 11, 27)]) := tbq6 194 (by decide +kernel) rfl
theorem mc_Law_restore {M : mM} (hd : 5 < mDp M) : mCal M M_Law_restore 2 := ⟨tb_co_Law_restore, tb_in_NineBarsLaw, ⟨by decide +kernel, by decide +kernel⟩, by decide +kernel, hd, by decide⟩
theorem d_Law_restore_0 : decode method_36_code 0 = .ok (.aload_n 0, 1) := by decide +kernel
theorem d_Law_restore_1 : decode method_36_code 1 = .ok (.iload_n 1, 1) := by decide +kernel
theorem d_Law_restore_2 : decode method_36_code 2 = .ok (.invokevirtual 128, 3) := by decide +kernel
theorem tb_ml_Law_128 : mTB (Cond.methodLink "NineBarsLaw" 128 ⟨"NineBars", "restore", "(I)V"⟩) := tbq6 195 (by decide +kernel) rfl
theorem d_Law_restore_8 : decode method_36_code 8 = .ok (.astore_n 2, 1) := by decide +kernel
theorem d_Law_restore_9 : decode method_36_code 9 = .ok (.iconst 1, 1) := by decide +kernel
theorem d_Law_restore_10 : decode method_36_code 10 = .ok (.ireturn, 1) := by decide +kernel
theorem d_Law_restore_11 : decode method_36_code 11 = .ok (.astore_n 2, 1) := by decide +kernel
theorem d_Law_restore_12 : decode method_36_code 12 = .ok (.iconst 2, 1) := by decide +kernel
theorem d_Law_restore_13 : decode method_36_code 13 = .ok (.ireturn, 1) := by decide +kernel
theorem tb_im_Nb_restore : mTB (Cond.instanceMethod ⟨"NineBars", "restore", "(I)V"⟩) := tbq6 196 (by decide +kernel) rfl
theorem tb_se_Nb_restore : mTB (Cond.selects "NineBars" ⟨"NineBars", "restore", "(I)V"⟩ ⟨"NineBars", "restore", "(I)V"⟩) := tbq6 197 (by decide +kernel) rfl
theorem mv_Nb_restore {M : mM} {idx : Nat} (h : mTB (Cond.methodLink (mO M) idx ⟨"NineBars", "restore", "(I)V"⟩)) : mCaV M M_Nb_restore idx 10 := ⟨h, tb_im_Nb_restore, tb_se_Nb_restore, by decide, TX10, 19, rfl⟩
theorem d_Law_restore_5 : decode method_36_code 5 = .ok (.goto 9, 3) := by decide +kernel
theorem d_Law_restore_14 : decode method_36_code 14 = .ok (.iconst 0, 1) := by decide +kernel
theorem d_Law_restore_15 : decode method_36_code 15 = .ok (.ireturn, 1) := by decide +kernel
theorem t_Law_restore {G : mG} (h : mH) (v0 v1 : Int) (r : mR) (hr : f_Law_restore h v0 v1 = some r) : mJM G M_Law_restore [(2, v0), (0, v1)] h r := by
  refine mJM_of (L := [(2, v0), (0, v1), (9, 0)]) rfl rfl rfl (Nat.le_of_ble_eq_true rfl) ?_
  unfold f_Law_restore at hr
  refine j_aload_n (pc := 0) d_Law_restore_0 rfl ?_
  refine j_iload_n (pc := 1) d_Law_restore_1 rfl ?_
  obtain ⟨ha, hr⟩ := chk_some hr
  refine j_callC (pc := 2) (stk := [(0, v1), (2, v0)]) (as := [(2, v0), (0, v1)]) (P := (fun v9 => [])) (tg := 3) (ns := [("java/util/NoSuchElementException", 8), ("java/lang/IllegalStateException", 11)]) (mRunV (as := [(0, v1)]) (st := []) d_Law_restore_2 (mc_Nb_restore (by decide)) rfl (mv_Nb_restore tb_ml_Law_128) rfl (Nat.le_of_ble_eq_true rfl) ha) (fun v => rfl) ⟨⟨by decide, by decide, rfl, by decide⟩, by decide +kernel, tb_cl_Law_19, ⟨⟨by decide, by decide, rfl, by decide⟩, by decide +kernel, tb_cl_Law_27, trivial⟩⟩ hr (fun r1 h1 => t_Nb_restore _ _ _ _ h1) (fun e h1 hr => ?_) (fun x2 h1 hr => ?_)
  · by_cases he : e = exNo "java/util/NoSuchElementException"
    · rw [if_pos he] at hr
      exact ⟨"java/util/NoSuchElementException", 8, 2, 1, he.symm, by decide +kernel, by decide +kernel, Or.inl ⟨2, rfl, d_Law_restore_8, rfl⟩, (Nat.le_of_ble_eq_true rfl), j_iconst (pc := 9) d_Law_restore_9 (j_iret (pc := 10) d_Law_restore_10 rfl hr)⟩
    · rw [if_neg he] at hr
      by_cases he : e = exNo "java/lang/IllegalStateException"
      · rw [if_pos he] at hr
        exact ⟨"java/lang/IllegalStateException", 11, 2, 1, he.symm, by decide +kernel, by decide +kernel, Or.inl ⟨2, rfl, d_Law_restore_11, rfl⟩, (Nat.le_of_ble_eq_true rfl), j_iconst (pc := 12) d_Law_restore_12 (j_iret (pc := 13) d_Law_restore_13 rfl hr)⟩
      · rw [if_neg he] at hr
        cases hr
  refine j_goto (pc := 5) (tgt := 14) d_Law_restore_5 ?_
  refine j_iconst (pc := 14) d_Law_restore_14 ?_
  exact j_iret (pc := 15) d_Law_restore_15 rfl hr
