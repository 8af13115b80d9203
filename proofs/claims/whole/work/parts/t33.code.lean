def M_Md_draw : mM := ("NineBarsModel", ⟨"NineBarsModel", "draw", "(I)I"⟩, prog_13_method_60_code, 2, some .int, [], 1)
theorem tb_co_Md_draw : mTB (Cond.code ⟨"NineBarsModel", "draw", "(I)I"⟩ prog_13_method_60_code 2 (some .int)) := tbq8 87 (by decide +kernel) rfl
theorem mc_Md_draw {M : mM} (hd : 1 < mDp M) : mCal M M_Md_draw 1 := ⟨tb_co_Md_draw, tb_in_NineBarsModel, ⟨by decide +kernel, by decide +kernel⟩, by decide +kernel, hd, by decide⟩
theorem d_Md_draw_0 : decode prog_13_method_60_code 0 = .ok (.aload_n 0, 1) := by decide +kernel
theorem tb_ci_Md_304 : mTB (Cond.constant "NineBarsModel" 304 1103515245) := tbq8 88 (by decide +kernel) rfl
theorem d_Md_draw_1 : decode prog_13_method_60_code 1 = .ok (.ldc_w 304, 3) := by decide +kernel
theorem d_Md_draw_4 : decode prog_13_method_60_code 4 = .ok (.aload_n 0, 1) := by decide +kernel
theorem tb_fl_Md_305 : mTB (Cond.fieldLink "NineBarsModel" 305 "NineBarsModel" "state" "I") := tbq6 228 (by decide +kernel) rfl
theorem fd_Md_305 {M : mM} (h : mO M = "NineBarsModel") : mFld M 305 11 21 0 := ⟨_, _, _, tyX11, rfl, by decide, by decide, rfl, uw_11, tyX11_ok, nmX11, by rw [h]; exact Or.inl tb_fl_Md_305⟩
theorem d_Md_draw_5 : decode prog_13_method_60_code 5 = .ok (.getfield 305, 3) := by decide +kernel
theorem d_Md_draw_8 : decode prog_13_method_60_code 8 = .ok (.imul, 1) := by decide +kernel
theorem d_Md_draw_9 : decode prog_13_method_60_code 9 = .ok (.sipush 12345, 3) := by decide +kernel
theorem d_Md_draw_12 : decode prog_13_method_60_code 12 = .ok (.iadd, 1) := by decide +kernel
theorem d_Md_draw_13 : decode prog_13_method_60_code 13 = .ok (.putfield 305, 3) := by decide +kernel
theorem d_Md_draw_16 : decode prog_13_method_60_code 16 = .ok (.aload_n 0, 1) := by decide +kernel
theorem d_Md_draw_17 : decode prog_13_method_60_code 17 = .ok (.getfield 305, 3) := by decide +kernel
theorem d_Md_draw_20 : decode prog_13_method_60_code 20 = .ok (.bipush 16, 2) := by decide +kernel
theorem d_Md_draw_22 : decode prog_13_method_60_code 22 = .ok (.iushr, 1) := by decide +kernel
theorem d_Md_draw_23 : decode prog_13_method_60_code 23 = .ok (.iload_n 1, 1) := by decide +kernel
theorem d_Md_draw_24 : decode prog_13_method_60_code 24 = .ok (.irem, 1) := by decide +kernel
theorem d_Md_draw_25 : decode prog_13_method_60_code 25 = .ok (.ireturn, 1) := by decide +kernel
theorem t_Md_draw {G : mG} (h : mH) (v0 v1 : Int) (r : mR) (hr : f_Md_draw h v0 v1 = some r) : mJM G M_Md_draw [(2, v0), (0, v1)] h r := by
  refine mJM_of (L := [(2, v0), (0, v1)]) rfl rfl rfl (Nat.le_of_ble_eq_true rfl) ?_
  unfold f_Md_draw at hr
  refine j_aload_n (pc := 0) d_Md_draw_0 rfl ?_
  refine j_ldcw (pc := 1) (z := 1103515245) d_Md_draw_1 tb_ci_Md_304 rfl ?_
  refine j_aload_n (pc := 4) d_Md_draw_4 rfl ?_
  refine j_getf (pc := 5) d_Md_draw_5 (fd_Md_305 rfl) hr (fun hr => ?_)
  refine j_imul (pc := 8) d_Md_draw_8 ?_
  refine j_sipush (pc := 9) d_Md_draw_9 ?_
  refine j_iadd (pc := 12) d_Md_draw_12 ?_
  refine j_puti (pc := 13) d_Md_draw_13 (fd_Md_305 rfl) (⟨_, _, _, rfl, Or.inl rfl, rfl⟩ : mFldW M_Md_draw 305 11 21 .int) hr (fun h1 hr => ?_)
  refine j_aload_n (pc := 16) d_Md_draw_16 rfl ?_
  refine j_getf (pc := 17) d_Md_draw_17 (fd_Md_305 rfl) hr (fun hr => ?_)
  refine j_bipush (pc := 20) d_Md_draw_20 ?_
  refine j_iushr (pc := 22) d_Md_draw_22 ?_
  refine j_iload_n (pc := 23) d_Md_draw_23 rfl ?_
  refine j_irem (pc := 24) d_Md_draw_24 hr (fun hr => ?_)
  exact j_iret (pc := 25) d_Md_draw_25 rfl hr
def M_Md_thief : mM := ("NineBarsModel", ⟨"NineBarsModel", "thief", "(II)I"⟩, prog_13_method_61_code, 7, some .int, [], 11)
theorem tb_co_Md_thief : mTB (Cond.code ⟨"NineBarsModel", "thief", "(II)I"⟩ prog_13_method_61_code 7 (some .int)) := tbq8 82 (by decide +kernel) rfl
theorem mc_Md_thief {M : mM} (hd : 11 < mDp M) : mCal M M_Md_thief 2 := ⟨tb_co_Md_thief, tb_in_NineBarsModel, ⟨by decide +kernel, by decide +kernel⟩, by decide +kernel, hd, by decide⟩
theorem d_Md_thief_0 : decode prog_13_method_61_code 0 = .ok (.aload_n 0, 1) := by decide +kernel
theorem d_Md_thief_1 : decode prog_13_method_61_code 1 = .ok (.iload_n 2, 1) := by decide +kernel
theorem d_Md_thief_2 : decode prog_13_method_61_code 2 = .ok (.i2l, 1) := by decide +kernel
theorem d_Md_thief_3 : decode prog_13_method_61_code 3 = .ok (.lconst 1, 1) := by decide +kernel
theorem tb_cj_Md_308 : mTB (Cond.constantLong "NineBarsModel" 308 60) := tbq8 83 (by decide +kernel) rfl
theorem d_Md_thief_4 : decode prog_13_method_61_code 4 = .ok (.ldc2_w 308, 3) := by decide +kernel
theorem d_Md_thief_7 : decode prog_13_method_61_code 7 = .ok (.invokestatic 147, 3) := by decide +kernel
theorem d_Md_thief_10 : decode prog_13_method_61_code 10 = .ok (.ifCond .ne 7, 3) := by decide +kernel
theorem d_Md_thief_17 : decode prog_13_method_61_code 17 = .ok (.aload_n 0, 1) := by decide +kernel
theorem d_Md_thief_18 : decode prog_13_method_61_code 18 = .ok (.invokevirtual 210, 3) := by decide +kernel
theorem d_Md_thief_21 : decode prog_13_method_61_code 21 = .ok (.ifCond .ne 7, 3) := by decide +kernel
theorem d_Md_thief_28 : decode prog_13_method_61_code 28 = .ok (.iconst 0, 1) := by decide +kernel
theorem d_Md_thief_29 : decode prog_13_method_61_code 29 = .ok (.putfield 86, 3) := by decide +kernel
theorem d_Md_thief_32 : decode prog_13_method_61_code 32 = .ok (.aload_n 0, 1) := by decide +kernel
theorem d_Md_thief_33 : decode prog_13_method_61_code 33 = .ok (.getfield 86, 3) := by decide +kernel
theorem d_Md_thief_36 : decode prog_13_method_61_code 36 = .ok (.ifCond .le 5, 3) := by decide +kernel
theorem d_Md_thief_41 : decode prog_13_method_61_code 41 = .ok (.aload_n 0, 1) := by decide +kernel
theorem d_Md_thief_42 : decode prog_13_method_61_code 42 = .ok (.iload_n 1, 1) := by decide +kernel
theorem d_Md_thief_43 : decode prog_13_method_61_code 43 = .ok (.putfield 305, 3) := by decide +kernel
theorem d_Md_thief_46 : decode prog_13_method_61_code 46 = .ok (.iconst 0, 1) := by decide +kernel
theorem d_Md_thief_47 : decode prog_13_method_61_code 47 = .ok (.istore_n 3, 1) := by decide +kernel
theorem d_Md_thief_48 : decode prog_13_method_61_code 48 = .ok (.iconst 0, 1) := by decide +kernel
theorem d_Md_thief_49 : decode prog_13_method_61_code 49 = .ok (.istore 4, 2) := by decide +kernel
theorem d_Md_thief_51 : decode prog_13_method_61_code 51 = .ok (.iload 4, 2) := by decide +kernel
theorem d_Md_thief_53 : decode prog_13_method_61_code 53 = .ok (.iload_n 2, 1) := by decide +kernel
theorem d_Md_thief_54 : decode prog_13_method_61_code 54 = .ok (.if_icmp .ge 61, 3) := by decide +kernel
theorem d_Md_thief_115 : decode prog_13_method_61_code 115 = .ok (.iload_n 3, 1) := by decide +kernel
theorem d_Md_thief_116 : decode prog_13_method_61_code 116 = .ok (.ireturn, 1) := by decide +kernel
theorem d_Md_thief_57 : decode prog_13_method_61_code 57 = .ok (.aload_n 0, 1) := by decide +kernel
theorem d_Md_thief_58 : decode prog_13_method_61_code 58 = .ok (.invokevirtual 274, 3) := by decide +kernel
theorem d_Md_thief_61 : decode prog_13_method_61_code 61 = .ok (.ifCond .ne 54, 3) := by decide +kernel
theorem d_Md_thief_64 : decode prog_13_method_61_code 64 = .ok (.aload_n 0, 1) := by decide +kernel
theorem d_Md_thief_65 : decode prog_13_method_61_code 65 = .ok (.aload_n 0, 1) := by decide +kernel
theorem d_Md_thief_66 : decode prog_13_method_61_code 66 = .ok (.invokevirtual 210, 3) := by decide +kernel
theorem d_Md_thief_69 : decode prog_13_method_61_code 69 = .ok (.invokevirtual 310, 3) := by decide +kernel
theorem tb_ml_Md_310 : mTB (Cond.methodLink "NineBarsModel" 310 ⟨"NineBarsModel", "draw", "(I)I"⟩) := tbq8 84 (by decide +kernel) rfl
theorem tb_im_Md_draw : mTB (Cond.instanceMethod ⟨"NineBarsModel", "draw", "(I)I"⟩) := tbq8 86 (by decide +kernel) rfl
theorem tb_se_Md_draw : mTB (Cond.selects "NineBarsModel" ⟨"NineBarsModel", "draw", "(I)I"⟩ ⟨"NineBarsModel", "draw", "(I)I"⟩) := tbqp 80 (by decide +kernel) rfl
theorem mv_Md_draw {M : mM} {idx : Nat} (h : mTB (Cond.methodLink (mO M) idx ⟨"NineBarsModel", "draw", "(I)I"⟩)) : mCaV M M_Md_draw idx 11 := ⟨h, tb_im_Md_draw, tb_se_Md_draw, by decide, TX11, 40, rfl⟩
theorem d_Md_thief_72 : decode prog_13_method_61_code 72 = .ok (.istore 5, 2) := by decide +kernel
theorem d_Md_thief_74 : decode prog_13_method_61_code 74 = .ok (.aload_n 0, 1) := by decide +kernel
theorem d_Md_thief_75 : decode prog_13_method_61_code 75 = .ok (.iconst 2, 1) := by decide +kernel
theorem d_Md_thief_76 : decode prog_13_method_61_code 76 = .ok (.invokevirtual 310, 3) := by decide +kernel
theorem d_Md_thief_79 : decode prog_13_method_61_code 79 = .ok (.iconst 1, 1) := by decide +kernel
theorem d_Md_thief_80 : decode prog_13_method_61_code 80 = .ok (.if_icmp .ne 7, 3) := by decide +kernel
theorem d_Md_thief_87 : decode prog_13_method_61_code 87 = .ok (.iconst 0, 1) := by decide +kernel
theorem d_Md_thief_88 : decode prog_13_method_61_code 88 = .ok (.istore 6, 2) := by decide +kernel
theorem d_Md_thief_90 : decode prog_13_method_61_code 90 = .ok (.iload_n 3, 1) := by decide +kernel
theorem d_Md_thief_91 : decode prog_13_method_61_code 91 = .ok (.aload_n 0, 1) := by decide +kernel
theorem d_Md_thief_92 : decode prog_13_method_61_code 92 = .ok (.iload 5, 2) := by decide +kernel
theorem d_Md_thief_94 : decode prog_13_method_61_code 94 = .ok (.iload 6, 2) := by decide +kernel
theorem d_Md_thief_96 : decode prog_13_method_61_code 96 = .ok (.invokevirtual 281, 3) := by decide +kernel
theorem d_Md_thief_99 : decode prog_13_method_61_code 99 = .ok (.ifCond .lt 7, 3) := by decide +kernel
theorem d_Md_thief_106 : decode prog_13_method_61_code 106 = .ok (.iconst 0, 1) := by decide +kernel
theorem d_Md_thief_107 : decode prog_13_method_61_code 107 = .ok (.iadd, 1) := by decide +kernel
theorem d_Md_thief_108 : decode prog_13_method_61_code 108 = .ok (.istore_n 3, 1) := by decide +kernel
theorem d_Md_thief_109 : decode prog_13_method_61_code 109 = .ok (.iinc 4 1, 3) := by decide +kernel
theorem d_Md_thief_112 : decode prog_13_method_61_code 112 = .ok (.goto (-61), 3) := by decide +kernel
theorem d_Md_thief_102 : decode prog_13_method_61_code 102 = .ok (.iconst 1, 1) := by decide +kernel
theorem d_Md_thief_103 : decode prog_13_method_61_code 103 = .ok (.goto 4, 3) := by decide +kernel
theorem d_Md_thief_83 : decode prog_13_method_61_code 83 = .ok (.iconst 1, 1) := by decide +kernel
theorem d_Md_thief_84 : decode prog_13_method_61_code 84 = .ok (.goto 4, 3) := by decide +kernel
theorem d_Md_thief_39 : decode prog_13_method_61_code 39 = .ok (.iconst 0, 1) := by decide +kernel
theorem d_Md_thief_40 : decode prog_13_method_61_code 40 = .ok (.ireturn, 1) := by decide +kernel
theorem d_Md_thief_24 : decode prog_13_method_61_code 24 = .ok (.iconst 2, 1) := by decide +kernel
theorem d_Md_thief_25 : decode prog_13_method_61_code 25 = .ok (.goto 4, 3) := by decide +kernel
theorem d_Md_thief_13 : decode prog_13_method_61_code 13 = .ok (.iconst 1, 1) := by decide +kernel
theorem d_Md_thief_14 : decode prog_13_method_61_code 14 = .ok (.goto 15, 3) := by decide +kernel
theorem t_Md_thief_J107 {G : mG} {r : mR} {v0 v2 v4 s0 s1 : Int} {h : mH} {R51 : mH → Int → Int → Option mR} (hR51 : ∀ (h : mH) (w3 w4 : Int) , R51 h w3 w4 = some r → mJ G M_Md_thief 51 [(2, v0), (9, 0), (0, v2), (0, w3), (0, w4), (9, 0), (9, 0)] [] h r) (hr : f_Md_thief_J107 R51 v4 s0 s1 h = some r) : mJ G M_Md_thief 107 [(2, v0), (9, 0), (0, v2), (9, 0), (0, v4), (9, 0), (9, 0)] [(0, s1), (0, s0)] h r := by
  unfold f_Md_thief_J107 at hr
  refine j_iadd (pc := 107) d_Md_thief_107 ?_
  refine j_istoreW_n (pc := 108) (L := fun x1 => [(2, v0), (9, 0), (0, v2), (0, x1), (0, v4), (9, 0), (9, 0)]) d_Md_thief_108 (fun _ => rfl) hr (fun x1 hr => ?_)
  refine j_iincW (pc := 109) (L := fun x2 => [(2, v0), (9, 0), (0, v2), (0, x1), (0, x2), (9, 0), (9, 0)]) d_Md_thief_109 rfl (fun _ => rfl) hr (fun x2 hr => ?_)
  refine j_goto (pc := 112) (tgt := 51) d_Md_thief_112 ?_
  exact mJ_weak (ls' := [(2, v0), (9, 0), (0, v2), (0, x1), (0, x2), (9, 0), (9, 0)]) (mwk_s (mwk_s (mwk_s (mwk_s (mwk_s (mwk_s (mwk_s mwk_n))))))) (hR51 h _ _ hr)
theorem t_Md_thief_J88 {G : mG} {r : mR} {v0 v2 v3 v4 v5 s0 : Int} {h : mH} {R51 : mH → Int → Int → Option mR} (hR51 : ∀ (h : mH) (w3 w4 : Int) , R51 h w3 w4 = some r → mJ G M_Md_thief 51 [(2, v0), (9, 0), (0, v2), (0, w3), (0, w4), (9, 0), (9, 0)] [] h r) (hr : f_Md_thief_J88 R51 v0 v3 v4 v5 s0 h = some r) : mJ G M_Md_thief 88 [(2, v0), (9, 0), (0, v2), (0, v3), (0, v4), (0, v5), (9, 0)] [(0, s0)] h r := by
  unfold f_Md_thief_J88 at hr
  refine j_istore (pc := 88) (ls' := [(2, v0), (9, 0), (0, v2), (0, v3), (0, v4), (0, v5), (0, s0)]) d_Md_thief_88 rfl ?_
  refine j_iload_n (pc := 90) d_Md_thief_90 rfl ?_
  refine j_aload_n (pc := 91) d_Md_thief_91 rfl ?_
  refine j_iload (pc := 92) d_Md_thief_92 rfl ?_
  refine j_iload (pc := 94) d_Md_thief_94 rfl ?_
  obtain ⟨ha, hr⟩ := chk_some hr
  refine j_callG (pc := 96) (stk := [(0, s0), (0, v5), (2, v0), (0, v3)]) (as := [(2, v0), (0, v5), (0, s0)]) (P := (fun v9 => ((0 : Nat), v9) :: [(0, v3)])) (tg := 0) (My := M_Md_makes) (mRunV (as := [(0, v5), (0, s0)]) (st := [(0, v3)]) d_Md_thief_96 (mc_Md_makes (by decide)) rfl (mv_Md_makes tb_ml_Md_281) rfl (Nat.le_of_ble_eq_true rfl) ha) (fun v => rfl) rfl hr (fun r1 h1 => t_Md_makes _ _ _ _ _ h1) (fun x2 h1 hr => ?_)
  refine j_if_lt (pc := 99) (tgt := 106) d_Md_thief_99 hr (fun hr => ?_) (fun hr => ?_)
  · refine j_iconst (pc := 106) d_Md_thief_106 ?_
    exact mJ_weak (ls' := [(2, v0), (9, 0), (0, v2), (9, 0), (0, v4), (9, 0), (9, 0)]) (mwk_s (mwk_s (mwk_s (mwk_d (mwk_s (mwk_d (mwk_d mwk_n))))))) (t_Md_thief_J107 hR51 hr)
  · refine j_iconst (pc := 102) d_Md_thief_102 ?_
    refine j_goto (pc := 103) (tgt := 107) d_Md_thief_103 ?_
    exact mJ_weak (ls' := [(2, v0), (9, 0), (0, v2), (9, 0), (0, v4), (9, 0), (9, 0)]) (mwk_s (mwk_s (mwk_s (mwk_d (mwk_s (mwk_d (mwk_d mwk_n))))))) (t_Md_thief_J107 hR51 hr)
theorem t_Md_thief_L51 {G : mG} {r : mR} {v0 v2 : Int}  : ∀ (n : Nat) (h : mH) (v3 v4 : Int), f_Md_thief_L51 v0 v2 n h v3 v4 = some r → mJ G M_Md_thief 51 [(2, v0), (9, 0), (0, v2), (0, v3), (0, v4), (9, 0), (9, 0)] [] h r := by
  intro n
  induction n with
  | zero =>
    intro h v3 v4 hr
    rw [f_Md_thief_L51] at hr
    cases hr
  | succ n hR51 =>
    intro h v3 v4 hr
    rw [f_Md_thief_L51] at hr
    refine j_iload (pc := 51) d_Md_thief_51 rfl ?_
    refine j_iload_n (pc := 53) d_Md_thief_53 rfl ?_
    refine j_icmp_ge (pc := 54) (tgt := 115) d_Md_thief_54 hr (fun hr => ?_) (fun hr => ?_)
    · refine j_iload_n (pc := 115) d_Md_thief_115 rfl ?_
      exact j_iret (pc := 116) d_Md_thief_116 rfl hr
    · refine j_aload_n (pc := 57) d_Md_thief_57 rfl ?_
      obtain ⟨ha, hr⟩ := chk_some hr
      refine j_callG (pc := 58) (stk := [(2, v0)]) (as := [(2, v0)]) (P := (fun v9 => ((0 : Nat), v9) :: [])) (tg := 0) (My := M_Md_isOpenNow) (mRunV (as := []) (st := []) d_Md_thief_58 (mc_Md_isOpenNow (by decide)) rfl (mv_Md_isOpenNow tb_ml_Md_274) rfl (Nat.le_of_ble_eq_true rfl) ha) (fun v => rfl) rfl hr (fun r1 h1 => t_Md_isOpenNow _ _ _ h1) (fun x2 h1 hr => ?_)
      refine j_if_ne (pc := 61) (tgt := 115) d_Md_thief_61 hr (fun hr => ?_) (fun hr => ?_)
      · refine j_iload_n (pc := 115) d_Md_thief_115 rfl ?_
        exact j_iret (pc := 116) d_Md_thief_116 rfl hr
      · refine j_aload_n (pc := 64) d_Md_thief_64 rfl ?_
        refine j_aload_n (pc := 65) d_Md_thief_65 rfl ?_
        obtain ⟨ha, hr⟩ := chk_some hr
        refine j_callG (pc := 66) (stk := [(2, v0), (2, v0)]) (as := [(2, v0)]) (P := (fun v9 => ((0 : Nat), v9) :: [(2, v0)])) (tg := 0) (My := M_Md_bars) (mRunV (as := []) (st := [(2, v0)]) d_Md_thief_66 (mc_Md_bars (by decide)) rfl (mv_Md_bars tb_ml_Md_210) rfl (Nat.le_of_ble_eq_true rfl) ha) (fun v => rfl) rfl hr (fun r1 h1 => t_Md_bars _ _ _ h1) (fun x4 h3 hr => ?_)
        obtain ⟨ha, hr⟩ := chk_some hr
        refine j_callG (pc := 69) (stk := [(0, x4), (2, v0)]) (as := [(2, v0), (0, x4)]) (P := (fun v9 => ((0 : Nat), v9) :: [])) (tg := 0) (My := M_Md_draw) (mRunV (as := [(0, x4)]) (st := []) d_Md_thief_69 (mc_Md_draw (by decide)) rfl (mv_Md_draw tb_ml_Md_310) rfl (Nat.le_of_ble_eq_true rfl) ha) (fun v => rfl) rfl hr (fun r1 h1 => t_Md_draw _ _ _ _ h1) (fun x6 h5 hr => ?_)
        refine j_istore (pc := 72) (ls' := [(2, v0), (9, 0), (0, v2), (0, v3), (0, v4), (0, x6), (9, 0)]) d_Md_thief_72 rfl ?_
        refine j_aload_n (pc := 74) d_Md_thief_74 rfl ?_
        refine j_iconst (pc := 75) d_Md_thief_75 ?_
        obtain ⟨ha, hr⟩ := chk_some hr
        refine j_callG (pc := 76) (stk := [(0, 2), (2, v0)]) (as := [(2, v0), (0, 2)]) (P := (fun v9 => ((0 : Nat), v9) :: [])) (tg := 0) (My := M_Md_draw) (mRunV (as := [(0, 2)]) (st := []) d_Md_thief_76 (mc_Md_draw (by decide)) rfl (mv_Md_draw tb_ml_Md_310) rfl (Nat.le_of_ble_eq_true rfl) ha) (fun v => rfl) rfl hr (fun r1 h1 => t_Md_draw _ _ _ _ h1) (fun x8 h7 hr => ?_)
        refine j_iconst (pc := 79) d_Md_thief_79 ?_
        refine j_icmp_ne (pc := 80) (tgt := 87) d_Md_thief_80 hr (fun hr => ?_) (fun hr => ?_)
        · refine j_iconst (pc := 87) d_Md_thief_87 ?_
          exact mJ_weak (ls' := [(2, v0), (9, 0), (0, v2), (0, v3), (0, v4), (0, x6), (9, 0)]) (mwk_s (mwk_s (mwk_s (mwk_s (mwk_s (mwk_s (mwk_s mwk_n))))))) (t_Md_thief_J88 hR51 hr)
        · refine j_iconst (pc := 83) d_Md_thief_83 ?_
          refine j_goto (pc := 84) (tgt := 88) d_Md_thief_84 ?_
          exact mJ_weak (ls' := [(2, v0), (9, 0), (0, v2), (0, v3), (0, v4), (0, x6), (9, 0)]) (mwk_s (mwk_s (mwk_s (mwk_s (mwk_s (mwk_s (mwk_s mwk_n))))))) (t_Md_thief_J88 hR51 hr)
theorem t_Md_thief_J29 {G : mG} {r : mR} {v0 v1 v2 s0 s1 : Int} {h : mH}  (hr : f_Md_thief_J29 v0 v1 v2 s0 s1 h = some r) : mJ G M_Md_thief 29 [(2, v0), (0, v1), (0, v2), (9, 0), (9, 0), (9, 0), (9, 0)] [(0, s1), (2, s0)] h r := by
  unfold f_Md_thief_J29 at hr
  refine j_puti (pc := 29) d_Md_thief_29 (fd_Md_86 rfl) (⟨_, _, _, rfl, Or.inl rfl, rfl⟩ : mFldW M_Md_thief 86 11 5 .int) hr (fun h1 hr => ?_)
  refine j_aload_n (pc := 32) d_Md_thief_32 rfl ?_
  refine j_getf (pc := 33) d_Md_thief_33 (fd_Md_86 rfl) hr (fun hr => ?_)
  refine j_if_le (pc := 36) (tgt := 41) d_Md_thief_36 hr (fun hr => ?_) (fun hr => ?_)
  · refine j_aload_n (pc := 41) d_Md_thief_41 rfl ?_
    refine j_iload_n (pc := 42) d_Md_thief_42 rfl ?_
    refine j_puti (pc := 43) d_Md_thief_43 (fd_Md_305 rfl) (⟨_, _, _, rfl, Or.inl rfl, rfl⟩ : mFldW M_Md_thief 305 11 21 .int) hr (fun h2 hr => ?_)
    refine j_iconst (pc := 46) d_Md_thief_46 ?_
    refine j_istore_n (pc := 47) (ls' := [(2, v0), (0, v1), (0, v2), (0, 0), (9, 0), (9, 0), (9, 0)]) d_Md_thief_47 rfl ?_
    refine j_iconst (pc := 48) d_Md_thief_48 ?_
    refine j_istore (pc := 49) (ls' := [(2, v0), (0, v1), (0, v2), (0, 0), (0, 0), (9, 0), (9, 0)]) d_Md_thief_49 rfl ?_
    refine mJ_weak (ls' := [(2, v0), (9, 0), (0, v2), (0, 0), (0, 0), (9, 0), (9, 0)]) (mwk_s (mwk_d (mwk_s (mwk_s (mwk_s (mwk_s (mwk_s mwk_n))))))) (t_Md_thief_L51  _ _ _ _ hr)
  · refine j_iconst (pc := 39) d_Md_thief_39 ?_
    exact j_iret (pc := 40) d_Md_thief_40 rfl hr
theorem t_Md_thief {G : mG} (h : mH) (v0 v1 v2 : Int) (r : mR) (hr : f_Md_thief h v0 v1 v2 = some r) : mJM G M_Md_thief [(2, v0), (0, v1), (0, v2)] h r := by
  refine mJM_of (L := [(2, v0), (0, v1), (0, v2), (9, 0), (9, 0), (9, 0), (9, 0)]) rfl rfl rfl (Nat.le_of_ble_eq_true rfl) ?_
  unfold f_Md_thief at hr
  refine j_aload_n (pc := 0) d_Md_thief_0 rfl ?_
  refine j_iload_n (pc := 1) d_Md_thief_1 rfl ?_
  refine j_i2l (pc := 2) d_Md_thief_2 ?_
  refine j_lconst (pc := 3) (z := 1) d_Md_thief_3 ?_
  refine j_ldc2 (pc := 4) (z := 60) d_Md_thief_4 tb_cj_Md_308 rfl ?_
  refine j_callG (pc := 7) (stk := [(1, 60), (1, 1), (1, v2), (2, v0)]) (as := [(1, v2), (1, 1), (1, 60)]) (P := (fun v9 => ((0 : Nat), v9) :: [(2, v0)])) (tg := 0) (My := M_Md_amid) (mRunS (as := [(1, v2), (1, 1), (1, 60)]) (st := [(2, v0)]) d_Md_thief_7 (mc_Md_amid (by decide)) rfl ⟨tb_ml_Md_147, tb_sm_Md_amid⟩ rfl (Nat.le_of_ble_eq_true rfl)) (fun v => rfl) rfl hr (fun r1 h1 => t_Md_amid _ _ _ _ _ h1) (fun x2 h1 hr => ?_)
  refine j_if_ne (pc := 10) (tgt := 17) d_Md_thief_10 hr (fun hr => ?_) (fun hr => ?_)
  · refine j_aload_n (pc := 17) d_Md_thief_17 rfl ?_
    obtain ⟨ha, hr⟩ := chk_some hr
    refine j_callG (pc := 18) (stk := [(2, v0), (2, v0)]) (as := [(2, v0)]) (P := (fun v9 => ((0 : Nat), v9) :: [(2, v0)])) (tg := 0) (My := M_Md_bars) (mRunV (as := []) (st := [(2, v0)]) d_Md_thief_18 (mc_Md_bars (by decide)) rfl (mv_Md_bars tb_ml_Md_210) rfl (Nat.le_of_ble_eq_true rfl) ha) (fun v => rfl) rfl hr (fun r1 h1 => t_Md_bars _ _ _ h1) (fun x4 h3 hr => ?_)
    refine j_if_ne (pc := 21) (tgt := 28) d_Md_thief_21 hr (fun hr => ?_) (fun hr => ?_)
    · refine j_iconst (pc := 28) d_Md_thief_28 ?_
      exact mJ_weak (ls' := [(2, v0), (0, v1), (0, v2), (9, 0), (9, 0), (9, 0), (9, 0)]) (mwk_s (mwk_s (mwk_s (mwk_s (mwk_s (mwk_s (mwk_s mwk_n))))))) (t_Md_thief_J29  hr)
    · refine j_iconst (pc := 24) d_Md_thief_24 ?_
      refine j_goto (pc := 25) (tgt := 29) d_Md_thief_25 ?_
      exact mJ_weak (ls' := [(2, v0), (0, v1), (0, v2), (9, 0), (9, 0), (9, 0), (9, 0)]) (mwk_s (mwk_s (mwk_s (mwk_s (mwk_s (mwk_s (mwk_s mwk_n))))))) (t_Md_thief_J29  hr)
  · refine j_iconst (pc := 13) d_Md_thief_13 ?_
    refine j_goto (pc := 14) (tgt := 29) d_Md_thief_14 ?_
    exact mJ_weak (ls' := [(2, v0), (0, v1), (0, v2), (9, 0), (9, 0), (9, 0), (9, 0)]) (mwk_s (mwk_s (mwk_s (mwk_s (mwk_s (mwk_s (mwk_s mwk_n))))))) (t_Md_thief_J29  hr)
def M_Md_steps : mM := ("NineBarsModel", ⟨"NineBarsModel", "steps", "()I"⟩, prog_13_method_62_code, 1, some .int, [], 3)
theorem tb_co_Md_steps : mTB (Cond.code ⟨"NineBarsModel", "steps", "()I"⟩ prog_13_method_62_code 1 (some .int)) := tbq8 104 (by decide +kernel) rfl
theorem mc_Md_steps {M : mM} (hd : 3 < mDp M) : mCal M M_Md_steps 0 := ⟨tb_co_Md_steps, tb_in_NineBarsModel, ⟨by decide +kernel, by decide +kernel⟩, by decide +kernel, hd, by decide⟩
theorem d_Md_steps_0 : decode prog_13_method_62_code 0 = .ok (.iconst 2, 1) := by decide +kernel
theorem d_Md_steps_1 : decode prog_13_method_62_code 1 = .ok (.aload_n 0, 1) := by decide +kernel
theorem d_Md_steps_2 : decode prog_13_method_62_code 2 = .ok (.invokevirtual 210, 3) := by decide +kernel
theorem d_Md_steps_5 : decode prog_13_method_62_code 5 = .ok (.imul, 1) := by decide +kernel
theorem d_Md_steps_6 : decode prog_13_method_62_code 6 = .ok (.ireturn, 1) := by decide +kernel
theorem t_Md_steps {G : mG} (h : mH) (v0 : Int) (r : mR) (hr : f_Md_steps h v0 = some r) : mJM G M_Md_steps [(2, v0)] h r := by
  refine mJM_of (L := [(2, v0)]) rfl rfl rfl (Nat.le_of_ble_eq_true rfl) ?_
  unfold f_Md_steps at hr
  refine j_iconst (pc := 0) d_Md_steps_0 ?_
  refine j_aload_n (pc := 1) d_Md_steps_1 rfl ?_
  obtain ⟨ha, hr⟩ := chk_some hr
  refine j_callG (pc := 2) (stk := [(2, v0), (0, 2)]) (as := [(2, v0)]) (P := (fun v9 => ((0 : Nat), v9) :: [(0, 2)])) (tg := 0) (My := M_Md_bars) (mRunV (as := []) (st := [(0, 2)]) d_Md_steps_2 (mc_Md_bars (by decide)) rfl (mv_Md_bars tb_ml_Md_210) rfl (Nat.le_of_ble_eq_true rfl) ha) (fun v => rfl) rfl hr (fun r1 h1 => t_Md_bars _ _ _ h1) (fun x2 h1 hr => ?_)
  refine j_imul (pc := 5) d_Md_steps_5 ?_
  exact j_iret (pc := 6) d_Md_steps_6 rfl hr
def M_Md_begins : mM := ("NineBarsModel", ⟨"NineBarsModel", "begins", "(I)V"⟩, prog_13_method_63_code, 3, none, [], 5)
theorem tb_co_Md_begins : mTB (Cond.code ⟨"NineBarsModel", "begins", "(I)V"⟩ prog_13_method_63_code 3 (none)) := tbq8 100 (by decide +kernel) rfl
theorem mc_Md_begins {M : mM} (hd : 5 < mDp M) : mCal M M_Md_begins 1 := ⟨tb_co_Md_begins, tb_in_NineBarsModel, ⟨by decide +kernel, by decide +kernel⟩, by decide +kernel, hd, by decide⟩
theorem d_Md_begins_0 : decode prog_13_method_63_code 0 = .ok (.iconst 0, 1) := by decide +kernel
theorem d_Md_begins_1 : decode prog_13_method_63_code 1 = .ok (.istore_n 2, 1) := by decide +kernel
theorem d_Md_begins_2 : decode prog_13_method_63_code 2 = .ok (.iload_n 2, 1) := by decide +kernel
theorem d_Md_begins_3 : decode prog_13_method_63_code 3 = .ok (.aload_n 0, 1) := by decide +kernel
theorem d_Md_begins_4 : decode prog_13_method_63_code 4 = .ok (.invokevirtual 219, 3) := by decide +kernel
theorem d_Md_begins_7 : decode prog_13_method_63_code 7 = .ok (.if_icmp .ge 16, 3) := by decide +kernel
theorem d_Md_begins_10 : decode prog_13_method_63_code 10 = .ok (.aload_n 0, 1) := by decide +kernel
theorem d_Md_begins_11 : decode prog_13_method_63_code 11 = .ok (.getfield 39, 3) := by decide +kernel
theorem d_Md_begins_14 : decode prog_13_method_63_code 14 = .ok (.iload_n 2, 1) := by decide +kernel
theorem d_Md_begins_15 : decode prog_13_method_63_code 15 = .ok (.iconst (-1), 1) := by decide +kernel
theorem d_Md_begins_16 : decode prog_13_method_63_code 16 = .ok (.iastore, 1) := by decide +kernel
theorem d_Md_begins_17 : decode prog_13_method_63_code 17 = .ok (.iinc 2 1, 3) := by decide +kernel
theorem d_Md_begins_20 : decode prog_13_method_63_code 20 = .ok (.goto (-18), 3) := by decide +kernel
theorem d_Md_begins_23 : decode prog_13_method_63_code 23 = .ok (.aload_n 0, 1) := by decide +kernel
theorem d_Md_begins_24 : decode prog_13_method_63_code 24 = .ok (.getfield 39, 3) := by decide +kernel
theorem d_Md_begins_27 : decode prog_13_method_63_code 27 = .ok (.iload_n 1, 1) := by decide +kernel
theorem d_Md_begins_28 : decode prog_13_method_63_code 28 = .ok (.iconst 0, 1) := by decide +kernel
theorem d_Md_begins_29 : decode prog_13_method_63_code 29 = .ok (.iastore, 1) := by decide +kernel
theorem d_Md_begins_30 : decode prog_13_method_63_code 30 = .ok (.aload_n 0, 1) := by decide +kernel
theorem d_Md_begins_31 : decode prog_13_method_63_code 31 = .ok (.getfield 42, 3) := by decide +kernel
theorem d_Md_begins_34 : decode prog_13_method_63_code 34 = .ok (.iconst 0, 1) := by decide +kernel
theorem d_Md_begins_35 : decode prog_13_method_63_code 35 = .ok (.iload_n 1, 1) := by decide +kernel
theorem d_Md_begins_36 : decode prog_13_method_63_code 36 = .ok (.iastore, 1) := by decide +kernel
theorem d_Md_begins_37 : decode prog_13_method_63_code 37 = .ok (.aload_n 0, 1) := by decide +kernel
theorem d_Md_begins_38 : decode prog_13_method_63_code 38 = .ok (.iconst 1, 1) := by decide +kernel
theorem tb_fl_Md_313 : mTB (Cond.fieldLink "NineBarsModel" 313 "NineBarsModel" "rowMany" "I") := tbq6 231 (by decide +kernel) rfl
theorem fd_Md_313 {M : mM} (h : mO M = "NineBarsModel") : mFld M 313 11 24 0 := ⟨_, _, _, tyX11, rfl, by decide, by decide, rfl, uw_11, tyX11_ok, nmX11, by rw [h]; exact Or.inl tb_fl_Md_313⟩
theorem d_Md_begins_39 : decode prog_13_method_63_code 39 = .ok (.putfield 313, 3) := by decide +kernel
theorem d_Md_begins_42 : decode prog_13_method_63_code 42 = .ok (.return_, 1) := by decide +kernel
theorem t_Md_begins_L2 {G : mG} {r : mR} {v0 v1 : Int} {K23 : mH → Option mR} (hK23 : ∀ (h : mH) , K23 h  = some r → mJ G M_Md_begins 23 [(2, v0), (0, v1), (9, 0)] [] h r) : ∀ (n : Nat) (h : mH) (v2 : Int), f_Md_begins_L2 K23 v0 n h v2 = some r → mJ G M_Md_begins 2 [(2, v0), (0, v1), (0, v2)] [] h r := by
  intro n
  induction n with
  | zero =>
    intro h v2 hr
    rw [f_Md_begins_L2] at hr
    cases hr
  | succ n hR2 =>
    intro h v2 hr
    rw [f_Md_begins_L2] at hr
    refine j_iload_n (pc := 2) d_Md_begins_2 rfl ?_
    refine j_aload_n (pc := 3) d_Md_begins_3 rfl ?_
    obtain ⟨ha, hr⟩ := chk_some hr
    refine j_callG (pc := 4) (stk := [(2, v0), (0, v2)]) (as := [(2, v0)]) (P := (fun v9 => ((0 : Nat), v9) :: [(0, v2)])) (tg := 0) (My := M_Md_stands) (mRunV (as := []) (st := [(0, v2)]) d_Md_begins_4 (mc_Md_stands (by decide)) rfl (mv_Md_stands tb_ml_Md_219) rfl (Nat.le_of_ble_eq_true rfl) ha) (fun v => rfl) rfl hr (fun r1 h1 => t_Md_stands _ _ _ h1) (fun x2 h1 hr => ?_)
    refine j_icmp_ge (pc := 7) (tgt := 23) d_Md_begins_7 hr (fun hr => ?_) (fun hr => ?_)
    · exact mJ_weak (ls' := [(2, v0), (0, v1), (9, 0)]) (mwk_s (mwk_s (mwk_d mwk_n))) (hK23 h1  hr)
    · refine j_aload_n (pc := 10) d_Md_begins_10 rfl ?_
      refine j_getf (pc := 11) d_Md_begins_11 (fd_Md_39 rfl) hr (fun hr => ?_)
      refine j_iload_n (pc := 14) d_Md_begins_14 rfl ?_
      refine j_iconst (pc := 15) d_Md_begins_15 ?_
      refine j_iastore (pc := 16) d_Md_begins_16 hr (fun h3 hr => ?_)
      refine j_iincW (pc := 17) (L := fun x4 => [(2, v0), (0, v1), (0, x4)]) d_Md_begins_17 rfl (fun _ => rfl) hr (fun x4 hr => ?_)
      refine j_goto (pc := 20) (tgt := 2) d_Md_begins_20 ?_
      exact mJ_weak (ls' := [(2, v0), (0, v1), (0, x4)]) (mwk_s (mwk_s (mwk_s mwk_n))) (hR2 h3 _ hr)
theorem t_Md_begins {G : mG} (h : mH) (v0 v1 : Int) (r : mR) (hr : f_Md_begins h v0 v1 = some r) : mJM G M_Md_begins [(2, v0), (0, v1)] h r := by
  refine mJM_of (L := [(2, v0), (0, v1), (9, 0)]) rfl rfl rfl (Nat.le_of_ble_eq_true rfl) ?_
  unfold f_Md_begins at hr
  refine j_iconst (pc := 0) d_Md_begins_0 ?_
  refine j_istore_n (pc := 1) (ls' := [(2, v0), (0, v1), (0, 0)]) d_Md_begins_1 rfl ?_
  refine mJ_weak (ls' := [(2, v0), (0, v1), (0, 0)]) (mwk_s (mwk_s (mwk_s mwk_n))) (t_Md_begins_L2 (fun h1  hr => ?_) _ _ _ hr)
  · refine j_aload_n (pc := 23) d_Md_begins_23 rfl ?_
    refine j_getf (pc := 24) d_Md_begins_24 (fd_Md_39 rfl) hr (fun hr => ?_)
    refine j_iload_n (pc := 27) d_Md_begins_27 rfl ?_
    refine j_iconst (pc := 28) d_Md_begins_28 ?_
    refine j_iastore (pc := 29) d_Md_begins_29 hr (fun h2 hr => ?_)
    refine j_aload_n (pc := 30) d_Md_begins_30 rfl ?_
    refine j_getf (pc := 31) d_Md_begins_31 (fd_Md_42 rfl) hr (fun hr => ?_)
    refine j_iconst (pc := 34) d_Md_begins_34 ?_
    refine j_iload_n (pc := 35) d_Md_begins_35 rfl ?_
    refine j_iastore (pc := 36) d_Md_begins_36 hr (fun h3 hr => ?_)
    refine j_aload_n (pc := 37) d_Md_begins_37 rfl ?_
    refine j_iconst (pc := 38) d_Md_begins_38 ?_
    refine j_puti (pc := 39) d_Md_begins_39 (fd_Md_313 rfl) (⟨_, _, _, rfl, Or.inl rfl, rfl⟩ : mFldW M_Md_begins 313 11 24 .int) hr (fun h4 hr => ?_)
    exact j_vret (pc := 42) d_Md_begins_42 rfl hr
def M_Md_comes : mM := ("NineBarsModel", ⟨"NineBarsModel", "comes", "(II)V"⟩, prog_13_method_64_code, 3, none, [], 1)
theorem tb_co_Md_comes : mTB (Cond.code ⟨"NineBarsModel", "comes", "(II)V"⟩ prog_13_method_64_code 3 (none)) := tbq8 120 (by decide +kernel) rfl
theorem mc_Md_comes {M : mM} (hd : 1 < mDp M) : mCal M M_Md_comes 2 := ⟨tb_co_Md_comes, tb_in_NineBarsModel, ⟨by decide +kernel, by decide +kernel⟩, by decide +kernel, hd, by decide⟩
theorem d_Md_comes_0 : decode prog_13_method_64_code 0 = .ok (.aload_n 0, 1) := by decide +kernel
theorem d_Md_comes_1 : decode prog_13_method_64_code 1 = .ok (.getfield 39, 3) := by decide +kernel
theorem d_Md_comes_4 : decode prog_13_method_64_code 4 = .ok (.iload_n 1, 1) := by decide +kernel
theorem d_Md_comes_5 : decode prog_13_method_64_code 5 = .ok (.iaload, 1) := by decide +kernel
theorem d_Md_comes_6 : decode prog_13_method_64_code 6 = .ok (.iconst (-1), 1) := by decide +kernel
theorem d_Md_comes_7 : decode prog_13_method_64_code 7 = .ok (.if_icmp .eq 4, 3) := by decide +kernel
theorem d_Md_comes_11 : decode prog_13_method_64_code 11 = .ok (.aload_n 0, 1) := by decide +kernel
theorem d_Md_comes_12 : decode prog_13_method_64_code 12 = .ok (.getfield 39, 3) := by decide +kernel
theorem d_Md_comes_15 : decode prog_13_method_64_code 15 = .ok (.iload_n 1, 1) := by decide +kernel
theorem d_Md_comes_16 : decode prog_13_method_64_code 16 = .ok (.iload_n 2, 1) := by decide +kernel
theorem d_Md_comes_17 : decode prog_13_method_64_code 17 = .ok (.iastore, 1) := by decide +kernel
theorem d_Md_comes_18 : decode prog_13_method_64_code 18 = .ok (.aload_n 0, 1) := by decide +kernel
theorem d_Md_comes_19 : decode prog_13_method_64_code 19 = .ok (.getfield 42, 3) := by decide +kernel
theorem d_Md_comes_22 : decode prog_13_method_64_code 22 = .ok (.aload_n 0, 1) := by decide +kernel
theorem d_Md_comes_23 : decode prog_13_method_64_code 23 = .ok (.getfield 313, 3) := by decide +kernel
theorem d_Md_comes_26 : decode prog_13_method_64_code 26 = .ok (.iload_n 1, 1) := by decide +kernel
theorem d_Md_comes_27 : decode prog_13_method_64_code 27 = .ok (.iastore, 1) := by decide +kernel
theorem d_Md_comes_28 : decode prog_13_method_64_code 28 = .ok (.aload_n 0, 1) := by decide +kernel
theorem d_Md_comes_29 : decode prog_13_method_64_code 29 = .ok (.dup, 1) := by decide +kernel
theorem d_Md_comes_30 : decode prog_13_method_64_code 30 = .ok (.getfield 313, 3) := by decide +kernel
theorem d_Md_comes_33 : decode prog_13_method_64_code 33 = .ok (.iconst 1, 1) := by decide +kernel
theorem d_Md_comes_34 : decode prog_13_method_64_code 34 = .ok (.iadd, 1) := by decide +kernel
theorem d_Md_comes_35 : decode prog_13_method_64_code 35 = .ok (.putfield 313, 3) := by decide +kernel
theorem d_Md_comes_38 : decode prog_13_method_64_code 38 = .ok (.return_, 1) := by decide +kernel
theorem d_Md_comes_10 : decode prog_13_method_64_code 10 = .ok (.return_, 1) := by decide +kernel
theorem t_Md_comes {G : mG} (h : mH) (v0 v1 v2 : Int) (r : mR) (hr : f_Md_comes h v0 v1 v2 = some r) : mJM G M_Md_comes [(2, v0), (0, v1), (0, v2)] h r := by
  refine mJM_of (L := [(2, v0), (0, v1), (0, v2)]) rfl rfl rfl (Nat.le_of_ble_eq_true rfl) ?_
  unfold f_Md_comes at hr
  refine j_aload_n (pc := 0) d_Md_comes_0 rfl ?_
  refine j_getf (pc := 1) d_Md_comes_1 (fd_Md_39 rfl) hr (fun hr => ?_)
  refine j_iload_n (pc := 4) d_Md_comes_4 rfl ?_
  refine j_iaload (pc := 5) d_Md_comes_5 hr (fun hr => ?_)
  refine j_iconst (pc := 6) d_Md_comes_6 ?_
  refine j_icmp_eq (pc := 7) (tgt := 11) d_Md_comes_7 hr (fun hr => ?_) (fun hr => ?_)
  · refine j_aload_n (pc := 11) d_Md_comes_11 rfl ?_
    refine j_getf (pc := 12) d_Md_comes_12 (fd_Md_39 rfl) hr (fun hr => ?_)
    refine j_iload_n (pc := 15) d_Md_comes_15 rfl ?_
    refine j_iload_n (pc := 16) d_Md_comes_16 rfl ?_
    refine j_iastore (pc := 17) d_Md_comes_17 hr (fun h1 hr => ?_)
    refine j_aload_n (pc := 18) d_Md_comes_18 rfl ?_
    refine j_getf (pc := 19) d_Md_comes_19 (fd_Md_42 rfl) hr (fun hr => ?_)
    refine j_aload_n (pc := 22) d_Md_comes_22 rfl ?_
    refine j_getf (pc := 23) d_Md_comes_23 (fd_Md_313 rfl) hr (fun hr => ?_)
    refine j_iload_n (pc := 26) d_Md_comes_26 rfl ?_
    refine j_iastore (pc := 27) d_Md_comes_27 hr (fun h2 hr => ?_)
    refine j_aload_n (pc := 28) d_Md_comes_28 rfl ?_
    refine j_dup (pc := 29) d_Md_comes_29 ?_
    refine j_getf (pc := 30) d_Md_comes_30 (fd_Md_313 rfl) hr (fun hr => ?_)
    refine j_iconst (pc := 33) d_Md_comes_33 ?_
    refine j_iadd (pc := 34) d_Md_comes_34 ?_
    refine j_puti (pc := 35) d_Md_comes_35 (fd_Md_313 rfl) (⟨_, _, _, rfl, Or.inl rfl, rfl⟩ : mFldW M_Md_comes 313 11 24 .int) hr (fun h3 hr => ?_)
    exact j_vret (pc := 38) d_Md_comes_38 rfl hr
  · exact j_vret (pc := 10) d_Md_comes_10 rfl hr
def M_Md_laysFrom : mM := ("NineBarsModel", ⟨"NineBarsModel", "laysFrom", "(II)V"⟩, prog_13_method_65_code, 6, none, [], 9)
theorem tb_co_Md_laysFrom : mTB (Cond.code ⟨"NineBarsModel", "laysFrom", "(II)V"⟩ prog_13_method_65_code 6 (none)) := tbq8 96 (by decide +kernel) rfl
theorem mc_Md_laysFrom {M : mM} (hd : 9 < mDp M) : mCal M M_Md_laysFrom 2 := ⟨tb_co_Md_laysFrom, tb_in_NineBarsModel, ⟨by decide +kernel, by decide +kernel⟩, by decide +kernel, hd, by decide⟩
theorem d_Md_laysFrom_0 : decode prog_13_method_65_code 0 = .ok (.aload_n 0, 1) := by decide +kernel
theorem d_Md_laysFrom_1 : decode prog_13_method_65_code 1 = .ok (.iload_n 1, 1) := by decide +kernel
theorem d_Md_laysFrom_2 : decode prog_13_method_65_code 2 = .ok (.invokevirtual 316, 3) := by decide +kernel
theorem tb_ml_Md_316 : mTB (Cond.methodLink "NineBarsModel" 316 ⟨"NineBarsModel", "begins", "(I)V"⟩) := tbq8 97 (by decide +kernel) rfl
theorem tb_im_Md_begins : mTB (Cond.instanceMethod ⟨"NineBarsModel", "begins", "(I)V"⟩) := tbq8 99 (by decide +kernel) rfl
theorem tb_se_Md_begins : mTB (Cond.selects "NineBarsModel" ⟨"NineBarsModel", "begins", "(I)V"⟩ ⟨"NineBarsModel", "begins", "(I)V"⟩) := tbqp 82 (by decide +kernel) rfl
theorem mv_Md_begins {M : mM} {idx : Nat} (h : mTB (Cond.methodLink (mO M) idx ⟨"NineBarsModel", "begins", "(I)V"⟩)) : mCaV M M_Md_begins idx 11 := ⟨h, tb_im_Md_begins, tb_se_Md_begins, by decide, TX11, 40, rfl⟩
theorem d_Md_laysFrom_5 : decode prog_13_method_65_code 5 = .ok (.iconst 0, 1) := by decide +kernel
theorem d_Md_laysFrom_6 : decode prog_13_method_65_code 6 = .ok (.istore_n 3, 1) := by decide +kernel
theorem d_Md_laysFrom_7 : decode prog_13_method_65_code 7 = .ok (.iload_n 3, 1) := by decide +kernel
theorem d_Md_laysFrom_8 : decode prog_13_method_65_code 8 = .ok (.aload_n 0, 1) := by decide +kernel
theorem d_Md_laysFrom_9 : decode prog_13_method_65_code 9 = .ok (.getfield 313, 3) := by decide +kernel
theorem d_Md_laysFrom_12 : decode prog_13_method_65_code 12 = .ok (.if_icmp .ge 67, 3) := by decide +kernel
theorem d_Md_laysFrom_79 : decode prog_13_method_65_code 79 = .ok (.return_, 1) := by decide +kernel
theorem d_Md_laysFrom_15 : decode prog_13_method_65_code 15 = .ok (.iconst 0, 1) := by decide +kernel
theorem d_Md_laysFrom_16 : decode prog_13_method_65_code 16 = .ok (.istore 4, 2) := by decide +kernel
theorem d_Md_laysFrom_18 : decode prog_13_method_65_code 18 = .ok (.iload 4, 2) := by decide +kernel
theorem d_Md_laysFrom_20 : decode prog_13_method_65_code 20 = .ok (.aload_n 0, 1) := by decide +kernel
theorem d_Md_laysFrom_21 : decode prog_13_method_65_code 21 = .ok (.invokevirtual 319, 3) := by decide +kernel
theorem tb_ml_Md_319 : mTB (Cond.methodLink "NineBarsModel" 319 ⟨"NineBarsModel", "steps", "()I"⟩) := tbq8 101 (by decide +kernel) rfl
theorem tb_im_Md_steps : mTB (Cond.instanceMethod ⟨"NineBarsModel", "steps", "()I"⟩) := tbq8 103 (by decide +kernel) rfl
theorem tb_se_Md_steps : mTB (Cond.selects "NineBarsModel" ⟨"NineBarsModel", "steps", "()I"⟩ ⟨"NineBarsModel", "steps", "()I"⟩) := tbqp 83 (by decide +kernel) rfl
theorem mv_Md_steps {M : mM} {idx : Nat} (h : mTB (Cond.methodLink (mO M) idx ⟨"NineBarsModel", "steps", "()I"⟩)) : mCaV M M_Md_steps idx 11 := ⟨h, tb_im_Md_steps, tb_se_Md_steps, by decide, TX11, 40, rfl⟩
theorem d_Md_laysFrom_24 : decode prog_13_method_65_code 24 = .ok (.if_icmp .ge 49, 3) := by decide +kernel
theorem d_Md_laysFrom_27 : decode prog_13_method_65_code 27 = .ok (.aload_n 0, 1) := by decide +kernel
theorem d_Md_laysFrom_28 : decode prog_13_method_65_code 28 = .ok (.aload_n 0, 1) := by decide +kernel
theorem d_Md_laysFrom_29 : decode prog_13_method_65_code 29 = .ok (.getfield 42, 3) := by decide +kernel
theorem d_Md_laysFrom_32 : decode prog_13_method_65_code 32 = .ok (.iload_n 3, 1) := by decide +kernel
theorem d_Md_laysFrom_33 : decode prog_13_method_65_code 33 = .ok (.iaload, 1) := by decide +kernel
theorem d_Md_laysFrom_34 : decode prog_13_method_65_code 34 = .ok (.iload 4, 2) := by decide +kernel
theorem d_Md_laysFrom_36 : decode prog_13_method_65_code 36 = .ok (.iload_n 2, 1) := by decide +kernel
theorem d_Md_laysFrom_37 : decode prog_13_method_65_code 37 = .ok (.invokevirtual 322, 3) := by decide +kernel
theorem tb_ml_Md_322 : mTB (Cond.methodLink "NineBarsModel" 322 ⟨"NineBarsModel", "then", "(III)I"⟩) := tbq8 105 (by decide +kernel) rfl
theorem tb_im_Md_then : mTB (Cond.instanceMethod ⟨"NineBarsModel", "then", "(III)I"⟩) := tbq8 107 (by decide +kernel) rfl
theorem tb_se_Md_then : mTB (Cond.selects "NineBarsModel" ⟨"NineBarsModel", "then", "(III)I"⟩ ⟨"NineBarsModel", "then", "(III)I"⟩) := tbqp 84 (by decide +kernel) rfl
theorem mv_Md_then {M : mM} {idx : Nat} (h : mTB (Cond.methodLink (mO M) idx ⟨"NineBarsModel", "then", "(III)I"⟩)) : mCaV M M_Md_then idx 11 := ⟨h, tb_im_Md_then, tb_se_Md_then, by decide, TX11, 40, rfl⟩
theorem d_Md_laysFrom_40 : decode prog_13_method_65_code 40 = .ok (.istore 5, 2) := by decide +kernel
theorem d_Md_laysFrom_42 : decode prog_13_method_65_code 42 = .ok (.iload 5, 2) := by decide +kernel
theorem d_Md_laysFrom_44 : decode prog_13_method_65_code 44 = .ok (.iconst (-1), 1) := by decide +kernel
theorem d_Md_laysFrom_45 : decode prog_13_method_65_code 45 = .ok (.if_icmp .eq 22, 3) := by decide +kernel
theorem d_Md_laysFrom_67 : decode prog_13_method_65_code 67 = .ok (.iinc 4 1, 3) := by decide +kernel
theorem d_Md_laysFrom_70 : decode prog_13_method_65_code 70 = .ok (.goto (-52), 3) := by decide +kernel
theorem d_Md_laysFrom_48 : decode prog_13_method_65_code 48 = .ok (.aload_n 0, 1) := by decide +kernel
theorem d_Md_laysFrom_49 : decode prog_13_method_65_code 49 = .ok (.iload 5, 2) := by decide +kernel
theorem d_Md_laysFrom_51 : decode prog_13_method_65_code 51 = .ok (.aload_n 0, 1) := by decide +kernel
theorem d_Md_laysFrom_52 : decode prog_13_method_65_code 52 = .ok (.getfield 39, 3) := by decide +kernel
theorem d_Md_laysFrom_55 : decode prog_13_method_65_code 55 = .ok (.aload_n 0, 1) := by decide +kernel
theorem d_Md_laysFrom_56 : decode prog_13_method_65_code 56 = .ok (.getfield 42, 3) := by decide +kernel
theorem d_Md_laysFrom_59 : decode prog_13_method_65_code 59 = .ok (.iload_n 3, 1) := by decide +kernel
theorem d_Md_laysFrom_60 : decode prog_13_method_65_code 60 = .ok (.iaload, 1) := by decide +kernel
theorem d_Md_laysFrom_61 : decode prog_13_method_65_code 61 = .ok (.iaload, 1) := by decide +kernel
theorem d_Md_laysFrom_62 : decode prog_13_method_65_code 62 = .ok (.iconst 1, 1) := by decide +kernel
theorem d_Md_laysFrom_63 : decode prog_13_method_65_code 63 = .ok (.iadd, 1) := by decide +kernel
theorem d_Md_laysFrom_64 : decode prog_13_method_65_code 64 = .ok (.invokevirtual 326, 3) := by decide +kernel
theorem tb_ml_Md_326 : mTB (Cond.methodLink "NineBarsModel" 326 ⟨"NineBarsModel", "comes", "(II)V"⟩) := tbq8 117 (by decide +kernel) rfl
theorem tb_im_Md_comes : mTB (Cond.instanceMethod ⟨"NineBarsModel", "comes", "(II)V"⟩) := tbq8 119 (by decide +kernel) rfl
theorem tb_se_Md_comes : mTB (Cond.selects "NineBarsModel" ⟨"NineBarsModel", "comes", "(II)V"⟩ ⟨"NineBarsModel", "comes", "(II)V"⟩) := tbqp 87 (by decide +kernel) rfl
theorem mv_Md_comes {M : mM} {idx : Nat} (h : mTB (Cond.methodLink (mO M) idx ⟨"NineBarsModel", "comes", "(II)V"⟩)) : mCaV M M_Md_comes idx 11 := ⟨h, tb_im_Md_comes, tb_se_Md_comes, by decide, TX11, 40, rfl⟩
theorem d_Md_laysFrom_73 : decode prog_13_method_65_code 73 = .ok (.iinc 3 1, 3) := by decide +kernel
theorem d_Md_laysFrom_76 : decode prog_13_method_65_code 76 = .ok (.goto (-69), 3) := by decide +kernel
theorem t_Md_laysFrom_J67 {G : mG} {r : mR} {v0 v2 v3 v4 : Int} {h : mH} {R18 : mH → Int → Option mR} (hR18 : ∀ (h : mH) (w4 : Int) , R18 h w4 = some r → mJ G M_Md_laysFrom 18 [(2, v0), (9, 0), (0, v2), (0, v3), (0, w4), (9, 0)] [] h r) (hr : f_Md_laysFrom_J67 R18 v4 h = some r) : mJ G M_Md_laysFrom 67 [(2, v0), (9, 0), (0, v2), (0, v3), (0, v4), (9, 0)] [] h r := by
  unfold f_Md_laysFrom_J67 at hr
  refine j_iincW (pc := 67) (L := fun x1 => [(2, v0), (9, 0), (0, v2), (0, v3), (0, x1), (9, 0)]) d_Md_laysFrom_67 rfl (fun _ => rfl) hr (fun x1 hr => ?_)
  refine j_goto (pc := 70) (tgt := 18) d_Md_laysFrom_70 ?_
  exact mJ_weak (ls' := [(2, v0), (9, 0), (0, v2), (0, v3), (0, x1), (9, 0)]) (mwk_s (mwk_s (mwk_s (mwk_s (mwk_s (mwk_s mwk_n)))))) (hR18 h _ hr)
theorem t_Md_laysFrom_L18 {G : mG} {r : mR} {v0 v2 v3 : Int} {K73 : mH → Option mR} (hK73 : ∀ (h : mH) , K73 h  = some r → mJ G M_Md_laysFrom 73 [(2, v0), (9, 0), (0, v2), (0, v3), (9, 0), (9, 0)] [] h r) : ∀ (n : Nat) (h : mH) (v4 : Int), f_Md_laysFrom_L18 K73 v0 v2 v3 n h v4 = some r → mJ G M_Md_laysFrom 18 [(2, v0), (9, 0), (0, v2), (0, v3), (0, v4), (9, 0)] [] h r := by
  intro n
  induction n with
  | zero =>
    intro h v4 hr
    rw [f_Md_laysFrom_L18] at hr
    cases hr
  | succ n hR18 =>
    intro h v4 hr
    rw [f_Md_laysFrom_L18] at hr
    refine j_iload (pc := 18) d_Md_laysFrom_18 rfl ?_
    refine j_aload_n (pc := 20) d_Md_laysFrom_20 rfl ?_
    obtain ⟨ha, hr⟩ := chk_some hr
    refine j_callG (pc := 21) (stk := [(2, v0), (0, v4)]) (as := [(2, v0)]) (P := (fun v9 => ((0 : Nat), v9) :: [(0, v4)])) (tg := 0) (My := M_Md_steps) (mRunV (as := []) (st := [(0, v4)]) d_Md_laysFrom_21 (mc_Md_steps (by decide)) rfl (mv_Md_steps tb_ml_Md_319) rfl (Nat.le_of_ble_eq_true rfl) ha) (fun v => rfl) rfl hr (fun r1 h1 => t_Md_steps _ _ _ h1) (fun x2 h1 hr => ?_)
    refine j_icmp_ge (pc := 24) (tgt := 73) d_Md_laysFrom_24 hr (fun hr => ?_) (fun hr => ?_)
    · exact mJ_weak (ls' := [(2, v0), (9, 0), (0, v2), (0, v3), (9, 0), (9, 0)]) (mwk_s (mwk_s (mwk_s (mwk_s (mwk_d (mwk_s mwk_n)))))) (hK73 h1  hr)
    · refine j_aload_n (pc := 27) d_Md_laysFrom_27 rfl ?_
      refine j_aload_n (pc := 28) d_Md_laysFrom_28 rfl ?_
      refine j_getf (pc := 29) d_Md_laysFrom_29 (fd_Md_42 rfl) hr (fun hr => ?_)
      refine j_iload_n (pc := 32) d_Md_laysFrom_32 rfl ?_
      refine j_iaload (pc := 33) d_Md_laysFrom_33 hr (fun hr => ?_)
      refine j_iload (pc := 34) d_Md_laysFrom_34 rfl ?_
      refine j_iload_n (pc := 36) d_Md_laysFrom_36 rfl ?_
      obtain ⟨ha, hr⟩ := chk_some hr
      refine j_callG (pc := 37) (stk := [(0, v2), (0, v4), (0, hpV h1 (hpV h1 v0 23) v3), (2, v0)]) (as := [(2, v0), (0, hpV h1 (hpV h1 v0 23) v3), (0, v4), (0, v2)]) (P := (fun v9 => ((0 : Nat), v9) :: [])) (tg := 0) (My := M_Md_then) (mRunV (as := [(0, hpV h1 (hpV h1 v0 23) v3), (0, v4), (0, v2)]) (st := []) d_Md_laysFrom_37 (mc_Md_then (by decide)) rfl (mv_Md_then tb_ml_Md_322) rfl (Nat.le_of_ble_eq_true rfl) ha) (fun v => rfl) rfl hr (fun r1 h1 => t_Md_then _ _ _ _ _ _ h1) (fun x4 h3 hr => ?_)
      refine j_istore (pc := 40) (ls' := [(2, v0), (9, 0), (0, v2), (0, v3), (0, v4), (0, x4)]) d_Md_laysFrom_40 rfl ?_
      refine j_iload (pc := 42) d_Md_laysFrom_42 rfl ?_
      refine j_iconst (pc := 44) d_Md_laysFrom_44 ?_
      refine j_icmp_eq (pc := 45) (tgt := 67) d_Md_laysFrom_45 hr (fun hr => ?_) (fun hr => ?_)
      · exact mJ_weak (ls' := [(2, v0), (9, 0), (0, v2), (0, v3), (0, v4), (9, 0)]) (mwk_s (mwk_s (mwk_s (mwk_s (mwk_s (mwk_d mwk_n)))))) (t_Md_laysFrom_J67 hR18 hr)
      · refine j_aload_n (pc := 48) d_Md_laysFrom_48 rfl ?_
        refine j_iload (pc := 49) d_Md_laysFrom_49 rfl ?_
        refine j_aload_n (pc := 51) d_Md_laysFrom_51 rfl ?_
        refine j_getf (pc := 52) d_Md_laysFrom_52 (fd_Md_39 rfl) hr (fun hr => ?_)
        refine j_aload_n (pc := 55) d_Md_laysFrom_55 rfl ?_
        refine j_getf (pc := 56) d_Md_laysFrom_56 (fd_Md_42 rfl) hr (fun hr => ?_)
        refine j_iload_n (pc := 59) d_Md_laysFrom_59 rfl ?_
        refine j_iaload (pc := 60) d_Md_laysFrom_60 hr (fun hr => ?_)
        refine j_iaload (pc := 61) d_Md_laysFrom_61 hr (fun hr => ?_)
        refine j_iconst (pc := 62) d_Md_laysFrom_62 ?_
        refine j_iadd (pc := 63) d_Md_laysFrom_63 ?_
        obtain ⟨ha, hr⟩ := chk_some hr
        refine j_callG (pc := 64) (stk := [(0, w32 ((hpV h3 (hpV h3 v0 22) (hpV h3 (hpV h3 v0 23) v3)) + 1)), (0, x4), (2, v0)]) (as := [(2, v0), (0, x4), (0, w32 ((hpV h3 (hpV h3 v0 22) (hpV h3 (hpV h3 v0 23) v3)) + 1))]) (P := (fun v9 => [])) (tg := 3) (My := M_Md_comes) (mRunV (as := [(0, x4), (0, w32 ((hpV h3 (hpV h3 v0 22) (hpV h3 (hpV h3 v0 23) v3)) + 1))]) (st := []) d_Md_laysFrom_64 (mc_Md_comes (by decide)) rfl (mv_Md_comes tb_ml_Md_326) rfl (Nat.le_of_ble_eq_true rfl) ha) (fun v => rfl) rfl hr (fun r1 h1 => t_Md_comes _ _ _ _ _ h1) (fun x6 h5 hr => ?_)
        exact mJ_weak (ls' := [(2, v0), (9, 0), (0, v2), (0, v3), (0, v4), (9, 0)]) (mwk_s (mwk_s (mwk_s (mwk_s (mwk_s (mwk_d mwk_n)))))) (t_Md_laysFrom_J67 hR18 hr)
theorem t_Md_laysFrom_L7 {G : mG} {r : mR} {v0 v2 : Int}  : ∀ (n : Nat) (h : mH) (v3 : Int), f_Md_laysFrom_L7 v0 v2 n h v3 = some r → mJ G M_Md_laysFrom 7 [(2, v0), (9, 0), (0, v2), (0, v3), (9, 0), (9, 0)] [] h r := by
  intro n
  induction n with
  | zero =>
    intro h v3 hr
    rw [f_Md_laysFrom_L7] at hr
    cases hr
  | succ n hR7 =>
    intro h v3 hr
    rw [f_Md_laysFrom_L7] at hr
    refine j_iload_n (pc := 7) d_Md_laysFrom_7 rfl ?_
    refine j_aload_n (pc := 8) d_Md_laysFrom_8 rfl ?_
    refine j_getf (pc := 9) d_Md_laysFrom_9 (fd_Md_313 rfl) hr (fun hr => ?_)
    refine j_icmp_ge (pc := 12) (tgt := 79) d_Md_laysFrom_12 hr (fun hr => ?_) (fun hr => ?_)
    · exact j_vret (pc := 79) d_Md_laysFrom_79 rfl hr
    · refine j_iconst (pc := 15) d_Md_laysFrom_15 ?_
      refine j_istore (pc := 16) (ls' := [(2, v0), (9, 0), (0, v2), (0, v3), (0, 0), (9, 0)]) d_Md_laysFrom_16 rfl ?_
      refine mJ_weak (ls' := [(2, v0), (9, 0), (0, v2), (0, v3), (0, 0), (9, 0)]) (mwk_s (mwk_s (mwk_s (mwk_s (mwk_s (mwk_s mwk_n)))))) (t_Md_laysFrom_L18 (fun h1  hr => ?_) _ _ _ hr)
      · refine j_iincW (pc := 73) (L := fun x2 => [(2, v0), (9, 0), (0, v2), (0, x2), (9, 0), (9, 0)]) d_Md_laysFrom_73 rfl (fun _ => rfl) hr (fun x2 hr => ?_)
        refine j_goto (pc := 76) (tgt := 7) d_Md_laysFrom_76 ?_
        exact mJ_weak (ls' := [(2, v0), (9, 0), (0, v2), (0, x2), (9, 0), (9, 0)]) (mwk_s (mwk_s (mwk_s (mwk_s (mwk_s (mwk_s mwk_n)))))) (hR7 h1 _ hr)
theorem t_Md_laysFrom {G : mG} (h : mH) (v0 v1 v2 : Int) (r : mR) (hr : f_Md_laysFrom h v0 v1 v2 = some r) : mJM G M_Md_laysFrom [(2, v0), (0, v1), (0, v2)] h r := by
  refine mJM_of (L := [(2, v0), (0, v1), (0, v2), (9, 0), (9, 0), (9, 0)]) rfl rfl rfl (Nat.le_of_ble_eq_true rfl) ?_
  unfold f_Md_laysFrom at hr
  refine j_aload_n (pc := 0) d_Md_laysFrom_0 rfl ?_
  refine j_iload_n (pc := 1) d_Md_laysFrom_1 rfl ?_
  obtain ⟨ha, hr⟩ := chk_some hr
  refine j_callG (pc := 2) (stk := [(0, v1), (2, v0)]) (as := [(2, v0), (0, v1)]) (P := (fun v9 => [])) (tg := 3) (My := M_Md_begins) (mRunV (as := [(0, v1)]) (st := []) d_Md_laysFrom_2 (mc_Md_begins (by decide)) rfl (mv_Md_begins tb_ml_Md_316) rfl (Nat.le_of_ble_eq_true rfl) ha) (fun v => rfl) rfl hr (fun r1 h1 => t_Md_begins _ _ _ _ h1) (fun x2 h1 hr => ?_)
  refine j_iconst (pc := 5) d_Md_laysFrom_5 ?_
  refine j_istore_n (pc := 6) (ls' := [(2, v0), (0, v1), (0, v2), (0, 0), (9, 0), (9, 0)]) d_Md_laysFrom_6 rfl ?_
  refine mJ_weak (ls' := [(2, v0), (9, 0), (0, v2), (0, 0), (9, 0), (9, 0)]) (mwk_s (mwk_d (mwk_s (mwk_s (mwk_s (mwk_s mwk_n)))))) (t_Md_laysFrom_L7  _ _ _ hr)
def M_Md_laysTo : mM := ("NineBarsModel", ⟨"NineBarsModel", "laysTo", "(II)V"⟩, prog_13_method_66_code, 9, none, [], 9)
theorem tb_co_Md_laysTo : mTB (Cond.code ⟨"NineBarsModel", "laysTo", "(II)V"⟩ prog_13_method_66_code 9 (none)) := tbq8 136 (by decide +kernel) rfl
theorem mc_Md_laysTo {M : mM} (hd : 9 < mDp M) : mCal M M_Md_laysTo 2 := ⟨tb_co_Md_laysTo, tb_in_NineBarsModel, ⟨by decide +kernel, by decide +kernel⟩, by decide +kernel, hd, by decide⟩
theorem d_Md_laysTo_0 : decode prog_13_method_66_code 0 = .ok (.aload_n 0, 1) := by decide +kernel
theorem d_Md_laysTo_1 : decode prog_13_method_66_code 1 = .ok (.iload_n 1, 1) := by decide +kernel
theorem d_Md_laysTo_2 : decode prog_13_method_66_code 2 = .ok (.invokevirtual 316, 3) := by decide +kernel
theorem d_Md_laysTo_5 : decode prog_13_method_66_code 5 = .ok (.iconst 0, 1) := by decide +kernel
theorem d_Md_laysTo_6 : decode prog_13_method_66_code 6 = .ok (.istore_n 3, 1) := by decide +kernel
theorem d_Md_laysTo_7 : decode prog_13_method_66_code 7 = .ok (.iload_n 3, 1) := by decide +kernel
theorem d_Md_laysTo_8 : decode prog_13_method_66_code 8 = .ok (.aload_n 0, 1) := by decide +kernel
theorem d_Md_laysTo_9 : decode prog_13_method_66_code 9 = .ok (.getfield 313, 3) := by decide +kernel
theorem d_Md_laysTo_12 : decode prog_13_method_66_code 12 = .ok (.if_icmp .ge 155, 3) := by decide +kernel
theorem d_Md_laysTo_167 : decode prog_13_method_66_code 167 = .ok (.return_, 1) := by decide +kernel
theorem d_Md_laysTo_15 : decode prog_13_method_66_code 15 = .ok (.iconst 0, 1) := by decide +kernel
theorem d_Md_laysTo_16 : decode prog_13_method_66_code 16 = .ok (.istore 4, 2) := by decide +kernel
theorem d_Md_laysTo_18 : decode prog_13_method_66_code 18 = .ok (.iload 4, 2) := by decide +kernel
theorem d_Md_laysTo_20 : decode prog_13_method_66_code 20 = .ok (.aload_n 0, 1) := by decide +kernel
theorem d_Md_laysTo_21 : decode prog_13_method_66_code 21 = .ok (.invokevirtual 319, 3) := by decide +kernel
theorem d_Md_laysTo_24 : decode prog_13_method_66_code 24 = .ok (.if_icmp .ge 137, 3) := by decide +kernel
theorem d_Md_laysTo_27 : decode prog_13_method_66_code 27 = .ok (.iload 4, 2) := by decide +kernel
theorem d_Md_laysTo_29 : decode prog_13_method_66_code 29 = .ok (.iconst 2, 1) := by decide +kernel
theorem d_Md_laysTo_30 : decode prog_13_method_66_code 30 = .ok (.idiv, 1) := by decide +kernel
theorem d_Md_laysTo_31 : decode prog_13_method_66_code 31 = .ok (.istore 5, 2) := by decide +kernel
theorem d_Md_laysTo_33 : decode prog_13_method_66_code 33 = .ok (.aload_n 0, 1) := by decide +kernel
theorem d_Md_laysTo_34 : decode prog_13_method_66_code 34 = .ok (.aload_n 0, 1) := by decide +kernel
theorem d_Md_laysTo_35 : decode prog_13_method_66_code 35 = .ok (.getfield 42, 3) := by decide +kernel
theorem d_Md_laysTo_38 : decode prog_13_method_66_code 38 = .ok (.iload_n 3, 1) := by decide +kernel
theorem d_Md_laysTo_39 : decode prog_13_method_66_code 39 = .ok (.iaload, 1) := by decide +kernel
theorem d_Md_laysTo_40 : decode prog_13_method_66_code 40 = .ok (.iload 5, 2) := by decide +kernel
theorem d_Md_laysTo_42 : decode prog_13_method_66_code 42 = .ok (.invokevirtual 271, 3) := by decide +kernel
theorem d_Md_laysTo_45 : decode prog_13_method_66_code 45 = .ok (.istore 6, 2) := by decide +kernel
theorem d_Md_laysTo_47 : decode prog_13_method_66_code 47 = .ok (.iload 4, 2) := by decide +kernel
theorem d_Md_laysTo_49 : decode prog_13_method_66_code 49 = .ok (.iconst 2, 1) := by decide +kernel
theorem d_Md_laysTo_50 : decode prog_13_method_66_code 50 = .ok (.irem, 1) := by decide +kernel
theorem d_Md_laysTo_51 : decode prog_13_method_66_code 51 = .ok (.iconst 1, 1) := by decide +kernel
theorem d_Md_laysTo_52 : decode prog_13_method_66_code 52 = .ok (.if_icmp .ne 10, 3) := by decide +kernel
theorem d_Md_laysTo_62 : decode prog_13_method_66_code 62 = .ok (.iload 6, 2) := by decide +kernel
theorem d_Md_laysTo_64 : decode prog_13_method_66_code 64 = .ok (.iconst 1, 1) := by decide +kernel
theorem d_Md_laysTo_65 : decode prog_13_method_66_code 65 = .ok (.iadd, 1) := by decide +kernel
theorem d_Md_laysTo_66 : decode prog_13_method_66_code 66 = .ok (.istore 7, 2) := by decide +kernel
theorem d_Md_laysTo_68 : decode prog_13_method_66_code 68 = .ok (.iload 7, 2) := by decide +kernel
theorem d_Md_laysTo_70 : decode prog_13_method_66_code 70 = .ok (.i2l, 1) := by decide +kernel
theorem d_Md_laysTo_71 : decode prog_13_method_66_code 71 = .ok (.lconst 0, 1) := by decide +kernel
theorem d_Md_laysTo_72 : decode prog_13_method_66_code 72 = .ok (.aload_n 0, 1) := by decide +kernel
theorem d_Md_laysTo_73 : decode prog_13_method_66_code 73 = .ok (.iload 5, 2) := by decide +kernel
theorem d_Md_laysTo_75 : decode prog_13_method_66_code 75 = .ok (.iconst 0, 1) := by decide +kernel
theorem d_Md_laysTo_76 : decode prog_13_method_66_code 76 = .ok (.invokevirtual 213, 3) := by decide +kernel
theorem d_Md_laysTo_79 : decode prog_13_method_66_code 79 = .ok (.iconst 1, 1) := by decide +kernel
theorem d_Md_laysTo_80 : decode prog_13_method_66_code 80 = .ok (.isub, 1) := by decide +kernel
theorem d_Md_laysTo_81 : decode prog_13_method_66_code 81 = .ok (.i2l, 1) := by decide +kernel
theorem d_Md_laysTo_82 : decode prog_13_method_66_code 82 = .ok (.invokestatic 147, 3) := by decide +kernel
theorem d_Md_laysTo_85 : decode prog_13_method_66_code 85 = .ok (.ifCond .ne 6, 3) := by decide +kernel
theorem d_Md_laysTo_91 : decode prog_13_method_66_code 91 = .ok (.aload_n 0, 1) := by decide +kernel
theorem d_Md_laysTo_92 : decode prog_13_method_66_code 92 = .ok (.getfield 42, 3) := by decide +kernel
theorem d_Md_laysTo_95 : decode prog_13_method_66_code 95 = .ok (.iload_n 3, 1) := by decide +kernel
theorem d_Md_laysTo_96 : decode prog_13_method_66_code 96 = .ok (.iaload, 1) := by decide +kernel
theorem d_Md_laysTo_97 : decode prog_13_method_66_code 97 = .ok (.iload 7, 2) := by decide +kernel
theorem d_Md_laysTo_99 : decode prog_13_method_66_code 99 = .ok (.iload 6, 2) := by decide +kernel
theorem d_Md_laysTo_101 : decode prog_13_method_66_code 101 = .ok (.isub, 1) := by decide +kernel
theorem d_Md_laysTo_102 : decode prog_13_method_66_code 102 = .ok (.aload_n 0, 1) := by decide +kernel
theorem d_Md_laysTo_103 : decode prog_13_method_66_code 103 = .ok (.iload 5, 2) := by decide +kernel
theorem d_Md_laysTo_105 : decode prog_13_method_66_code 105 = .ok (.invokevirtual 254, 3) := by decide +kernel
theorem d_Md_laysTo_108 : decode prog_13_method_66_code 108 = .ok (.imul, 1) := by decide +kernel
theorem d_Md_laysTo_109 : decode prog_13_method_66_code 109 = .ok (.iadd, 1) := by decide +kernel
theorem d_Md_laysTo_110 : decode prog_13_method_66_code 110 = .ok (.istore 8, 2) := by decide +kernel
theorem d_Md_laysTo_112 : decode prog_13_method_66_code 112 = .ok (.aload_n 0, 1) := by decide +kernel
theorem d_Md_laysTo_113 : decode prog_13_method_66_code 113 = .ok (.getfield 39, 3) := by decide +kernel
theorem d_Md_laysTo_116 : decode prog_13_method_66_code 116 = .ok (.iload 8, 2) := by decide +kernel
theorem d_Md_laysTo_118 : decode prog_13_method_66_code 118 = .ok (.iaload, 1) := by decide +kernel
theorem d_Md_laysTo_119 : decode prog_13_method_66_code 119 = .ok (.iconst (-1), 1) := by decide +kernel
theorem d_Md_laysTo_120 : decode prog_13_method_66_code 120 = .ok (.if_icmp .ne 35, 3) := by decide +kernel
theorem d_Md_laysTo_155 : decode prog_13_method_66_code 155 = .ok (.iinc 4 1, 3) := by decide +kernel
theorem d_Md_laysTo_158 : decode prog_13_method_66_code 158 = .ok (.goto (-140), 3) := by decide +kernel
theorem d_Md_laysTo_123 : decode prog_13_method_66_code 123 = .ok (.aload_n 0, 1) := by decide +kernel
theorem d_Md_laysTo_124 : decode prog_13_method_66_code 124 = .ok (.iload 8, 2) := by decide +kernel
theorem d_Md_laysTo_126 : decode prog_13_method_66_code 126 = .ok (.iload 4, 2) := by decide +kernel
theorem d_Md_laysTo_128 : decode prog_13_method_66_code 128 = .ok (.iload_n 2, 1) := by decide +kernel
theorem d_Md_laysTo_129 : decode prog_13_method_66_code 129 = .ok (.invokevirtual 322, 3) := by decide +kernel
theorem d_Md_laysTo_132 : decode prog_13_method_66_code 132 = .ok (.iconst (-1), 1) := by decide +kernel
theorem d_Md_laysTo_133 : decode prog_13_method_66_code 133 = .ok (.if_icmp .eq 22, 3) := by decide +kernel
theorem d_Md_laysTo_136 : decode prog_13_method_66_code 136 = .ok (.aload_n 0, 1) := by decide +kernel
theorem d_Md_laysTo_137 : decode prog_13_method_66_code 137 = .ok (.iload 8, 2) := by decide +kernel
theorem d_Md_laysTo_139 : decode prog_13_method_66_code 139 = .ok (.aload_n 0, 1) := by decide +kernel
theorem d_Md_laysTo_140 : decode prog_13_method_66_code 140 = .ok (.getfield 39, 3) := by decide +kernel
theorem d_Md_laysTo_143 : decode prog_13_method_66_code 143 = .ok (.aload_n 0, 1) := by decide +kernel
theorem d_Md_laysTo_144 : decode prog_13_method_66_code 144 = .ok (.getfield 42, 3) := by decide +kernel
theorem d_Md_laysTo_147 : decode prog_13_method_66_code 147 = .ok (.iload_n 3, 1) := by decide +kernel
theorem d_Md_laysTo_148 : decode prog_13_method_66_code 148 = .ok (.iaload, 1) := by decide +kernel
theorem d_Md_laysTo_149 : decode prog_13_method_66_code 149 = .ok (.iaload, 1) := by decide +kernel
theorem d_Md_laysTo_150 : decode prog_13_method_66_code 150 = .ok (.iconst 1, 1) := by decide +kernel
theorem d_Md_laysTo_151 : decode prog_13_method_66_code 151 = .ok (.iadd, 1) := by decide +kernel
theorem d_Md_laysTo_152 : decode prog_13_method_66_code 152 = .ok (.invokevirtual 326, 3) := by decide +kernel
theorem d_Md_laysTo_88 : decode prog_13_method_66_code 88 = .ok (.goto 67, 3) := by decide +kernel
theorem d_Md_laysTo_55 : decode prog_13_method_66_code 55 = .ok (.iload 6, 2) := by decide +kernel
theorem d_Md_laysTo_57 : decode prog_13_method_66_code 57 = .ok (.iconst 1, 1) := by decide +kernel
theorem d_Md_laysTo_58 : decode prog_13_method_66_code 58 = .ok (.isub, 1) := by decide +kernel
theorem d_Md_laysTo_59 : decode prog_13_method_66_code 59 = .ok (.goto 7, 3) := by decide +kernel
theorem d_Md_laysTo_161 : decode prog_13_method_66_code 161 = .ok (.iinc 3 1, 3) := by decide +kernel
theorem d_Md_laysTo_164 : decode prog_13_method_66_code 164 = .ok (.goto (-157), 3) := by decide +kernel
theorem t_Md_laysTo_J155 {G : mG} {r : mR} {v0 v2 v3 v4 : Int} {h : mH} {R18 : mH → Int → Option mR} (hR18 : ∀ (h : mH) (w4 : Int) , R18 h w4 = some r → mJ G M_Md_laysTo 18 [(2, v0), (9, 0), (0, v2), (0, v3), (0, w4), (9, 0), (9, 0), (9, 0), (9, 0)] [] h r) (hr : f_Md_laysTo_J155 R18 v4 h = some r) : mJ G M_Md_laysTo 155 [(2, v0), (9, 0), (0, v2), (0, v3), (0, v4), (9, 0), (9, 0), (9, 0), (9, 0)] [] h r := by
  unfold f_Md_laysTo_J155 at hr
  refine j_iincW (pc := 155) (L := fun x1 => [(2, v0), (9, 0), (0, v2), (0, v3), (0, x1), (9, 0), (9, 0), (9, 0), (9, 0)]) d_Md_laysTo_155 rfl (fun _ => rfl) hr (fun x1 hr => ?_)
  refine j_goto (pc := 158) (tgt := 18) d_Md_laysTo_158 ?_
  exact mJ_weak (ls' := [(2, v0), (9, 0), (0, v2), (0, v3), (0, x1), (9, 0), (9, 0), (9, 0), (9, 0)]) (mwk_s (mwk_s (mwk_s (mwk_s (mwk_s (mwk_s (mwk_s (mwk_s (mwk_s mwk_n))))))))) (hR18 h _ hr)
theorem t_Md_laysTo_J66 {G : mG} {r : mR} {v0 v2 v3 v4 v5 v6 s0 : Int} {h : mH} {R18 : mH → Int → Option mR} (hR18 : ∀ (h : mH) (w4 : Int) , R18 h w4 = some r → mJ G M_Md_laysTo 18 [(2, v0), (9, 0), (0, v2), (0, v3), (0, w4), (9, 0), (9, 0), (9, 0), (9, 0)] [] h r) (hr : f_Md_laysTo_J66 R18 v0 v2 v3 v4 v5 v6 s0 h = some r) : mJ G M_Md_laysTo 66 [(2, v0), (9, 0), (0, v2), (0, v3), (0, v4), (0, v5), (0, v6), (9, 0), (9, 0)] [(0, s0)] h r := by
  unfold f_Md_laysTo_J66 at hr
  refine j_istore (pc := 66) (ls' := [(2, v0), (9, 0), (0, v2), (0, v3), (0, v4), (0, v5), (0, v6), (0, s0), (9, 0)]) d_Md_laysTo_66 rfl ?_
  refine j_iload (pc := 68) d_Md_laysTo_68 rfl ?_
  refine j_i2l (pc := 70) d_Md_laysTo_70 ?_
  refine j_lconst (pc := 71) (z := 0) d_Md_laysTo_71 ?_
  refine j_aload_n (pc := 72) d_Md_laysTo_72 rfl ?_
  refine j_iload (pc := 73) d_Md_laysTo_73 rfl ?_
  refine j_iconst (pc := 75) d_Md_laysTo_75 ?_
  obtain ⟨ha, hr⟩ := chk_some hr
  refine j_callG (pc := 76) (stk := [(0, 0), (0, v5), (2, v0), (1, 0), (1, s0)]) (as := [(2, v0), (0, v5), (0, 0)]) (P := (fun v9 => ((0 : Nat), v9) :: [(1, 0), (1, s0)])) (tg := 0) (My := M_Md_of) (mRunV (as := [(0, v5), (0, 0)]) (st := [(1, 0), (1, s0)]) d_Md_laysTo_76 (mc_Md_of (by decide)) rfl (mv_Md_of tb_ml_Md_213) rfl (Nat.le_of_ble_eq_true rfl) ha) (fun v => rfl) rfl hr (fun r1 h1 => t_Md_of _ _ _ _ _ h1) (fun x2 h1 hr => ?_)
  refine j_iconst (pc := 79) d_Md_laysTo_79 ?_
  refine j_isub (pc := 80) d_Md_laysTo_80 ?_
  refine j_i2l (pc := 81) d_Md_laysTo_81 ?_
  refine j_callG (pc := 82) (stk := [(1, w32 (x2 - 1)), (1, 0), (1, s0)]) (as := [(1, s0), (1, 0), (1, w32 (x2 - 1))]) (P := (fun v9 => ((0 : Nat), v9) :: [])) (tg := 0) (My := M_Md_amid) (mRunS (as := [(1, s0), (1, 0), (1, w32 (x2 - 1))]) (st := []) d_Md_laysTo_82 (mc_Md_amid (by decide)) rfl ⟨tb_ml_Md_147, tb_sm_Md_amid⟩ rfl (Nat.le_of_ble_eq_true rfl)) (fun v => rfl) rfl hr (fun r1 h1 => t_Md_amid _ _ _ _ _ h1) (fun x4 h3 hr => ?_)
  refine j_if_ne (pc := 85) (tgt := 91) d_Md_laysTo_85 hr (fun hr => ?_) (fun hr => ?_)
  · refine j_aload_n (pc := 91) d_Md_laysTo_91 rfl ?_
    refine j_getf (pc := 92) d_Md_laysTo_92 (fd_Md_42 rfl) hr (fun hr => ?_)
    refine j_iload_n (pc := 95) d_Md_laysTo_95 rfl ?_
    refine j_iaload (pc := 96) d_Md_laysTo_96 hr (fun hr => ?_)
    refine j_iload (pc := 97) d_Md_laysTo_97 rfl ?_
    refine j_iload (pc := 99) d_Md_laysTo_99 rfl ?_
    refine j_isub (pc := 101) d_Md_laysTo_101 ?_
    refine j_aload_n (pc := 102) d_Md_laysTo_102 rfl ?_
    refine j_iload (pc := 103) d_Md_laysTo_103 rfl ?_
    obtain ⟨ha, hr⟩ := chk_some hr
    refine j_callG (pc := 105) (stk := [(0, v5), (2, v0), (0, w32 (s0 - v6)), (0, hpV h3 (hpV h3 v0 23) v3)]) (as := [(2, v0), (0, v5)]) (P := (fun v9 => ((0 : Nat), v9) :: [(0, w32 (s0 - v6)), (0, hpV h3 (hpV h3 v0 23) v3)])) (tg := 0) (My := M_Md_weight) (mRunV (as := [(0, v5)]) (st := [(0, w32 (s0 - v6)), (0, hpV h3 (hpV h3 v0 23) v3)]) d_Md_laysTo_105 (mc_Md_weight (by decide)) rfl (mv_Md_weight tb_ml_Md_254) rfl (Nat.le_of_ble_eq_true rfl) ha) (fun v => rfl) rfl hr (fun r1 h1 => t_Md_weight _ _ _ _ h1) (fun x6 h5 hr => ?_)
    refine j_imul (pc := 108) d_Md_laysTo_108 ?_
    refine j_iadd (pc := 109) d_Md_laysTo_109 ?_
    refine j_istoreW (pc := 110) (L := fun x7 => [(2, v0), (9, 0), (0, v2), (0, v3), (0, v4), (0, v5), (0, v6), (0, s0), (0, x7)]) d_Md_laysTo_110 (fun _ => rfl) hr (fun x7 hr => ?_)
    refine j_aload_n (pc := 112) d_Md_laysTo_112 rfl ?_
    refine j_getf (pc := 113) d_Md_laysTo_113 (fd_Md_39 rfl) hr (fun hr => ?_)
    refine j_iload (pc := 116) d_Md_laysTo_116 rfl ?_
    refine j_iaload (pc := 118) d_Md_laysTo_118 hr (fun hr => ?_)
    refine j_iconst (pc := 119) d_Md_laysTo_119 ?_
    refine j_icmp_ne (pc := 120) (tgt := 155) d_Md_laysTo_120 hr (fun hr => ?_) (fun hr => ?_)
    · exact mJ_weak (ls' := [(2, v0), (9, 0), (0, v2), (0, v3), (0, v4), (9, 0), (9, 0), (9, 0), (9, 0)]) (mwk_s (mwk_s (mwk_s (mwk_s (mwk_s (mwk_d (mwk_d (mwk_d (mwk_d mwk_n))))))))) (t_Md_laysTo_J155 hR18 hr)
    · refine j_aload_n (pc := 123) d_Md_laysTo_123 rfl ?_
      refine j_iload (pc := 124) d_Md_laysTo_124 rfl ?_
      refine j_iload (pc := 126) d_Md_laysTo_126 rfl ?_
      refine j_iload_n (pc := 128) d_Md_laysTo_128 rfl ?_
      obtain ⟨ha, hr⟩ := chk_some hr
      refine j_callG (pc := 129) (stk := [(0, v2), (0, v4), (0, x7), (2, v0)]) (as := [(2, v0), (0, x7), (0, v4), (0, v2)]) (P := (fun v9 => ((0 : Nat), v9) :: [])) (tg := 0) (My := M_Md_then) (mRunV (as := [(0, x7), (0, v4), (0, v2)]) (st := []) d_Md_laysTo_129 (mc_Md_then (by decide)) rfl (mv_Md_then tb_ml_Md_322) rfl (Nat.le_of_ble_eq_true rfl) ha) (fun v => rfl) rfl hr (fun r1 h1 => t_Md_then _ _ _ _ _ _ h1) (fun x9 h8 hr => ?_)
      refine j_iconst (pc := 132) d_Md_laysTo_132 ?_
      refine j_icmp_eq (pc := 133) (tgt := 155) d_Md_laysTo_133 hr (fun hr => ?_) (fun hr => ?_)
      · exact mJ_weak (ls' := [(2, v0), (9, 0), (0, v2), (0, v3), (0, v4), (9, 0), (9, 0), (9, 0), (9, 0)]) (mwk_s (mwk_s (mwk_s (mwk_s (mwk_s (mwk_d (mwk_d (mwk_d (mwk_d mwk_n))))))))) (t_Md_laysTo_J155 hR18 hr)
      · refine j_aload_n (pc := 136) d_Md_laysTo_136 rfl ?_
        refine j_iload (pc := 137) d_Md_laysTo_137 rfl ?_
        refine j_aload_n (pc := 139) d_Md_laysTo_139 rfl ?_
        refine j_getf (pc := 140) d_Md_laysTo_140 (fd_Md_39 rfl) hr (fun hr => ?_)
        refine j_aload_n (pc := 143) d_Md_laysTo_143 rfl ?_
        refine j_getf (pc := 144) d_Md_laysTo_144 (fd_Md_42 rfl) hr (fun hr => ?_)
        refine j_iload_n (pc := 147) d_Md_laysTo_147 rfl ?_
        refine j_iaload (pc := 148) d_Md_laysTo_148 hr (fun hr => ?_)
        refine j_iaload (pc := 149) d_Md_laysTo_149 hr (fun hr => ?_)
        refine j_iconst (pc := 150) d_Md_laysTo_150 ?_
        refine j_iadd (pc := 151) d_Md_laysTo_151 ?_
        obtain ⟨ha, hr⟩ := chk_some hr
        refine j_callG (pc := 152) (stk := [(0, w32 ((hpV h8 (hpV h8 v0 22) (hpV h8 (hpV h8 v0 23) v3)) + 1)), (0, x7), (2, v0)]) (as := [(2, v0), (0, x7), (0, w32 ((hpV h8 (hpV h8 v0 22) (hpV h8 (hpV h8 v0 23) v3)) + 1))]) (P := (fun v9 => [])) (tg := 3) (My := M_Md_comes) (mRunV (as := [(0, x7), (0, w32 ((hpV h8 (hpV h8 v0 22) (hpV h8 (hpV h8 v0 23) v3)) + 1))]) (st := []) d_Md_laysTo_152 (mc_Md_comes (by decide)) rfl (mv_Md_comes tb_ml_Md_326) rfl (Nat.le_of_ble_eq_true rfl) ha) (fun v => rfl) rfl hr (fun r1 h1 => t_Md_comes _ _ _ _ _ h1) (fun x11 h10 hr => ?_)
        exact mJ_weak (ls' := [(2, v0), (9, 0), (0, v2), (0, v3), (0, v4), (9, 0), (9, 0), (9, 0), (9, 0)]) (mwk_s (mwk_s (mwk_s (mwk_s (mwk_s (mwk_d (mwk_d (mwk_d (mwk_d mwk_n))))))))) (t_Md_laysTo_J155 hR18 hr)
  · refine j_goto (pc := 88) (tgt := 155) d_Md_laysTo_88 ?_
    exact mJ_weak (ls' := [(2, v0), (9, 0), (0, v2), (0, v3), (0, v4), (9, 0), (9, 0), (9, 0), (9, 0)]) (mwk_s (mwk_s (mwk_s (mwk_s (mwk_s (mwk_d (mwk_d (mwk_d (mwk_s mwk_n))))))))) (t_Md_laysTo_J155 hR18 hr)
theorem t_Md_laysTo_L18 {G : mG} {r : mR} {v0 v2 v3 : Int} {K161 : mH → Option mR} (hK161 : ∀ (h : mH) , K161 h  = some r → mJ G M_Md_laysTo 161 [(2, v0), (9, 0), (0, v2), (0, v3), (9, 0), (9, 0), (9, 0), (9, 0), (9, 0)] [] h r) : ∀ (n : Nat) (h : mH) (v4 : Int), f_Md_laysTo_L18 K161 v0 v2 v3 n h v4 = some r → mJ G M_Md_laysTo 18 [(2, v0), (9, 0), (0, v2), (0, v3), (0, v4), (9, 0), (9, 0), (9, 0), (9, 0)] [] h r := by
  intro n
  induction n with
  | zero =>
    intro h v4 hr
    rw [f_Md_laysTo_L18] at hr
    cases hr
  | succ n hR18 =>
    intro h v4 hr
    rw [f_Md_laysTo_L18] at hr
    refine j_iload (pc := 18) d_Md_laysTo_18 rfl ?_
    refine j_aload_n (pc := 20) d_Md_laysTo_20 rfl ?_
    obtain ⟨ha, hr⟩ := chk_some hr
    refine j_callG (pc := 21) (stk := [(2, v0), (0, v4)]) (as := [(2, v0)]) (P := (fun v9 => ((0 : Nat), v9) :: [(0, v4)])) (tg := 0) (My := M_Md_steps) (mRunV (as := []) (st := [(0, v4)]) d_Md_laysTo_21 (mc_Md_steps (by decide)) rfl (mv_Md_steps tb_ml_Md_319) rfl (Nat.le_of_ble_eq_true rfl) ha) (fun v => rfl) rfl hr (fun r1 h1 => t_Md_steps _ _ _ h1) (fun x2 h1 hr => ?_)
    refine j_icmp_ge (pc := 24) (tgt := 161) d_Md_laysTo_24 hr (fun hr => ?_) (fun hr => ?_)
    · exact mJ_weak (ls' := [(2, v0), (9, 0), (0, v2), (0, v3), (9, 0), (9, 0), (9, 0), (9, 0), (9, 0)]) (mwk_s (mwk_s (mwk_s (mwk_s (mwk_d (mwk_s (mwk_s (mwk_s (mwk_s mwk_n))))))))) (hK161 h1  hr)
    · refine j_iload (pc := 27) d_Md_laysTo_27 rfl ?_
      refine j_iconst (pc := 29) d_Md_laysTo_29 ?_
      refine j_idiv (pc := 30) d_Md_laysTo_30 hr (fun hr => ?_)
      refine j_istoreW (pc := 31) (L := fun x3 => [(2, v0), (9, 0), (0, v2), (0, v3), (0, v4), (0, x3), (9, 0), (9, 0), (9, 0)]) d_Md_laysTo_31 (fun _ => rfl) hr (fun x3 hr => ?_)
      refine j_aload_n (pc := 33) d_Md_laysTo_33 rfl ?_
      refine j_aload_n (pc := 34) d_Md_laysTo_34 rfl ?_
      refine j_getf (pc := 35) d_Md_laysTo_35 (fd_Md_42 rfl) hr (fun hr => ?_)
      refine j_iload_n (pc := 38) d_Md_laysTo_38 rfl ?_
      refine j_iaload (pc := 39) d_Md_laysTo_39 hr (fun hr => ?_)
      refine j_iload (pc := 40) d_Md_laysTo_40 rfl ?_
      obtain ⟨ha, hr⟩ := chk_some hr
      refine j_callG (pc := 42) (stk := [(0, x3), (0, hpV h1 (hpV h1 v0 23) v3), (2, v0)]) (as := [(2, v0), (0, hpV h1 (hpV h1 v0 23) v3), (0, x3)]) (P := (fun v9 => ((0 : Nat), v9) :: [])) (tg := 0) (My := M_Md_placeOf) (mRunV (as := [(0, hpV h1 (hpV h1 v0 23) v3), (0, x3)]) (st := []) d_Md_laysTo_42 (mc_Md_placeOf (by decide)) rfl (mv_Md_placeOf tb_ml_Md_271) rfl (Nat.le_of_ble_eq_true rfl) ha) (fun v => rfl) rfl hr (fun r1 h1 => t_Md_placeOf _ _ _ _ _ h1) (fun x5 h4 hr => ?_)
      refine j_istore (pc := 45) (ls' := [(2, v0), (9, 0), (0, v2), (0, v3), (0, v4), (0, x3), (0, x5), (9, 0), (9, 0)]) d_Md_laysTo_45 rfl ?_
      refine j_iload (pc := 47) d_Md_laysTo_47 rfl ?_
      refine j_iconst (pc := 49) d_Md_laysTo_49 ?_
      refine j_irem (pc := 50) d_Md_laysTo_50 hr (fun hr => ?_)
      refine j_iconst (pc := 51) d_Md_laysTo_51 ?_
      refine j_icmp_ne (pc := 52) (tgt := 62) d_Md_laysTo_52 hr (fun hr => ?_) (fun hr => ?_)
      · refine j_iload (pc := 62) d_Md_laysTo_62 rfl ?_
        refine j_iconst (pc := 64) d_Md_laysTo_64 ?_
        refine j_iadd (pc := 65) d_Md_laysTo_65 ?_
        exact mJ_weak (ls' := [(2, v0), (9, 0), (0, v2), (0, v3), (0, v4), (0, x3), (0, x5), (9, 0), (9, 0)]) (mwk_s (mwk_s (mwk_s (mwk_s (mwk_s (mwk_s (mwk_s (mwk_s (mwk_s mwk_n))))))))) (t_Md_laysTo_J66 hR18 hr)
      · refine j_iload (pc := 55) d_Md_laysTo_55 rfl ?_
        refine j_iconst (pc := 57) d_Md_laysTo_57 ?_
        refine j_isub (pc := 58) d_Md_laysTo_58 ?_
        refine j_goto (pc := 59) (tgt := 66) d_Md_laysTo_59 ?_
        exact mJ_weak (ls' := [(2, v0), (9, 0), (0, v2), (0, v3), (0, v4), (0, x3), (0, x5), (9, 0), (9, 0)]) (mwk_s (mwk_s (mwk_s (mwk_s (mwk_s (mwk_s (mwk_s (mwk_s (mwk_s mwk_n))))))))) (t_Md_laysTo_J66 hR18 hr)
theorem t_Md_laysTo_L7 {G : mG} {r : mR} {v0 v2 : Int}  : ∀ (n : Nat) (h : mH) (v3 : Int), f_Md_laysTo_L7 v0 v2 n h v3 = some r → mJ G M_Md_laysTo 7 [(2, v0), (9, 0), (0, v2), (0, v3), (9, 0), (9, 0), (9, 0), (9, 0), (9, 0)] [] h r := by
  intro n
  induction n with
  | zero =>
    intro h v3 hr
    rw [f_Md_laysTo_L7] at hr
    cases hr
  | succ n hR7 =>
    intro h v3 hr
    rw [f_Md_laysTo_L7] at hr
    refine j_iload_n (pc := 7) d_Md_laysTo_7 rfl ?_
    refine j_aload_n (pc := 8) d_Md_laysTo_8 rfl ?_
    refine j_getf (pc := 9) d_Md_laysTo_9 (fd_Md_313 rfl) hr (fun hr => ?_)
    refine j_icmp_ge (pc := 12) (tgt := 167) d_Md_laysTo_12 hr (fun hr => ?_) (fun hr => ?_)
    · exact j_vret (pc := 167) d_Md_laysTo_167 rfl hr
    · refine j_iconst (pc := 15) d_Md_laysTo_15 ?_
      refine j_istore (pc := 16) (ls' := [(2, v0), (9, 0), (0, v2), (0, v3), (0, 0), (9, 0), (9, 0), (9, 0), (9, 0)]) d_Md_laysTo_16 rfl ?_
      refine mJ_weak (ls' := [(2, v0), (9, 0), (0, v2), (0, v3), (0, 0), (9, 0), (9, 0), (9, 0), (9, 0)]) (mwk_s (mwk_s (mwk_s (mwk_s (mwk_s (mwk_s (mwk_s (mwk_s (mwk_s mwk_n))))))))) (t_Md_laysTo_L18 (fun h1  hr => ?_) _ _ _ hr)
      · refine j_iincW (pc := 161) (L := fun x2 => [(2, v0), (9, 0), (0, v2), (0, x2), (9, 0), (9, 0), (9, 0), (9, 0), (9, 0)]) d_Md_laysTo_161 rfl (fun _ => rfl) hr (fun x2 hr => ?_)
        refine j_goto (pc := 164) (tgt := 7) d_Md_laysTo_164 ?_
        exact mJ_weak (ls' := [(2, v0), (9, 0), (0, v2), (0, x2), (9, 0), (9, 0), (9, 0), (9, 0), (9, 0)]) (mwk_s (mwk_s (mwk_s (mwk_s (mwk_s (mwk_s (mwk_s (mwk_s (mwk_s mwk_n))))))))) (hR7 h1 _ hr)
theorem t_Md_laysTo {G : mG} (h : mH) (v0 v1 v2 : Int) (r : mR) (hr : f_Md_laysTo h v0 v1 v2 = some r) : mJM G M_Md_laysTo [(2, v0), (0, v1), (0, v2)] h r := by
  refine mJM_of (L := [(2, v0), (0, v1), (0, v2), (9, 0), (9, 0), (9, 0), (9, 0), (9, 0), (9, 0)]) rfl rfl rfl (Nat.le_of_ble_eq_true rfl) ?_
  unfold f_Md_laysTo at hr
  refine j_aload_n (pc := 0) d_Md_laysTo_0 rfl ?_
  refine j_iload_n (pc := 1) d_Md_laysTo_1 rfl ?_
  obtain ⟨ha, hr⟩ := chk_some hr
  refine j_callG (pc := 2) (stk := [(0, v1), (2, v0)]) (as := [(2, v0), (0, v1)]) (P := (fun v9 => [])) (tg := 3) (My := M_Md_begins) (mRunV (as := [(0, v1)]) (st := []) d_Md_laysTo_2 (mc_Md_begins (by decide)) rfl (mv_Md_begins tb_ml_Md_316) rfl (Nat.le_of_ble_eq_true rfl) ha) (fun v => rfl) rfl hr (fun r1 h1 => t_Md_begins _ _ _ _ h1) (fun x2 h1 hr => ?_)
  refine j_iconst (pc := 5) d_Md_laysTo_5 ?_
  refine j_istore_n (pc := 6) (ls' := [(2, v0), (0, v1), (0, v2), (0, 0), (9, 0), (9, 0), (9, 0), (9, 0), (9, 0)]) d_Md_laysTo_6 rfl ?_
  refine mJ_weak (ls' := [(2, v0), (9, 0), (0, v2), (0, 0), (9, 0), (9, 0), (9, 0), (9, 0), (9, 0)]) (mwk_s (mwk_d (mwk_s (mwk_s (mwk_s (mwk_s (mwk_s (mwk_s (mwk_s mwk_n))))))))) (t_Md_laysTo_L7  _ _ _ hr)
def M_Md_reached : mM := ("NineBarsModel", ⟨"NineBarsModel", "reached", "()I"⟩, prog_13_method_67_code, 1, some .int, [], 11)
theorem tb_co_Md_reached : mTB (Cond.code ⟨"NineBarsModel", "reached", "()I"⟩ prog_13_method_67_code 1 (some .int)) := tbq8 92 (by decide +kernel) rfl
theorem mc_Md_reached {M : mM} (hd : 11 < mDp M) : mCal M M_Md_reached 0 := ⟨tb_co_Md_reached, tb_in_NineBarsModel, ⟨by decide +kernel, by decide +kernel⟩, by decide +kernel, hd, by decide⟩
theorem d_Md_reached_0 : decode prog_13_method_67_code 0 = .ok (.aload_n 0, 1) := by decide +kernel
theorem d_Md_reached_1 : decode prog_13_method_67_code 1 = .ok (.iconst 0, 1) := by decide +kernel
theorem d_Md_reached_2 : decode prog_13_method_67_code 2 = .ok (.putfield 86, 3) := by decide +kernel
theorem d_Md_reached_5 : decode prog_13_method_67_code 5 = .ok (.aload_n 0, 1) := by decide +kernel
theorem d_Md_reached_6 : decode prog_13_method_67_code 6 = .ok (.invokevirtual 261, 3) := by decide +kernel
theorem d_Md_reached_9 : decode prog_13_method_67_code 9 = .ok (.ifCond .eq 7, 3) := by decide +kernel
theorem d_Md_reached_16 : decode prog_13_method_67_code 16 = .ok (.aload_n 0, 1) := by decide +kernel
theorem d_Md_reached_17 : decode prog_13_method_67_code 17 = .ok (.aload_n 0, 1) := by decide +kernel
theorem d_Md_reached_18 : decode prog_13_method_67_code 18 = .ok (.invokevirtual 265, 3) := by decide +kernel
theorem d_Md_reached_21 : decode prog_13_method_67_code 21 = .ok (.aload_n 0, 1) := by decide +kernel
theorem d_Md_reached_22 : decode prog_13_method_67_code 22 = .ok (.invokevirtual 244, 3) := by decide +kernel
theorem d_Md_reached_25 : decode prog_13_method_67_code 25 = .ok (.invokevirtual 329, 3) := by decide +kernel
theorem tb_ml_Md_329 : mTB (Cond.methodLink "NineBarsModel" 329 ⟨"NineBarsModel", "laysFrom", "(II)V"⟩) := tbq8 93 (by decide +kernel) rfl
theorem tb_im_Md_laysFrom : mTB (Cond.instanceMethod ⟨"NineBarsModel", "laysFrom", "(II)V"⟩) := tbq8 95 (by decide +kernel) rfl
theorem tb_se_Md_laysFrom : mTB (Cond.selects "NineBarsModel" ⟨"NineBarsModel", "laysFrom", "(II)V"⟩ ⟨"NineBarsModel", "laysFrom", "(II)V"⟩) := tbqp 81 (by decide +kernel) rfl
theorem mv_Md_laysFrom {M : mM} {idx : Nat} (h : mTB (Cond.methodLink (mO M) idx ⟨"NineBarsModel", "laysFrom", "(II)V"⟩)) : mCaV M M_Md_laysFrom idx 11 := ⟨h, tb_im_Md_laysFrom, tb_se_Md_laysFrom, by decide, TX11, 40, rfl⟩
theorem d_Md_reached_28 : decode prog_13_method_67_code 28 = .ok (.aload_n 0, 1) := by decide +kernel
theorem d_Md_reached_29 : decode prog_13_method_67_code 29 = .ok (.getfield 313, 3) := by decide +kernel
theorem d_Md_reached_32 : decode prog_13_method_67_code 32 = .ok (.ireturn, 1) := by decide +kernel
theorem d_Md_reached_12 : decode prog_13_method_67_code 12 = .ok (.sipush (-1000), 3) := by decide +kernel
theorem d_Md_reached_15 : decode prog_13_method_67_code 15 = .ok (.ireturn, 1) := by decide +kernel
theorem t_Md_reached {G : mG} (h : mH) (v0 : Int) (r : mR) (hr : f_Md_reached h v0 = some r) : mJM G M_Md_reached [(2, v0)] h r := by
  refine mJM_of (L := [(2, v0)]) rfl rfl rfl (Nat.le_of_ble_eq_true rfl) ?_
  unfold f_Md_reached at hr
  refine j_aload_n (pc := 0) d_Md_reached_0 rfl ?_
  refine j_iconst (pc := 1) d_Md_reached_1 ?_
  refine j_puti (pc := 2) d_Md_reached_2 (fd_Md_86 rfl) (⟨_, _, _, rfl, Or.inl rfl, rfl⟩ : mFldW M_Md_reached 86 11 5 .int) hr (fun h1 hr => ?_)
  refine j_aload_n (pc := 5) d_Md_reached_5 rfl ?_
  obtain ⟨ha, hr⟩ := chk_some hr
  refine j_callG (pc := 6) (stk := [(2, v0)]) (as := [(2, v0)]) (P := (fun v9 => ((0 : Nat), v9) :: [])) (tg := 0) (My := M_Md_isSpent) (mRunV (as := []) (st := []) d_Md_reached_6 (mc_Md_isSpent (by decide)) rfl (mv_Md_isSpent tb_ml_Md_261) rfl (Nat.le_of_ble_eq_true rfl) ha) (fun v => rfl) rfl hr (fun r1 h1 => t_Md_isSpent _ _ _ h1) (fun x3 h2 hr => ?_)
  refine j_if_eq (pc := 9) (tgt := 16) d_Md_reached_9 hr (fun hr => ?_) (fun hr => ?_)
  · refine j_aload_n (pc := 16) d_Md_reached_16 rfl ?_
    refine j_aload_n (pc := 17) d_Md_reached_17 rfl ?_
    obtain ⟨ha, hr⟩ := chk_some hr
    refine j_callG (pc := 18) (stk := [(2, v0), (2, v0)]) (as := [(2, v0)]) (P := (fun v9 => ((0 : Nat), v9) :: [(2, v0)])) (tg := 0) (My := M_Md_standNow) (mRunV (as := []) (st := [(2, v0)]) d_Md_reached_18 (mc_Md_standNow (by decide)) rfl (mv_Md_standNow tb_ml_Md_265) rfl (Nat.le_of_ble_eq_true rfl) ha) (fun v => rfl) rfl hr (fun r1 h1 => t_Md_standNow _ _ _ h1) (fun x5 h4 hr => ?_)
    refine j_aload_n (pc := 21) d_Md_reached_21 rfl ?_
    obtain ⟨ha, hr⟩ := chk_some hr
    refine j_callG (pc := 22) (stk := [(2, v0), (0, x5), (2, v0)]) (as := [(2, v0)]) (P := (fun v9 => ((0 : Nat), v9) :: [(0, x5), (2, v0)])) (tg := 0) (My := M_Md_worn) (mRunV (as := []) (st := [(0, x5), (2, v0)]) d_Md_reached_22 (mc_Md_worn (by decide)) rfl (mv_Md_worn tb_ml_Md_244) rfl (Nat.le_of_ble_eq_true rfl) ha) (fun v => rfl) rfl hr (fun r1 h1 => t_Md_worn _ _ _ h1) (fun x7 h6 hr => ?_)
    obtain ⟨ha, hr⟩ := chk_some hr
    refine j_callG (pc := 25) (stk := [(0, x7), (0, x5), (2, v0)]) (as := [(2, v0), (0, x5), (0, x7)]) (P := (fun v9 => [])) (tg := 3) (My := M_Md_laysFrom) (mRunV (as := [(0, x5), (0, x7)]) (st := []) d_Md_reached_25 (mc_Md_laysFrom (by decide)) rfl (mv_Md_laysFrom tb_ml_Md_329) rfl (Nat.le_of_ble_eq_true rfl) ha) (fun v => rfl) rfl hr (fun r1 h1 => t_Md_laysFrom _ _ _ _ _ h1) (fun x9 h8 hr => ?_)
    refine j_aload_n (pc := 28) d_Md_reached_28 rfl ?_
    refine j_getf (pc := 29) d_Md_reached_29 (fd_Md_313 rfl) hr (fun hr => ?_)
    exact j_iret (pc := 32) d_Md_reached_32 rfl hr
  · refine j_sipush (pc := 12) d_Md_reached_12 ?_
    exact j_iret (pc := 15) d_Md_reached_15 rfl hr
def M_Md_canBe : mM := ("NineBarsModel", ⟨"NineBarsModel", "canBe", "(I)Z"⟩, prog_13_method_68_code, 2, some .boolean, [], 11)
theorem tb_co_Md_canBe : mTB (Cond.code ⟨"NineBarsModel", "canBe", "(I)Z"⟩ prog_13_method_68_code 2 (some .boolean)) := tbq8 124 (by decide +kernel) rfl
theorem mc_Md_canBe {M : mM} (hd : 11 < mDp M) : mCal M M_Md_canBe 1 := ⟨tb_co_Md_canBe, tb_in_NineBarsModel, ⟨by decide +kernel, by decide +kernel⟩, by decide +kernel, hd, by decide⟩
theorem d_Md_canBe_0 : decode prog_13_method_68_code 0 = .ok (.aload_n 0, 1) := by decide +kernel
theorem d_Md_canBe_1 : decode prog_13_method_68_code 1 = .ok (.aload_n 0, 1) := by decide +kernel
theorem d_Md_canBe_2 : decode prog_13_method_68_code 2 = .ok (.iload_n 1, 1) := by decide +kernel
theorem d_Md_canBe_3 : decode prog_13_method_68_code 3 = .ok (.invokevirtual 268, 3) := by decide +kernel
theorem d_Md_canBe_6 : decode prog_13_method_68_code 6 = .ok (.ifCond .ne 7, 3) := by decide +kernel
theorem d_Md_canBe_13 : decode prog_13_method_68_code 13 = .ok (.aload_n 0, 1) := by decide +kernel
theorem d_Md_canBe_14 : decode prog_13_method_68_code 14 = .ok (.invokevirtual 261, 3) := by decide +kernel
theorem d_Md_canBe_17 : decode prog_13_method_68_code 17 = .ok (.ifCond .eq 7, 3) := by decide +kernel
theorem d_Md_canBe_24 : decode prog_13_method_68_code 24 = .ok (.iconst 0, 1) := by decide +kernel
theorem d_Md_canBe_25 : decode prog_13_method_68_code 25 = .ok (.putfield 86, 3) := by decide +kernel
theorem d_Md_canBe_28 : decode prog_13_method_68_code 28 = .ok (.aload_n 0, 1) := by decide +kernel
theorem d_Md_canBe_29 : decode prog_13_method_68_code 29 = .ok (.getfield 86, 3) := by decide +kernel
theorem d_Md_canBe_32 : decode prog_13_method_68_code 32 = .ok (.ifCond .le 5, 3) := by decide +kernel
theorem d_Md_canBe_37 : decode prog_13_method_68_code 37 = .ok (.aload_n 0, 1) := by decide +kernel
theorem d_Md_canBe_38 : decode prog_13_method_68_code 38 = .ok (.aload_n 0, 1) := by decide +kernel
theorem d_Md_canBe_39 : decode prog_13_method_68_code 39 = .ok (.invokevirtual 265, 3) := by decide +kernel
theorem d_Md_canBe_42 : decode prog_13_method_68_code 42 = .ok (.aload_n 0, 1) := by decide +kernel
theorem d_Md_canBe_43 : decode prog_13_method_68_code 43 = .ok (.invokevirtual 244, 3) := by decide +kernel
theorem d_Md_canBe_46 : decode prog_13_method_68_code 46 = .ok (.invokevirtual 329, 3) := by decide +kernel
theorem d_Md_canBe_49 : decode prog_13_method_68_code 49 = .ok (.aload_n 0, 1) := by decide +kernel
theorem d_Md_canBe_50 : decode prog_13_method_68_code 50 = .ok (.getfield 39, 3) := by decide +kernel
theorem d_Md_canBe_53 : decode prog_13_method_68_code 53 = .ok (.iload_n 1, 1) := by decide +kernel
theorem d_Md_canBe_54 : decode prog_13_method_68_code 54 = .ok (.iaload, 1) := by decide +kernel
theorem d_Md_canBe_55 : decode prog_13_method_68_code 55 = .ok (.iconst (-1), 1) := by decide +kernel
theorem d_Md_canBe_56 : decode prog_13_method_68_code 56 = .ok (.if_icmp .eq 7, 3) := by decide +kernel
theorem d_Md_canBe_63 : decode prog_13_method_68_code 63 = .ok (.iconst 0, 1) := by decide +kernel
theorem d_Md_canBe_64 : decode prog_13_method_68_code 64 = .ok (.ireturn, 1) := by decide +kernel
theorem d_Md_canBe_59 : decode prog_13_method_68_code 59 = .ok (.iconst 1, 1) := by decide +kernel
theorem d_Md_canBe_60 : decode prog_13_method_68_code 60 = .ok (.goto 4, 3) := by decide +kernel
theorem d_Md_canBe_35 : decode prog_13_method_68_code 35 = .ok (.iconst 0, 1) := by decide +kernel
theorem d_Md_canBe_36 : decode prog_13_method_68_code 36 = .ok (.ireturn, 1) := by decide +kernel
theorem d_Md_canBe_20 : decode prog_13_method_68_code 20 = .ok (.iconst 2, 1) := by decide +kernel
theorem d_Md_canBe_21 : decode prog_13_method_68_code 21 = .ok (.goto 4, 3) := by decide +kernel
theorem d_Md_canBe_9 : decode prog_13_method_68_code 9 = .ok (.iconst 1, 1) := by decide +kernel
theorem d_Md_canBe_10 : decode prog_13_method_68_code 10 = .ok (.goto 15, 3) := by decide +kernel
theorem t_Md_canBe_J25 {G : mG} {r : mR} {v0 v1 s0 s1 : Int} {h : mH}  (hr : f_Md_canBe_J25 v0 v1 s0 s1 h = some r) : mJ G M_Md_canBe 25 [(2, v0), (0, v1)] [(0, s1), (2, s0)] h r := by
  unfold f_Md_canBe_J25 at hr
  refine j_puti (pc := 25) d_Md_canBe_25 (fd_Md_86 rfl) (⟨_, _, _, rfl, Or.inl rfl, rfl⟩ : mFldW M_Md_canBe 86 11 5 .int) hr (fun h1 hr => ?_)
  refine j_aload_n (pc := 28) d_Md_canBe_28 rfl ?_
  refine j_getf (pc := 29) d_Md_canBe_29 (fd_Md_86 rfl) hr (fun hr => ?_)
  refine j_if_le (pc := 32) (tgt := 37) d_Md_canBe_32 hr (fun hr => ?_) (fun hr => ?_)
  · refine j_aload_n (pc := 37) d_Md_canBe_37 rfl ?_
    refine j_aload_n (pc := 38) d_Md_canBe_38 rfl ?_
    obtain ⟨ha, hr⟩ := chk_some hr
    refine j_callG (pc := 39) (stk := [(2, v0), (2, v0)]) (as := [(2, v0)]) (P := (fun v9 => ((0 : Nat), v9) :: [(2, v0)])) (tg := 0) (My := M_Md_standNow) (mRunV (as := []) (st := [(2, v0)]) d_Md_canBe_39 (mc_Md_standNow (by decide)) rfl (mv_Md_standNow tb_ml_Md_265) rfl (Nat.le_of_ble_eq_true rfl) ha) (fun v => rfl) rfl hr (fun r1 h1 => t_Md_standNow _ _ _ h1) (fun x3 h2 hr => ?_)
    refine j_aload_n (pc := 42) d_Md_canBe_42 rfl ?_
    obtain ⟨ha, hr⟩ := chk_some hr
    refine j_callG (pc := 43) (stk := [(2, v0), (0, x3), (2, v0)]) (as := [(2, v0)]) (P := (fun v9 => ((0 : Nat), v9) :: [(0, x3), (2, v0)])) (tg := 0) (My := M_Md_worn) (mRunV (as := []) (st := [(0, x3), (2, v0)]) d_Md_canBe_43 (mc_Md_worn (by decide)) rfl (mv_Md_worn tb_ml_Md_244) rfl (Nat.le_of_ble_eq_true rfl) ha) (fun v => rfl) rfl hr (fun r1 h1 => t_Md_worn _ _ _ h1) (fun x5 h4 hr => ?_)
    obtain ⟨ha, hr⟩ := chk_some hr
    refine j_callG (pc := 46) (stk := [(0, x5), (0, x3), (2, v0)]) (as := [(2, v0), (0, x3), (0, x5)]) (P := (fun v9 => [])) (tg := 3) (My := M_Md_laysFrom) (mRunV (as := [(0, x3), (0, x5)]) (st := []) d_Md_canBe_46 (mc_Md_laysFrom (by decide)) rfl (mv_Md_laysFrom tb_ml_Md_329) rfl (Nat.le_of_ble_eq_true rfl) ha) (fun v => rfl) rfl hr (fun r1 h1 => t_Md_laysFrom _ _ _ _ _ h1) (fun x7 h6 hr => ?_)
    refine j_aload_n (pc := 49) d_Md_canBe_49 rfl ?_
    refine j_getf (pc := 50) d_Md_canBe_50 (fd_Md_39 rfl) hr (fun hr => ?_)
    refine j_iload_n (pc := 53) d_Md_canBe_53 rfl ?_
    refine j_iaload (pc := 54) d_Md_canBe_54 hr (fun hr => ?_)
    refine j_iconst (pc := 55) d_Md_canBe_55 ?_
    refine j_icmp_eq (pc := 56) (tgt := 63) d_Md_canBe_56 hr (fun hr => ?_) (fun hr => ?_)
    · refine j_iconst (pc := 63) d_Md_canBe_63 ?_
      exact j_zret (pc := 64) d_Md_canBe_64 rfl hr
    · refine j_iconst (pc := 59) d_Md_canBe_59 ?_
      refine j_goto (pc := 60) (tgt := 64) d_Md_canBe_60 ?_
      exact j_zret (pc := 64) d_Md_canBe_64 rfl hr
  · refine j_iconst (pc := 35) d_Md_canBe_35 ?_
    exact j_zret (pc := 36) d_Md_canBe_36 rfl hr
theorem t_Md_canBe {G : mG} (h : mH) (v0 v1 : Int) (r : mR) (hr : f_Md_canBe h v0 v1 = some r) : mJM G M_Md_canBe [(2, v0), (0, v1)] h r := by
  refine mJM_of (L := [(2, v0), (0, v1)]) rfl rfl rfl (Nat.le_of_ble_eq_true rfl) ?_
  unfold f_Md_canBe at hr
  refine j_aload_n (pc := 0) d_Md_canBe_0 rfl ?_
  refine j_aload_n (pc := 1) d_Md_canBe_1 rfl ?_
  refine j_iload_n (pc := 2) d_Md_canBe_2 rfl ?_
  obtain ⟨ha, hr⟩ := chk_some hr
  refine j_callG (pc := 3) (stk := [(0, v1), (2, v0), (2, v0)]) (as := [(2, v0), (0, v1)]) (P := (fun v9 => ((0 : Nat), v9) :: [(2, v0)])) (tg := 0) (My := M_Md_isStand) (mRunV (as := [(0, v1)]) (st := [(2, v0)]) d_Md_canBe_3 (mc_Md_isStand (by decide)) rfl (mv_Md_isStand tb_ml_Md_268) rfl (Nat.le_of_ble_eq_true rfl) ha) (fun v => rfl) rfl hr (fun r1 h1 => t_Md_isStand _ _ _ _ h1) (fun x2 h1 hr => ?_)
  refine j_if_ne (pc := 6) (tgt := 13) d_Md_canBe_6 hr (fun hr => ?_) (fun hr => ?_)
  · refine j_aload_n (pc := 13) d_Md_canBe_13 rfl ?_
    obtain ⟨ha, hr⟩ := chk_some hr
    refine j_callG (pc := 14) (stk := [(2, v0), (2, v0)]) (as := [(2, v0)]) (P := (fun v9 => ((0 : Nat), v9) :: [(2, v0)])) (tg := 0) (My := M_Md_isSpent) (mRunV (as := []) (st := [(2, v0)]) d_Md_canBe_14 (mc_Md_isSpent (by decide)) rfl (mv_Md_isSpent tb_ml_Md_261) rfl (Nat.le_of_ble_eq_true rfl) ha) (fun v => rfl) rfl hr (fun r1 h1 => t_Md_isSpent _ _ _ h1) (fun x4 h3 hr => ?_)
    refine j_if_eq (pc := 17) (tgt := 24) d_Md_canBe_17 hr (fun hr => ?_) (fun hr => ?_)
    · refine j_iconst (pc := 24) d_Md_canBe_24 ?_
      exact mJ_weak (ls' := [(2, v0), (0, v1)]) (mwk_s (mwk_s mwk_n)) (t_Md_canBe_J25  hr)
    · refine j_iconst (pc := 20) d_Md_canBe_20 ?_
      refine j_goto (pc := 21) (tgt := 25) d_Md_canBe_21 ?_
      exact mJ_weak (ls' := [(2, v0), (0, v1)]) (mwk_s (mwk_s mwk_n)) (t_Md_canBe_J25  hr)
  · refine j_iconst (pc := 9) d_Md_canBe_9 ?_
    refine j_goto (pc := 10) (tgt := 25) d_Md_canBe_10 ?_
    exact mJ_weak (ls' := [(2, v0), (0, v1)]) (mwk_s (mwk_s mwk_n)) (t_Md_canBe_J25  hr)
def M_Md_firstStep : mM := ("NineBarsModel", ⟨"NineBarsModel", "firstStep", "(I)I"⟩, prog_13_method_69_code, 4, some .int, [], 9)
theorem tb_co_Md_firstStep : mTB (Cond.code ⟨"NineBarsModel", "firstStep", "(I)I"⟩ prog_13_method_69_code 4 (some .int)) := tbq8 140 (by decide +kernel) rfl
theorem mc_Md_firstStep {M : mM} (hd : 9 < mDp M) : mCal M M_Md_firstStep 1 := ⟨tb_co_Md_firstStep, tb_in_NineBarsModel, ⟨by decide +kernel, by decide +kernel⟩, by decide +kernel, hd, by decide⟩
theorem d_Md_firstStep_0 : decode prog_13_method_69_code 0 = .ok (.iconst 0, 1) := by decide +kernel
theorem d_Md_firstStep_1 : decode prog_13_method_69_code 1 = .ok (.istore_n 2, 1) := by decide +kernel
theorem d_Md_firstStep_2 : decode prog_13_method_69_code 2 = .ok (.iload_n 2, 1) := by decide +kernel
theorem d_Md_firstStep_3 : decode prog_13_method_69_code 3 = .ok (.aload_n 0, 1) := by decide +kernel
theorem d_Md_firstStep_4 : decode prog_13_method_69_code 4 = .ok (.invokevirtual 319, 3) := by decide +kernel
theorem d_Md_firstStep_7 : decode prog_13_method_69_code 7 = .ok (.if_icmp .ge 54, 3) := by decide +kernel
theorem d_Md_firstStep_61 : decode prog_13_method_69_code 61 = .ok (.iconst (-1), 1) := by decide +kernel
theorem d_Md_firstStep_62 : decode prog_13_method_69_code 62 = .ok (.ireturn, 1) := by decide +kernel
theorem d_Md_firstStep_10 : decode prog_13_method_69_code 10 = .ok (.aload_n 0, 1) := by decide +kernel
theorem d_Md_firstStep_11 : decode prog_13_method_69_code 11 = .ok (.iload_n 1, 1) := by decide +kernel
theorem d_Md_firstStep_12 : decode prog_13_method_69_code 12 = .ok (.iload_n 2, 1) := by decide +kernel
theorem d_Md_firstStep_13 : decode prog_13_method_69_code 13 = .ok (.aload_n 0, 1) := by decide +kernel
theorem d_Md_firstStep_14 : decode prog_13_method_69_code 14 = .ok (.invokevirtual 244, 3) := by decide +kernel
theorem d_Md_firstStep_17 : decode prog_13_method_69_code 17 = .ok (.invokevirtual 322, 3) := by decide +kernel
theorem d_Md_firstStep_20 : decode prog_13_method_69_code 20 = .ok (.istore_n 3, 1) := by decide +kernel
theorem d_Md_firstStep_21 : decode prog_13_method_69_code 21 = .ok (.iload_n 3, 1) := by decide +kernel
theorem d_Md_firstStep_22 : decode prog_13_method_69_code 22 = .ok (.iconst (-1), 1) := by decide +kernel
theorem d_Md_firstStep_23 : decode prog_13_method_69_code 23 = .ok (.if_icmp .eq 32, 3) := by decide +kernel
theorem d_Md_firstStep_55 : decode prog_13_method_69_code 55 = .ok (.iinc 2 1, 3) := by decide +kernel
theorem d_Md_firstStep_58 : decode prog_13_method_69_code 58 = .ok (.goto (-56), 3) := by decide +kernel
theorem d_Md_firstStep_26 : decode prog_13_method_69_code 26 = .ok (.aload_n 0, 1) := by decide +kernel
theorem d_Md_firstStep_27 : decode prog_13_method_69_code 27 = .ok (.getfield 39, 3) := by decide +kernel
theorem d_Md_firstStep_30 : decode prog_13_method_69_code 30 = .ok (.iload_n 3, 1) := by decide +kernel
theorem d_Md_firstStep_31 : decode prog_13_method_69_code 31 = .ok (.iaload, 1) := by decide +kernel
theorem d_Md_firstStep_32 : decode prog_13_method_69_code 32 = .ok (.iconst (-1), 1) := by decide +kernel
theorem d_Md_firstStep_33 : decode prog_13_method_69_code 33 = .ok (.if_icmp .eq 22, 3) := by decide +kernel
theorem d_Md_firstStep_36 : decode prog_13_method_69_code 36 = .ok (.aload_n 0, 1) := by decide +kernel
theorem d_Md_firstStep_37 : decode prog_13_method_69_code 37 = .ok (.getfield 39, 3) := by decide +kernel
theorem d_Md_firstStep_40 : decode prog_13_method_69_code 40 = .ok (.iload_n 3, 1) := by decide +kernel
theorem d_Md_firstStep_41 : decode prog_13_method_69_code 41 = .ok (.iaload, 1) := by decide +kernel
theorem d_Md_firstStep_42 : decode prog_13_method_69_code 42 = .ok (.aload_n 0, 1) := by decide +kernel
theorem d_Md_firstStep_43 : decode prog_13_method_69_code 43 = .ok (.getfield 39, 3) := by decide +kernel
theorem d_Md_firstStep_46 : decode prog_13_method_69_code 46 = .ok (.iload_n 1, 1) := by decide +kernel
theorem d_Md_firstStep_47 : decode prog_13_method_69_code 47 = .ok (.iaload, 1) := by decide +kernel
theorem d_Md_firstStep_48 : decode prog_13_method_69_code 48 = .ok (.iconst 1, 1) := by decide +kernel
theorem d_Md_firstStep_49 : decode prog_13_method_69_code 49 = .ok (.isub, 1) := by decide +kernel
theorem d_Md_firstStep_50 : decode prog_13_method_69_code 50 = .ok (.if_icmp .ne 5, 3) := by decide +kernel
theorem d_Md_firstStep_53 : decode prog_13_method_69_code 53 = .ok (.iload_n 2, 1) := by decide +kernel
theorem d_Md_firstStep_54 : decode prog_13_method_69_code 54 = .ok (.ireturn, 1) := by decide +kernel
theorem t_Md_firstStep_J55 {G : mG} {r : mR} {v0 v1 v2 : Int} {h : mH} {R2 : mH → Int → Option mR} (hR2 : ∀ (h : mH) (w2 : Int) , R2 h w2 = some r → mJ G M_Md_firstStep 2 [(2, v0), (0, v1), (0, w2), (9, 0)] [] h r) (hr : f_Md_firstStep_J55 R2 v2 h = some r) : mJ G M_Md_firstStep 55 [(2, v0), (0, v1), (0, v2), (9, 0)] [] h r := by
  unfold f_Md_firstStep_J55 at hr
  refine j_iincW (pc := 55) (L := fun x1 => [(2, v0), (0, v1), (0, x1), (9, 0)]) d_Md_firstStep_55 rfl (fun _ => rfl) hr (fun x1 hr => ?_)
  refine j_goto (pc := 58) (tgt := 2) d_Md_firstStep_58 ?_
  exact mJ_weak (ls' := [(2, v0), (0, v1), (0, x1), (9, 0)]) (mwk_s (mwk_s (mwk_s (mwk_s mwk_n)))) (hR2 h _ hr)
theorem t_Md_firstStep_L2 {G : mG} {r : mR} {v0 v1 : Int}  : ∀ (n : Nat) (h : mH) (v2 : Int), f_Md_firstStep_L2 v0 v1 n h v2 = some r → mJ G M_Md_firstStep 2 [(2, v0), (0, v1), (0, v2), (9, 0)] [] h r := by
  intro n
  induction n with
  | zero =>
    intro h v2 hr
    rw [f_Md_firstStep_L2] at hr
    cases hr
  | succ n hR2 =>
    intro h v2 hr
    rw [f_Md_firstStep_L2] at hr
    refine j_iload_n (pc := 2) d_Md_firstStep_2 rfl ?_
    refine j_aload_n (pc := 3) d_Md_firstStep_3 rfl ?_
    obtain ⟨ha, hr⟩ := chk_some hr
    refine j_callG (pc := 4) (stk := [(2, v0), (0, v2)]) (as := [(2, v0)]) (P := (fun v9 => ((0 : Nat), v9) :: [(0, v2)])) (tg := 0) (My := M_Md_steps) (mRunV (as := []) (st := [(0, v2)]) d_Md_firstStep_4 (mc_Md_steps (by decide)) rfl (mv_Md_steps tb_ml_Md_319) rfl (Nat.le_of_ble_eq_true rfl) ha) (fun v => rfl) rfl hr (fun r1 h1 => t_Md_steps _ _ _ h1) (fun x2 h1 hr => ?_)
    refine j_icmp_ge (pc := 7) (tgt := 61) d_Md_firstStep_7 hr (fun hr => ?_) (fun hr => ?_)
    · refine j_iconst (pc := 61) d_Md_firstStep_61 ?_
      exact j_iret (pc := 62) d_Md_firstStep_62 rfl hr
    · refine j_aload_n (pc := 10) d_Md_firstStep_10 rfl ?_
      refine j_iload_n (pc := 11) d_Md_firstStep_11 rfl ?_
      refine j_iload_n (pc := 12) d_Md_firstStep_12 rfl ?_
      refine j_aload_n (pc := 13) d_Md_firstStep_13 rfl ?_
      obtain ⟨ha, hr⟩ := chk_some hr
      refine j_callG (pc := 14) (stk := [(2, v0), (0, v2), (0, v1), (2, v0)]) (as := [(2, v0)]) (P := (fun v9 => ((0 : Nat), v9) :: [(0, v2), (0, v1), (2, v0)])) (tg := 0) (My := M_Md_worn) (mRunV (as := []) (st := [(0, v2), (0, v1), (2, v0)]) d_Md_firstStep_14 (mc_Md_worn (by decide)) rfl (mv_Md_worn tb_ml_Md_244) rfl (Nat.le_of_ble_eq_true rfl) ha) (fun v => rfl) rfl hr (fun r1 h1 => t_Md_worn _ _ _ h1) (fun x4 h3 hr => ?_)
      obtain ⟨ha, hr⟩ := chk_some hr
      refine j_callG (pc := 17) (stk := [(0, x4), (0, v2), (0, v1), (2, v0)]) (as := [(2, v0), (0, v1), (0, v2), (0, x4)]) (P := (fun v9 => ((0 : Nat), v9) :: [])) (tg := 0) (My := M_Md_then) (mRunV (as := [(0, v1), (0, v2), (0, x4)]) (st := []) d_Md_firstStep_17 (mc_Md_then (by decide)) rfl (mv_Md_then tb_ml_Md_322) rfl (Nat.le_of_ble_eq_true rfl) ha) (fun v => rfl) rfl hr (fun r1 h1 => t_Md_then _ _ _ _ _ _ h1) (fun x6 h5 hr => ?_)
      refine j_istore_n (pc := 20) (ls' := [(2, v0), (0, v1), (0, v2), (0, x6)]) d_Md_firstStep_20 rfl ?_
      refine j_iload_n (pc := 21) d_Md_firstStep_21 rfl ?_
      refine j_iconst (pc := 22) d_Md_firstStep_22 ?_
      refine j_icmp_eq (pc := 23) (tgt := 55) d_Md_firstStep_23 hr (fun hr => ?_) (fun hr => ?_)
      · exact mJ_weak (ls' := [(2, v0), (0, v1), (0, v2), (9, 0)]) (mwk_s (mwk_s (mwk_s (mwk_d mwk_n)))) (t_Md_firstStep_J55 hR2 hr)
      · refine j_aload_n (pc := 26) d_Md_firstStep_26 rfl ?_
        refine j_getf (pc := 27) d_Md_firstStep_27 (fd_Md_39 rfl) hr (fun hr => ?_)
        refine j_iload_n (pc := 30) d_Md_firstStep_30 rfl ?_
        refine j_iaload (pc := 31) d_Md_firstStep_31 hr (fun hr => ?_)
        refine j_iconst (pc := 32) d_Md_firstStep_32 ?_
        refine j_icmp_eq (pc := 33) (tgt := 55) d_Md_firstStep_33 hr (fun hr => ?_) (fun hr => ?_)
        · exact mJ_weak (ls' := [(2, v0), (0, v1), (0, v2), (9, 0)]) (mwk_s (mwk_s (mwk_s (mwk_d mwk_n)))) (t_Md_firstStep_J55 hR2 hr)
        · refine j_aload_n (pc := 36) d_Md_firstStep_36 rfl ?_
          refine j_getf (pc := 37) d_Md_firstStep_37 (fd_Md_39 rfl) hr (fun hr => ?_)
          refine j_iload_n (pc := 40) d_Md_firstStep_40 rfl ?_
          refine j_iaload (pc := 41) d_Md_firstStep_41 hr (fun hr => ?_)
          refine j_aload_n (pc := 42) d_Md_firstStep_42 rfl ?_
          refine j_getf (pc := 43) d_Md_firstStep_43 (fd_Md_39 rfl) hr (fun hr => ?_)
          refine j_iload_n (pc := 46) d_Md_firstStep_46 rfl ?_
          refine j_iaload (pc := 47) d_Md_firstStep_47 hr (fun hr => ?_)
          refine j_iconst (pc := 48) d_Md_firstStep_48 ?_
          refine j_isub (pc := 49) d_Md_firstStep_49 ?_
          refine j_icmp_ne (pc := 50) (tgt := 55) d_Md_firstStep_50 hr (fun hr => ?_) (fun hr => ?_)
          · exact mJ_weak (ls' := [(2, v0), (0, v1), (0, v2), (9, 0)]) (mwk_s (mwk_s (mwk_s (mwk_d mwk_n)))) (t_Md_firstStep_J55 hR2 hr)
          · refine j_iload_n (pc := 53) d_Md_firstStep_53 rfl ?_
            exact j_iret (pc := 54) d_Md_firstStep_54 rfl hr
theorem t_Md_firstStep {G : mG} (h : mH) (v0 v1 : Int) (r : mR) (hr : f_Md_firstStep h v0 v1 = some r) : mJM G M_Md_firstStep [(2, v0), (0, v1)] h r := by
  refine mJM_of (L := [(2, v0), (0, v1), (9, 0), (9, 0)]) rfl rfl rfl (Nat.le_of_ble_eq_true rfl) ?_
  unfold f_Md_firstStep at hr
  refine j_iconst (pc := 0) d_Md_firstStep_0 ?_
  refine j_istore_n (pc := 1) (ls' := [(2, v0), (0, v1), (0, 0), (9, 0)]) d_Md_firstStep_1 rfl ?_
  refine mJ_weak (ls' := [(2, v0), (0, v1), (0, 0), (9, 0)]) (mwk_s (mwk_s (mwk_s (mwk_s mwk_n)))) (t_Md_firstStep_L2  _ _ _ hr)
def M_Md_shortestOf : mM := ("NineBarsModel", ⟨"NineBarsModel", "shortestOf", "(III)I"⟩, prog_13_method_70_code, 6, some .int, [], 11)
theorem tb_co_Md_shortestOf : mTB (Cond.code ⟨"NineBarsModel", "shortestOf", "(III)I"⟩ prog_13_method_70_code 6 (some .int)) := tbq8 132 (by decide +kernel) rfl
theorem mc_Md_shortestOf {M : mM} (hd : 11 < mDp M) : mCal M M_Md_shortestOf 3 := ⟨tb_co_Md_shortestOf, tb_in_NineBarsModel, ⟨by decide +kernel, by decide +kernel⟩, by decide +kernel, hd, by decide⟩
theorem d_Md_shortestOf_0 : decode prog_13_method_70_code 0 = .ok (.aload_n 0, 1) := by decide +kernel
theorem d_Md_shortestOf_1 : decode prog_13_method_70_code 1 = .ok (.iload_n 2, 1) := by decide +kernel
theorem d_Md_shortestOf_2 : decode prog_13_method_70_code 2 = .ok (.aload_n 0, 1) := by decide +kernel
theorem d_Md_shortestOf_3 : decode prog_13_method_70_code 3 = .ok (.invokevirtual 244, 3) := by decide +kernel
theorem d_Md_shortestOf_6 : decode prog_13_method_70_code 6 = .ok (.invokevirtual 332, 3) := by decide +kernel
theorem tb_ml_Md_332 : mTB (Cond.methodLink "NineBarsModel" 332 ⟨"NineBarsModel", "laysTo", "(II)V"⟩) := tbq8 133 (by decide +kernel) rfl
theorem tb_im_Md_laysTo : mTB (Cond.instanceMethod ⟨"NineBarsModel", "laysTo", "(II)V"⟩) := tbq8 135 (by decide +kernel) rfl
theorem tb_se_Md_laysTo : mTB (Cond.selects "NineBarsModel" ⟨"NineBarsModel", "laysTo", "(II)V"⟩ ⟨"NineBarsModel", "laysTo", "(II)V"⟩) := tbqp 89 (by decide +kernel) rfl
theorem mv_Md_laysTo {M : mM} {idx : Nat} (h : mTB (Cond.methodLink (mO M) idx ⟨"NineBarsModel", "laysTo", "(II)V"⟩)) : mCaV M M_Md_laysTo idx 11 := ⟨h, tb_im_Md_laysTo, tb_se_Md_laysTo, by decide, TX11, 40, rfl⟩
theorem d_Md_shortestOf_9 : decode prog_13_method_70_code 9 = .ok (.iload_n 3, 1) := by decide +kernel
theorem d_Md_shortestOf_10 : decode prog_13_method_70_code 10 = .ok (.iconst (-1), 1) := by decide +kernel
theorem d_Md_shortestOf_11 : decode prog_13_method_70_code 11 = .ok (.if_icmp .eq 13, 3) := by decide +kernel
theorem d_Md_shortestOf_24 : decode prog_13_method_70_code 24 = .ok (.aload_n 0, 1) := by decide +kernel
theorem d_Md_shortestOf_25 : decode prog_13_method_70_code 25 = .ok (.getfield 39, 3) := by decide +kernel
theorem d_Md_shortestOf_28 : decode prog_13_method_70_code 28 = .ok (.iload_n 1, 1) := by decide +kernel
theorem d_Md_shortestOf_29 : decode prog_13_method_70_code 29 = .ok (.iaload, 1) := by decide +kernel
theorem d_Md_shortestOf_30 : decode prog_13_method_70_code 30 = .ok (.ireturn, 1) := by decide +kernel
theorem d_Md_shortestOf_14 : decode prog_13_method_70_code 14 = .ok (.aload_n 0, 1) := by decide +kernel
theorem d_Md_shortestOf_15 : decode prog_13_method_70_code 15 = .ok (.getfield 39, 3) := by decide +kernel
theorem d_Md_shortestOf_18 : decode prog_13_method_70_code 18 = .ok (.iload_n 1, 1) := by decide +kernel
theorem d_Md_shortestOf_19 : decode prog_13_method_70_code 19 = .ok (.iaload, 1) := by decide +kernel
theorem d_Md_shortestOf_20 : decode prog_13_method_70_code 20 = .ok (.iconst (-1), 1) := by decide +kernel
theorem d_Md_shortestOf_21 : decode prog_13_method_70_code 21 = .ok (.if_icmp .ne 10, 3) := by decide +kernel
theorem d_Md_shortestOf_31 : decode prog_13_method_70_code 31 = .ok (.iload_n 3, 1) := by decide +kernel
theorem d_Md_shortestOf_32 : decode prog_13_method_70_code 32 = .ok (.i2l, 1) := by decide +kernel
theorem d_Md_shortestOf_33 : decode prog_13_method_70_code 33 = .ok (.lconst 0, 1) := by decide +kernel
theorem d_Md_shortestOf_34 : decode prog_13_method_70_code 34 = .ok (.aload_n 0, 1) := by decide +kernel
theorem d_Md_shortestOf_35 : decode prog_13_method_70_code 35 = .ok (.getfield 39, 3) := by decide +kernel
theorem d_Md_shortestOf_38 : decode prog_13_method_70_code 38 = .ok (.iload_n 1, 1) := by decide +kernel
theorem d_Md_shortestOf_39 : decode prog_13_method_70_code 39 = .ok (.iaload, 1) := by decide +kernel
theorem d_Md_shortestOf_40 : decode prog_13_method_70_code 40 = .ok (.iconst 1, 1) := by decide +kernel
theorem d_Md_shortestOf_41 : decode prog_13_method_70_code 41 = .ok (.isub, 1) := by decide +kernel
theorem d_Md_shortestOf_42 : decode prog_13_method_70_code 42 = .ok (.i2l, 1) := by decide +kernel
theorem d_Md_shortestOf_43 : decode prog_13_method_70_code 43 = .ok (.invokestatic 147, 3) := by decide +kernel
theorem d_Md_shortestOf_46 : decode prog_13_method_70_code 46 = .ok (.ifCond .ne 5, 3) := by decide +kernel
theorem d_Md_shortestOf_51 : decode prog_13_method_70_code 51 = .ok (.iload_n 1, 1) := by decide +kernel
theorem d_Md_shortestOf_52 : decode prog_13_method_70_code 52 = .ok (.istore 4, 2) := by decide +kernel
theorem d_Md_shortestOf_54 : decode prog_13_method_70_code 54 = .ok (.iconst 0, 1) := by decide +kernel
theorem d_Md_shortestOf_55 : decode prog_13_method_70_code 55 = .ok (.istore 5, 2) := by decide +kernel
theorem d_Md_shortestOf_57 : decode prog_13_method_70_code 57 = .ok (.iload 5, 2) := by decide +kernel
theorem d_Md_shortestOf_59 : decode prog_13_method_70_code 59 = .ok (.iload_n 3, 1) := by decide +kernel
theorem d_Md_shortestOf_60 : decode prog_13_method_70_code 60 = .ok (.if_icmp .ge 27, 3) := by decide +kernel
theorem d_Md_shortestOf_87 : decode prog_13_method_70_code 87 = .ok (.aload_n 0, 1) := by decide +kernel
theorem d_Md_shortestOf_88 : decode prog_13_method_70_code 88 = .ok (.iload 4, 2) := by decide +kernel
theorem d_Md_shortestOf_90 : decode prog_13_method_70_code 90 = .ok (.invokevirtual 335, 3) := by decide +kernel
theorem tb_ml_Md_335 : mTB (Cond.methodLink "NineBarsModel" 335 ⟨"NineBarsModel", "firstStep", "(I)I"⟩) := tbq8 137 (by decide +kernel) rfl
theorem tb_im_Md_firstStep : mTB (Cond.instanceMethod ⟨"NineBarsModel", "firstStep", "(I)I"⟩) := tbq8 139 (by decide +kernel) rfl
theorem tb_se_Md_firstStep : mTB (Cond.selects "NineBarsModel" ⟨"NineBarsModel", "firstStep", "(I)I"⟩ ⟨"NineBarsModel", "firstStep", "(I)I"⟩) := tbqp 90 (by decide +kernel) rfl
theorem mv_Md_firstStep {M : mM} {idx : Nat} (h : mTB (Cond.methodLink (mO M) idx ⟨"NineBarsModel", "firstStep", "(I)I"⟩)) : mCaV M M_Md_firstStep idx 11 := ⟨h, tb_im_Md_firstStep, tb_se_Md_firstStep, by decide, TX11, 40, rfl⟩
theorem d_Md_shortestOf_93 : decode prog_13_method_70_code 93 = .ok (.ireturn, 1) := by decide +kernel
theorem d_Md_shortestOf_63 : decode prog_13_method_70_code 63 = .ok (.aload_n 0, 1) := by decide +kernel
theorem d_Md_shortestOf_64 : decode prog_13_method_70_code 64 = .ok (.iload 4, 2) := by decide +kernel
theorem d_Md_shortestOf_66 : decode prog_13_method_70_code 66 = .ok (.aload_n 0, 1) := by decide +kernel
theorem d_Md_shortestOf_67 : decode prog_13_method_70_code 67 = .ok (.iload 4, 2) := by decide +kernel
theorem d_Md_shortestOf_69 : decode prog_13_method_70_code 69 = .ok (.invokevirtual 335, 3) := by decide +kernel
theorem d_Md_shortestOf_72 : decode prog_13_method_70_code 72 = .ok (.aload_n 0, 1) := by decide +kernel
theorem d_Md_shortestOf_73 : decode prog_13_method_70_code 73 = .ok (.invokevirtual 244, 3) := by decide +kernel
theorem d_Md_shortestOf_76 : decode prog_13_method_70_code 76 = .ok (.invokevirtual 322, 3) := by decide +kernel
theorem d_Md_shortestOf_79 : decode prog_13_method_70_code 79 = .ok (.istore 4, 2) := by decide +kernel
theorem d_Md_shortestOf_81 : decode prog_13_method_70_code 81 = .ok (.iinc 5 1, 3) := by decide +kernel
theorem d_Md_shortestOf_84 : decode prog_13_method_70_code 84 = .ok (.goto (-27), 3) := by decide +kernel
theorem d_Md_shortestOf_49 : decode prog_13_method_70_code 49 = .ok (.iconst (-1), 1) := by decide +kernel
theorem d_Md_shortestOf_50 : decode prog_13_method_70_code 50 = .ok (.ireturn, 1) := by decide +kernel
theorem t_Md_shortestOf_J24 {G : mG} {r : mR} {v0 v1 : Int} {h : mH}  (hr : f_Md_shortestOf_J24 v0 v1 h = some r) : mJ G M_Md_shortestOf 24 [(2, v0), (0, v1), (9, 0), (9, 0), (9, 0), (9, 0)] [] h r := by
  unfold f_Md_shortestOf_J24 at hr
  refine j_aload_n (pc := 24) d_Md_shortestOf_24 rfl ?_
  refine j_getf (pc := 25) d_Md_shortestOf_25 (fd_Md_39 rfl) hr (fun hr => ?_)
  refine j_iload_n (pc := 28) d_Md_shortestOf_28 rfl ?_
  refine j_iaload (pc := 29) d_Md_shortestOf_29 hr (fun hr => ?_)
  exact j_iret (pc := 30) d_Md_shortestOf_30 rfl hr
theorem t_Md_shortestOf_L57 {G : mG} {r : mR} {v0 v3 : Int}  : ∀ (n : Nat) (h : mH) (v4 v5 : Int), f_Md_shortestOf_L57 v0 v3 n h v4 v5 = some r → mJ G M_Md_shortestOf 57 [(2, v0), (9, 0), (9, 0), (0, v3), (0, v4), (0, v5)] [] h r := by
  intro n
  induction n with
  | zero =>
    intro h v4 v5 hr
    rw [f_Md_shortestOf_L57] at hr
    cases hr
  | succ n hR57 =>
    intro h v4 v5 hr
    rw [f_Md_shortestOf_L57] at hr
    refine j_iload (pc := 57) d_Md_shortestOf_57 rfl ?_
    refine j_iload_n (pc := 59) d_Md_shortestOf_59 rfl ?_
    refine j_icmp_ge (pc := 60) (tgt := 87) d_Md_shortestOf_60 hr (fun hr => ?_) (fun hr => ?_)
    · refine j_aload_n (pc := 87) d_Md_shortestOf_87 rfl ?_
      refine j_iload (pc := 88) d_Md_shortestOf_88 rfl ?_
      obtain ⟨ha, hr⟩ := chk_some hr
      refine j_callG (pc := 90) (stk := [(0, v4), (2, v0)]) (as := [(2, v0), (0, v4)]) (P := (fun v9 => ((0 : Nat), v9) :: [])) (tg := 0) (My := M_Md_firstStep) (mRunV (as := [(0, v4)]) (st := []) d_Md_shortestOf_90 (mc_Md_firstStep (by decide)) rfl (mv_Md_firstStep tb_ml_Md_335) rfl (Nat.le_of_ble_eq_true rfl) ha) (fun v => rfl) rfl hr (fun r1 h1 => t_Md_firstStep _ _ _ _ h1) (fun x2 h1 hr => ?_)
      exact j_iret (pc := 93) d_Md_shortestOf_93 rfl hr
    · refine j_aload_n (pc := 63) d_Md_shortestOf_63 rfl ?_
      refine j_iload (pc := 64) d_Md_shortestOf_64 rfl ?_
      refine j_aload_n (pc := 66) d_Md_shortestOf_66 rfl ?_
      refine j_iload (pc := 67) d_Md_shortestOf_67 rfl ?_
      obtain ⟨ha, hr⟩ := chk_some hr
      refine j_callG (pc := 69) (stk := [(0, v4), (2, v0), (0, v4), (2, v0)]) (as := [(2, v0), (0, v4)]) (P := (fun v9 => ((0 : Nat), v9) :: [(0, v4), (2, v0)])) (tg := 0) (My := M_Md_firstStep) (mRunV (as := [(0, v4)]) (st := [(0, v4), (2, v0)]) d_Md_shortestOf_69 (mc_Md_firstStep (by decide)) rfl (mv_Md_firstStep tb_ml_Md_335) rfl (Nat.le_of_ble_eq_true rfl) ha) (fun v => rfl) rfl hr (fun r1 h1 => t_Md_firstStep _ _ _ _ h1) (fun x4 h3 hr => ?_)
      refine j_aload_n (pc := 72) d_Md_shortestOf_72 rfl ?_
      obtain ⟨ha, hr⟩ := chk_some hr
      refine j_callG (pc := 73) (stk := [(2, v0), (0, x4), (0, v4), (2, v0)]) (as := [(2, v0)]) (P := (fun v9 => ((0 : Nat), v9) :: [(0, x4), (0, v4), (2, v0)])) (tg := 0) (My := M_Md_worn) (mRunV (as := []) (st := [(0, x4), (0, v4), (2, v0)]) d_Md_shortestOf_73 (mc_Md_worn (by decide)) rfl (mv_Md_worn tb_ml_Md_244) rfl (Nat.le_of_ble_eq_true rfl) ha) (fun v => rfl) rfl hr (fun r1 h1 => t_Md_worn _ _ _ h1) (fun x6 h5 hr => ?_)
      obtain ⟨ha, hr⟩ := chk_some hr
      refine j_callG (pc := 76) (stk := [(0, x6), (0, x4), (0, v4), (2, v0)]) (as := [(2, v0), (0, v4), (0, x4), (0, x6)]) (P := (fun v9 => ((0 : Nat), v9) :: [])) (tg := 0) (My := M_Md_then) (mRunV (as := [(0, v4), (0, x4), (0, x6)]) (st := []) d_Md_shortestOf_76 (mc_Md_then (by decide)) rfl (mv_Md_then tb_ml_Md_322) rfl (Nat.le_of_ble_eq_true rfl) ha) (fun v => rfl) rfl hr (fun r1 h1 => t_Md_then _ _ _ _ _ _ h1) (fun x8 h7 hr => ?_)
      refine j_istore (pc := 79) (ls' := [(2, v0), (9, 0), (9, 0), (0, v3), (0, x8), (0, v5)]) d_Md_shortestOf_79 rfl ?_
      refine j_iincW (pc := 81) (L := fun x9 => [(2, v0), (9, 0), (9, 0), (0, v3), (0, x8), (0, x9)]) d_Md_shortestOf_81 rfl (fun _ => rfl) hr (fun x9 hr => ?_)
      refine j_goto (pc := 84) (tgt := 57) d_Md_shortestOf_84 ?_
      exact mJ_weak (ls' := [(2, v0), (9, 0), (9, 0), (0, v3), (0, x8), (0, x9)]) (mwk_s (mwk_s (mwk_s (mwk_s (mwk_s (mwk_s mwk_n)))))) (hR57 h7 _ _ hr)
theorem t_Md_shortestOf {G : mG} (h : mH) (v0 v1 v2 v3 : Int) (r : mR) (hr : f_Md_shortestOf h v0 v1 v2 v3 = some r) : mJM G M_Md_shortestOf [(2, v0), (0, v1), (0, v2), (0, v3)] h r := by
  refine mJM_of (L := [(2, v0), (0, v1), (0, v2), (0, v3), (9, 0), (9, 0)]) rfl rfl rfl (Nat.le_of_ble_eq_true rfl) ?_
  unfold f_Md_shortestOf at hr
  refine j_aload_n (pc := 0) d_Md_shortestOf_0 rfl ?_
  refine j_iload_n (pc := 1) d_Md_shortestOf_1 rfl ?_
  refine j_aload_n (pc := 2) d_Md_shortestOf_2 rfl ?_
  obtain ⟨ha, hr⟩ := chk_some hr
  refine j_callG (pc := 3) (stk := [(2, v0), (0, v2), (2, v0)]) (as := [(2, v0)]) (P := (fun v9 => ((0 : Nat), v9) :: [(0, v2), (2, v0)])) (tg := 0) (My := M_Md_worn) (mRunV (as := []) (st := [(0, v2), (2, v0)]) d_Md_shortestOf_3 (mc_Md_worn (by decide)) rfl (mv_Md_worn tb_ml_Md_244) rfl (Nat.le_of_ble_eq_true rfl) ha) (fun v => rfl) rfl hr (fun r1 h1 => t_Md_worn _ _ _ h1) (fun x2 h1 hr => ?_)
  obtain ⟨ha, hr⟩ := chk_some hr
  refine j_callG (pc := 6) (stk := [(0, x2), (0, v2), (2, v0)]) (as := [(2, v0), (0, v2), (0, x2)]) (P := (fun v9 => [])) (tg := 3) (My := M_Md_laysTo) (mRunV (as := [(0, v2), (0, x2)]) (st := []) d_Md_shortestOf_6 (mc_Md_laysTo (by decide)) rfl (mv_Md_laysTo tb_ml_Md_332) rfl (Nat.le_of_ble_eq_true rfl) ha) (fun v => rfl) rfl hr (fun r1 h1 => t_Md_laysTo _ _ _ _ _ h1) (fun x4 h3 hr => ?_)
  refine j_iload_n (pc := 9) d_Md_shortestOf_9 rfl ?_
  refine j_iconst (pc := 10) d_Md_shortestOf_10 ?_
  refine j_icmp_eq (pc := 11) (tgt := 24) d_Md_shortestOf_11 hr (fun hr => ?_) (fun hr => ?_)
  · exact mJ_weak (ls' := [(2, v0), (0, v1), (9, 0), (9, 0), (9, 0), (9, 0)]) (mwk_s (mwk_s (mwk_d (mwk_d (mwk_s (mwk_s mwk_n)))))) (t_Md_shortestOf_J24  hr)
  · refine j_aload_n (pc := 14) d_Md_shortestOf_14 rfl ?_
    refine j_getf (pc := 15) d_Md_shortestOf_15 (fd_Md_39 rfl) hr (fun hr => ?_)
    refine j_iload_n (pc := 18) d_Md_shortestOf_18 rfl ?_
    refine j_iaload (pc := 19) d_Md_shortestOf_19 hr (fun hr => ?_)
    refine j_iconst (pc := 20) d_Md_shortestOf_20 ?_
    refine j_icmp_ne (pc := 21) (tgt := 31) d_Md_shortestOf_21 hr (fun hr => ?_) (fun hr => ?_)
    · refine j_iload_n (pc := 31) d_Md_shortestOf_31 rfl ?_
      refine j_i2l (pc := 32) d_Md_shortestOf_32 ?_
      refine j_lconst (pc := 33) (z := 0) d_Md_shortestOf_33 ?_
      refine j_aload_n (pc := 34) d_Md_shortestOf_34 rfl ?_
      refine j_getf (pc := 35) d_Md_shortestOf_35 (fd_Md_39 rfl) hr (fun hr => ?_)
      refine j_iload_n (pc := 38) d_Md_shortestOf_38 rfl ?_
      refine j_iaload (pc := 39) d_Md_shortestOf_39 hr (fun hr => ?_)
      refine j_iconst (pc := 40) d_Md_shortestOf_40 ?_
      refine j_isub (pc := 41) d_Md_shortestOf_41 ?_
      refine j_i2l (pc := 42) d_Md_shortestOf_42 ?_
      refine j_callG (pc := 43) (stk := [(1, w32 ((hpV h3 (hpV h3 v0 22) v1) - 1)), (1, 0), (1, v3)]) (as := [(1, v3), (1, 0), (1, w32 ((hpV h3 (hpV h3 v0 22) v1) - 1))]) (P := (fun v9 => ((0 : Nat), v9) :: [])) (tg := 0) (My := M_Md_amid) (mRunS (as := [(1, v3), (1, 0), (1, w32 ((hpV h3 (hpV h3 v0 22) v1) - 1))]) (st := []) d_Md_shortestOf_43 (mc_Md_amid (by decide)) rfl ⟨tb_ml_Md_147, tb_sm_Md_amid⟩ rfl (Nat.le_of_ble_eq_true rfl)) (fun v => rfl) rfl hr (fun r1 h1 => t_Md_amid _ _ _ _ _ h1) (fun x6 h5 hr => ?_)
      refine j_if_ne (pc := 46) (tgt := 51) d_Md_shortestOf_46 hr (fun hr => ?_) (fun hr => ?_)
      · refine j_iload_n (pc := 51) d_Md_shortestOf_51 rfl ?_
        refine j_istore (pc := 52) (ls' := [(2, v0), (0, v1), (0, v2), (0, v3), (0, v1), (9, 0)]) d_Md_shortestOf_52 rfl ?_
        refine j_iconst (pc := 54) d_Md_shortestOf_54 ?_
        refine j_istore (pc := 55) (ls' := [(2, v0), (0, v1), (0, v2), (0, v3), (0, v1), (0, 0)]) d_Md_shortestOf_55 rfl ?_
        refine mJ_weak (ls' := [(2, v0), (9, 0), (9, 0), (0, v3), (0, v1), (0, 0)]) (mwk_s (mwk_d (mwk_d (mwk_s (mwk_s (mwk_s mwk_n)))))) (t_Md_shortestOf_L57  _ _ _ _ hr)
      · refine j_iconst (pc := 49) d_Md_shortestOf_49 ?_
        exact j_iret (pc := 50) d_Md_shortestOf_50 rfl hr
    · exact mJ_weak (ls' := [(2, v0), (0, v1), (9, 0), (9, 0), (9, 0), (9, 0)]) (mwk_s (mwk_s (mwk_d (mwk_d (mwk_s (mwk_s mwk_n)))))) (t_Md_shortestOf_J24  hr)
def M_Md_shortest : mM := ("NineBarsModel", ⟨"NineBarsModel", "shortest", "(III)I"⟩, prog_13_method_71_code, 4, some .int, [], 13)
theorem tb_co_Md_shortest : mTB (Cond.code ⟨"NineBarsModel", "shortest", "(III)I"⟩ prog_13_method_71_code 4 (some .int)) := tbq8 128 (by decide +kernel) rfl
theorem mc_Md_shortest {M : mM} (hd : 13 < mDp M) : mCal M M_Md_shortest 3 := ⟨tb_co_Md_shortest, tb_in_NineBarsModel, ⟨by decide +kernel, by decide +kernel⟩, by decide +kernel, hd, by decide⟩
theorem d_Md_shortest_0 : decode prog_13_method_71_code 0 = .ok (.aload_n 0, 1) := by decide +kernel
theorem d_Md_shortest_1 : decode prog_13_method_71_code 1 = .ok (.aload_n 0, 1) := by decide +kernel
theorem d_Md_shortest_2 : decode prog_13_method_71_code 2 = .ok (.iload_n 1, 1) := by decide +kernel
theorem d_Md_shortest_3 : decode prog_13_method_71_code 3 = .ok (.invokevirtual 268, 3) := by decide +kernel
theorem d_Md_shortest_6 : decode prog_13_method_71_code 6 = .ok (.ifCond .eq 11, 3) := by decide +kernel
theorem d_Md_shortest_17 : decode prog_13_method_71_code 17 = .ok (.iconst 1, 1) := by decide +kernel
theorem d_Md_shortest_18 : decode prog_13_method_71_code 18 = .ok (.goto 15, 3) := by decide +kernel
theorem d_Md_shortest_33 : decode prog_13_method_71_code 33 = .ok (.putfield 86, 3) := by decide +kernel
theorem d_Md_shortest_36 : decode prog_13_method_71_code 36 = .ok (.aload_n 0, 1) := by decide +kernel
theorem d_Md_shortest_37 : decode prog_13_method_71_code 37 = .ok (.getfield 86, 3) := by decide +kernel
theorem d_Md_shortest_40 : decode prog_13_method_71_code 40 = .ok (.ifCond .le 7, 3) := by decide +kernel
theorem d_Md_shortest_47 : decode prog_13_method_71_code 47 = .ok (.aload_n 0, 1) := by decide +kernel
theorem d_Md_shortest_48 : decode prog_13_method_71_code 48 = .ok (.iload_n 1, 1) := by decide +kernel
theorem d_Md_shortest_49 : decode prog_13_method_71_code 49 = .ok (.iload_n 2, 1) := by decide +kernel
theorem d_Md_shortest_50 : decode prog_13_method_71_code 50 = .ok (.iload_n 3, 1) := by decide +kernel
theorem d_Md_shortest_51 : decode prog_13_method_71_code 51 = .ok (.invokevirtual 338, 3) := by decide +kernel
theorem tb_ml_Md_338 : mTB (Cond.methodLink "NineBarsModel" 338 ⟨"NineBarsModel", "shortestOf", "(III)I"⟩) := tbq8 129 (by decide +kernel) rfl
theorem tb_im_Md_shortestOf : mTB (Cond.instanceMethod ⟨"NineBarsModel", "shortestOf", "(III)I"⟩) := tbq8 131 (by decide +kernel) rfl
theorem tb_se_Md_shortestOf : mTB (Cond.selects "NineBarsModel" ⟨"NineBarsModel", "shortestOf", "(III)I"⟩ ⟨"NineBarsModel", "shortestOf", "(III)I"⟩) := tbqp 88 (by decide +kernel) rfl
theorem mv_Md_shortestOf {M : mM} {idx : Nat} (h : mTB (Cond.methodLink (mO M) idx ⟨"NineBarsModel", "shortestOf", "(III)I"⟩)) : mCaV M M_Md_shortestOf idx 11 := ⟨h, tb_im_Md_shortestOf, tb_se_Md_shortestOf, by decide, TX11, 40, rfl⟩
theorem d_Md_shortest_54 : decode prog_13_method_71_code 54 = .ok (.ireturn, 1) := by decide +kernel
theorem d_Md_shortest_43 : decode prog_13_method_71_code 43 = .ok (.iconst 0, 1) := by decide +kernel
theorem d_Md_shortest_44 : decode prog_13_method_71_code 44 = .ok (.goto 10, 3) := by decide +kernel
theorem d_Md_shortest_9 : decode prog_13_method_71_code 9 = .ok (.aload_n 0, 1) := by decide +kernel
theorem d_Md_shortest_10 : decode prog_13_method_71_code 10 = .ok (.iload_n 2, 1) := by decide +kernel
theorem d_Md_shortest_11 : decode prog_13_method_71_code 11 = .ok (.invokevirtual 268, 3) := by decide +kernel
theorem d_Md_shortest_14 : decode prog_13_method_71_code 14 = .ok (.ifCond .ne 7, 3) := by decide +kernel
theorem d_Md_shortest_21 : decode prog_13_method_71_code 21 = .ok (.aload_n 0, 1) := by decide +kernel
theorem d_Md_shortest_22 : decode prog_13_method_71_code 22 = .ok (.invokevirtual 261, 3) := by decide +kernel
theorem d_Md_shortest_25 : decode prog_13_method_71_code 25 = .ok (.ifCond .eq 7, 3) := by decide +kernel
theorem d_Md_shortest_32 : decode prog_13_method_71_code 32 = .ok (.iconst 0, 1) := by decide +kernel
theorem d_Md_shortest_28 : decode prog_13_method_71_code 28 = .ok (.iconst 2, 1) := by decide +kernel
theorem d_Md_shortest_29 : decode prog_13_method_71_code 29 = .ok (.goto 4, 3) := by decide +kernel
theorem t_Md_shortest_J33 {G : mG} {r : mR} {v0 v1 v2 v3 s0 s1 : Int} {h : mH}  (hr : f_Md_shortest_J33 v0 v1 v2 v3 s0 s1 h = some r) : mJ G M_Md_shortest 33 [(2, v0), (0, v1), (0, v2), (0, v3)] [(0, s1), (2, s0)] h r := by
  unfold f_Md_shortest_J33 at hr
  refine j_puti (pc := 33) d_Md_shortest_33 (fd_Md_86 rfl) (⟨_, _, _, rfl, Or.inl rfl, rfl⟩ : mFldW M_Md_shortest 86 11 5 .int) hr (fun h1 hr => ?_)
  refine j_aload_n (pc := 36) d_Md_shortest_36 rfl ?_
  refine j_getf (pc := 37) d_Md_shortest_37 (fd_Md_86 rfl) hr (fun hr => ?_)
  refine j_if_le (pc := 40) (tgt := 47) d_Md_shortest_40 hr (fun hr => ?_) (fun hr => ?_)
  · refine j_aload_n (pc := 47) d_Md_shortest_47 rfl ?_
    refine j_iload_n (pc := 48) d_Md_shortest_48 rfl ?_
    refine j_iload_n (pc := 49) d_Md_shortest_49 rfl ?_
    refine j_iload_n (pc := 50) d_Md_shortest_50 rfl ?_
    obtain ⟨ha, hr⟩ := chk_some hr
    refine j_callG (pc := 51) (stk := [(0, v3), (0, v2), (0, v1), (2, v0)]) (as := [(2, v0), (0, v1), (0, v2), (0, v3)]) (P := (fun v9 => ((0 : Nat), v9) :: [])) (tg := 0) (My := M_Md_shortestOf) (mRunV (as := [(0, v1), (0, v2), (0, v3)]) (st := []) d_Md_shortest_51 (mc_Md_shortestOf (by decide)) rfl (mv_Md_shortestOf tb_ml_Md_338) rfl (Nat.le_of_ble_eq_true rfl) ha) (fun v => rfl) rfl hr (fun r1 h1 => t_Md_shortestOf _ _ _ _ _ _ h1) (fun x3 h2 hr => ?_)
    exact j_iret (pc := 54) d_Md_shortest_54 rfl hr
  · refine j_iconst (pc := 43) d_Md_shortest_43 ?_
    refine j_goto (pc := 44) (tgt := 54) d_Md_shortest_44 ?_
    exact j_iret (pc := 54) d_Md_shortest_54 rfl hr
theorem t_Md_shortest_J17 {G : mG} {r : mR} {v0 v1 v2 v3 s0 : Int} {h : mH}  (hr : f_Md_shortest_J17 v0 v1 v2 v3 s0 h = some r) : mJ G M_Md_shortest 17 [(2, v0), (0, v1), (0, v2), (0, v3)] [(2, s0)] h r := by
  unfold f_Md_shortest_J17 at hr
  refine j_iconst (pc := 17) d_Md_shortest_17 ?_
  refine j_goto (pc := 18) (tgt := 33) d_Md_shortest_18 ?_
  exact mJ_weak (ls' := [(2, v0), (0, v1), (0, v2), (0, v3)]) (mwk_s (mwk_s (mwk_s (mwk_s mwk_n)))) (t_Md_shortest_J33  hr)
theorem t_Md_shortest {G : mG} (h : mH) (v0 v1 v2 v3 : Int) (r : mR) (hr : f_Md_shortest h v0 v1 v2 v3 = some r) : mJM G M_Md_shortest [(2, v0), (0, v1), (0, v2), (0, v3)] h r := by
  refine mJM_of (L := [(2, v0), (0, v1), (0, v2), (0, v3)]) rfl rfl rfl (Nat.le_of_ble_eq_true rfl) ?_
  unfold f_Md_shortest at hr
  refine j_aload_n (pc := 0) d_Md_shortest_0 rfl ?_
  refine j_aload_n (pc := 1) d_Md_shortest_1 rfl ?_
  refine j_iload_n (pc := 2) d_Md_shortest_2 rfl ?_
  obtain ⟨ha, hr⟩ := chk_some hr
  refine j_callG (pc := 3) (stk := [(0, v1), (2, v0), (2, v0)]) (as := [(2, v0), (0, v1)]) (P := (fun v9 => ((0 : Nat), v9) :: [(2, v0)])) (tg := 0) (My := M_Md_isStand) (mRunV (as := [(0, v1)]) (st := [(2, v0)]) d_Md_shortest_3 (mc_Md_isStand (by decide)) rfl (mv_Md_isStand tb_ml_Md_268) rfl (Nat.le_of_ble_eq_true rfl) ha) (fun v => rfl) rfl hr (fun r1 h1 => t_Md_isStand _ _ _ _ h1) (fun x2 h1 hr => ?_)
  refine j_if_eq (pc := 6) (tgt := 17) d_Md_shortest_6 hr (fun hr => ?_) (fun hr => ?_)
  · exact mJ_weak (ls' := [(2, v0), (0, v1), (0, v2), (0, v3)]) (mwk_s (mwk_s (mwk_s (mwk_s mwk_n)))) (t_Md_shortest_J17  hr)
  · refine j_aload_n (pc := 9) d_Md_shortest_9 rfl ?_
    refine j_iload_n (pc := 10) d_Md_shortest_10 rfl ?_
    obtain ⟨ha, hr⟩ := chk_some hr
    refine j_callG (pc := 11) (stk := [(0, v2), (2, v0), (2, v0)]) (as := [(2, v0), (0, v2)]) (P := (fun v9 => ((0 : Nat), v9) :: [(2, v0)])) (tg := 0) (My := M_Md_isStand) (mRunV (as := [(0, v2)]) (st := [(2, v0)]) d_Md_shortest_11 (mc_Md_isStand (by decide)) rfl (mv_Md_isStand tb_ml_Md_268) rfl (Nat.le_of_ble_eq_true rfl) ha) (fun v => rfl) rfl hr (fun r1 h1 => t_Md_isStand _ _ _ _ h1) (fun x4 h3 hr => ?_)
    refine j_if_ne (pc := 14) (tgt := 21) d_Md_shortest_14 hr (fun hr => ?_) (fun hr => ?_)
    · refine j_aload_n (pc := 21) d_Md_shortest_21 rfl ?_
      obtain ⟨ha, hr⟩ := chk_some hr
      refine j_callG (pc := 22) (stk := [(2, v0), (2, v0)]) (as := [(2, v0)]) (P := (fun v9 => ((0 : Nat), v9) :: [(2, v0)])) (tg := 0) (My := M_Md_isSpent) (mRunV (as := []) (st := [(2, v0)]) d_Md_shortest_22 (mc_Md_isSpent (by decide)) rfl (mv_Md_isSpent tb_ml_Md_261) rfl (Nat.le_of_ble_eq_true rfl) ha) (fun v => rfl) rfl hr (fun r1 h1 => t_Md_isSpent _ _ _ h1) (fun x6 h5 hr => ?_)
      refine j_if_eq (pc := 25) (tgt := 32) d_Md_shortest_25 hr (fun hr => ?_) (fun hr => ?_)
      · refine j_iconst (pc := 32) d_Md_shortest_32 ?_
        exact mJ_weak (ls' := [(2, v0), (0, v1), (0, v2), (0, v3)]) (mwk_s (mwk_s (mwk_s (mwk_s mwk_n)))) (t_Md_shortest_J33  hr)
      · refine j_iconst (pc := 28) d_Md_shortest_28 ?_
        refine j_goto (pc := 29) (tgt := 33) d_Md_shortest_29 ?_
        exact mJ_weak (ls' := [(2, v0), (0, v1), (0, v2), (0, v3)]) (mwk_s (mwk_s (mwk_s (mwk_s mwk_n)))) (t_Md_shortest_J33  hr)
    · exact mJ_weak (ls' := [(2, v0), (0, v1), (0, v2), (0, v3)]) (mwk_s (mwk_s (mwk_s (mwk_s mwk_n)))) (t_Md_shortest_J17  hr)
def M_Md_opening : mM := ("NineBarsModel", ⟨"NineBarsModel", "opening", "(I)I"⟩, prog_13_method_72_code, 2, some .int, [], 13)
theorem tb_co_Md_opening : mTB (Cond.code ⟨"NineBarsModel", "opening", "(I)I"⟩ prog_13_method_72_code 2 (some .int)) := tbq8 144 (by decide +kernel) rfl
theorem mc_Md_opening {M : mM} (hd : 13 < mDp M) : mCal M M_Md_opening 1 := ⟨tb_co_Md_opening, tb_in_NineBarsModel, ⟨by decide +kernel, by decide +kernel⟩, by decide +kernel, hd, by decide⟩
theorem d_Md_opening_0 : decode prog_13_method_72_code 0 = .ok (.aload_n 0, 1) := by decide +kernel
theorem d_Md_opening_1 : decode prog_13_method_72_code 1 = .ok (.aload_n 0, 1) := by decide +kernel
theorem d_Md_opening_2 : decode prog_13_method_72_code 2 = .ok (.invokevirtual 261, 3) := by decide +kernel
theorem d_Md_opening_5 : decode prog_13_method_72_code 5 = .ok (.ifCond .eq 7, 3) := by decide +kernel
theorem d_Md_opening_12 : decode prog_13_method_72_code 12 = .ok (.iconst 0, 1) := by decide +kernel
theorem d_Md_opening_13 : decode prog_13_method_72_code 13 = .ok (.putfield 86, 3) := by decide +kernel
theorem d_Md_opening_16 : decode prog_13_method_72_code 16 = .ok (.aload_n 0, 1) := by decide +kernel
theorem d_Md_opening_17 : decode prog_13_method_72_code 17 = .ok (.getfield 86, 3) := by decide +kernel
theorem d_Md_opening_20 : decode prog_13_method_72_code 20 = .ok (.ifCond .le 7, 3) := by decide +kernel
theorem d_Md_opening_27 : decode prog_13_method_72_code 27 = .ok (.aload_n 0, 1) := by decide +kernel
theorem d_Md_opening_28 : decode prog_13_method_72_code 28 = .ok (.aload_n 0, 1) := by decide +kernel
theorem d_Md_opening_29 : decode prog_13_method_72_code 29 = .ok (.invokevirtual 265, 3) := by decide +kernel
theorem d_Md_opening_32 : decode prog_13_method_72_code 32 = .ok (.aload_n 0, 1) := by decide +kernel
theorem d_Md_opening_33 : decode prog_13_method_72_code 33 = .ok (.invokevirtual 341, 3) := by decide +kernel
theorem tb_ml_Md_341 : mTB (Cond.methodLink "NineBarsModel" 341 ⟨"NineBarsModel", "openStand", "()I"⟩) := tbq8 145 (by decide +kernel) rfl
theorem tb_im_Md_openStand : mTB (Cond.instanceMethod ⟨"NineBarsModel", "openStand", "()I"⟩) := tbq8 147 (by decide +kernel) rfl
theorem tb_se_Md_openStand : mTB (Cond.selects "NineBarsModel" ⟨"NineBarsModel", "openStand", "()I"⟩ ⟨"NineBarsModel", "openStand", "()I"⟩) := tbqp 91 (by decide +kernel) rfl
theorem mv_Md_openStand {M : mM} {idx : Nat} (h : mTB (Cond.methodLink (mO M) idx ⟨"NineBarsModel", "openStand", "()I"⟩)) : mCaV M M_Md_openStand idx 11 := ⟨h, tb_im_Md_openStand, tb_se_Md_openStand, by decide, TX11, 40, rfl⟩
theorem d_Md_opening_36 : decode prog_13_method_72_code 36 = .ok (.iload_n 1, 1) := by decide +kernel
theorem d_Md_opening_37 : decode prog_13_method_72_code 37 = .ok (.invokevirtual 338, 3) := by decide +kernel
theorem d_Md_opening_40 : decode prog_13_method_72_code 40 = .ok (.ireturn, 1) := by decide +kernel
theorem d_Md_opening_23 : decode prog_13_method_72_code 23 = .ok (.iconst 0, 1) := by decide +kernel
theorem d_Md_opening_24 : decode prog_13_method_72_code 24 = .ok (.goto 16, 3) := by decide +kernel
theorem d_Md_opening_8 : decode prog_13_method_72_code 8 = .ok (.iconst 1, 1) := by decide +kernel
theorem d_Md_opening_9 : decode prog_13_method_72_code 9 = .ok (.goto 4, 3) := by decide +kernel
theorem t_Md_opening_J13 {G : mG} {r : mR} {v0 v1 s0 s1 : Int} {h : mH}  (hr : f_Md_opening_J13 v0 v1 s0 s1 h = some r) : mJ G M_Md_opening 13 [(2, v0), (0, v1)] [(0, s1), (2, s0)] h r := by
  unfold f_Md_opening_J13 at hr
  refine j_puti (pc := 13) d_Md_opening_13 (fd_Md_86 rfl) (⟨_, _, _, rfl, Or.inl rfl, rfl⟩ : mFldW M_Md_opening 86 11 5 .int) hr (fun h1 hr => ?_)
  refine j_aload_n (pc := 16) d_Md_opening_16 rfl ?_
  refine j_getf (pc := 17) d_Md_opening_17 (fd_Md_86 rfl) hr (fun hr => ?_)
  refine j_if_le (pc := 20) (tgt := 27) d_Md_opening_20 hr (fun hr => ?_) (fun hr => ?_)
  · refine j_aload_n (pc := 27) d_Md_opening_27 rfl ?_
    refine j_aload_n (pc := 28) d_Md_opening_28 rfl ?_
    obtain ⟨ha, hr⟩ := chk_some hr
    refine j_callG (pc := 29) (stk := [(2, v0), (2, v0)]) (as := [(2, v0)]) (P := (fun v9 => ((0 : Nat), v9) :: [(2, v0)])) (tg := 0) (My := M_Md_standNow) (mRunV (as := []) (st := [(2, v0)]) d_Md_opening_29 (mc_Md_standNow (by decide)) rfl (mv_Md_standNow tb_ml_Md_265) rfl (Nat.le_of_ble_eq_true rfl) ha) (fun v => rfl) rfl hr (fun r1 h1 => t_Md_standNow _ _ _ h1) (fun x3 h2 hr => ?_)
    refine j_aload_n (pc := 32) d_Md_opening_32 rfl ?_
    obtain ⟨ha, hr⟩ := chk_some hr
    refine j_callG (pc := 33) (stk := [(2, v0), (0, x3), (2, v0)]) (as := [(2, v0)]) (P := (fun v9 => ((0 : Nat), v9) :: [(0, x3), (2, v0)])) (tg := 0) (My := M_Md_openStand) (mRunV (as := []) (st := [(0, x3), (2, v0)]) d_Md_opening_33 (mc_Md_openStand (by decide)) rfl (mv_Md_openStand tb_ml_Md_341) rfl (Nat.le_of_ble_eq_true rfl) ha) (fun v => rfl) rfl hr (fun r1 h1 => t_Md_openStand _ _ _ h1) (fun x5 h4 hr => ?_)
    refine j_iload_n (pc := 36) d_Md_opening_36 rfl ?_
    obtain ⟨ha, hr⟩ := chk_some hr
    refine j_callG (pc := 37) (stk := [(0, v1), (0, x5), (0, x3), (2, v0)]) (as := [(2, v0), (0, x3), (0, x5), (0, v1)]) (P := (fun v9 => ((0 : Nat), v9) :: [])) (tg := 0) (My := M_Md_shortestOf) (mRunV (as := [(0, x3), (0, x5), (0, v1)]) (st := []) d_Md_opening_37 (mc_Md_shortestOf (by decide)) rfl (mv_Md_shortestOf tb_ml_Md_338) rfl (Nat.le_of_ble_eq_true rfl) ha) (fun v => rfl) rfl hr (fun r1 h1 => t_Md_shortestOf _ _ _ _ _ _ h1) (fun x7 h6 hr => ?_)
    exact j_iret (pc := 40) d_Md_opening_40 rfl hr
  · refine j_iconst (pc := 23) d_Md_opening_23 ?_
    refine j_goto (pc := 24) (tgt := 40) d_Md_opening_24 ?_
    exact j_iret (pc := 40) d_Md_opening_40 rfl hr
theorem t_Md_opening {G : mG} (h : mH) (v0 v1 : Int) (r : mR) (hr : f_Md_opening h v0 v1 = some r) : mJM G M_Md_opening [(2, v0), (0, v1)] h r := by
  refine mJM_of (L := [(2, v0), (0, v1)]) rfl rfl rfl (Nat.le_of_ble_eq_true rfl) ?_
  unfold f_Md_opening at hr
  refine j_aload_n (pc := 0) d_Md_opening_0 rfl ?_
  refine j_aload_n (pc := 1) d_Md_opening_1 rfl ?_
  obtain ⟨ha, hr⟩ := chk_some hr
  refine j_callG (pc := 2) (stk := [(2, v0), (2, v0)]) (as := [(2, v0)]) (P := (fun v9 => ((0 : Nat), v9) :: [(2, v0)])) (tg := 0) (My := M_Md_isSpent) (mRunV (as := []) (st := [(2, v0)]) d_Md_opening_2 (mc_Md_isSpent (by decide)) rfl (mv_Md_isSpent tb_ml_Md_261) rfl (Nat.le_of_ble_eq_true rfl) ha) (fun v => rfl) rfl hr (fun r1 h1 => t_Md_isSpent _ _ _ h1) (fun x2 h1 hr => ?_)
  refine j_if_eq (pc := 5) (tgt := 12) d_Md_opening_5 hr (fun hr => ?_) (fun hr => ?_)
  · refine j_iconst (pc := 12) d_Md_opening_12 ?_
    exact mJ_weak (ls' := [(2, v0), (0, v1)]) (mwk_s (mwk_s mwk_n)) (t_Md_opening_J13  hr)
  · refine j_iconst (pc := 8) d_Md_opening_8 ?_
    refine j_goto (pc := 9) (tgt := 13) d_Md_opening_9 ?_
    exact mJ_weak (ls' := [(2, v0), (0, v1)]) (mwk_s (mwk_s mwk_n)) (t_Md_opening_J13  hr)
def M_Md_ways : mM := ("NineBarsModel", ⟨"NineBarsModel", "ways", "()J"⟩, prog_13_method_73_code, 5, some .long, [], 11)
theorem tb_co_Md_ways : mTB (Cond.code ⟨"NineBarsModel", "ways", "()J"⟩ prog_13_method_73_code 5 (some .long)) := tbq8 152 (by decide +kernel) rfl
theorem mc_Md_ways {M : mM} (hd : 11 < mDp M) : mCal M M_Md_ways 0 := ⟨tb_co_Md_ways, tb_in_NineBarsModel, ⟨by decide +kernel, by decide +kernel⟩, by decide +kernel, hd, by decide⟩
theorem d_Md_ways_0 : decode prog_13_method_73_code 0 = .ok (.aload_n 0, 1) := by decide +kernel
theorem d_Md_ways_1 : decode prog_13_method_73_code 1 = .ok (.aload_n 0, 1) := by decide +kernel
theorem d_Md_ways_2 : decode prog_13_method_73_code 2 = .ok (.invokevirtual 261, 3) := by decide +kernel
theorem d_Md_ways_5 : decode prog_13_method_73_code 5 = .ok (.ifCond .eq 7, 3) := by decide +kernel
theorem d_Md_ways_12 : decode prog_13_method_73_code 12 = .ok (.iconst 0, 1) := by decide +kernel
theorem d_Md_ways_13 : decode prog_13_method_73_code 13 = .ok (.putfield 86, 3) := by decide +kernel
theorem d_Md_ways_16 : decode prog_13_method_73_code 16 = .ok (.aload_n 0, 1) := by decide +kernel
theorem d_Md_ways_17 : decode prog_13_method_73_code 17 = .ok (.getfield 86, 3) := by decide +kernel
theorem d_Md_ways_20 : decode prog_13_method_73_code 20 = .ok (.ifCond .le 5, 3) := by decide +kernel
theorem d_Md_ways_25 : decode prog_13_method_73_code 25 = .ok (.aload_n 0, 1) := by decide +kernel
theorem d_Md_ways_26 : decode prog_13_method_73_code 26 = .ok (.invokevirtual 244, 3) := by decide +kernel
theorem d_Md_ways_29 : decode prog_13_method_73_code 29 = .ok (.istore_n 1, 1) := by decide +kernel
theorem d_Md_ways_30 : decode prog_13_method_73_code 30 = .ok (.aload_n 0, 1) := by decide +kernel
theorem d_Md_ways_31 : decode prog_13_method_73_code 31 = .ok (.aload_n 0, 1) := by decide +kernel
theorem d_Md_ways_32 : decode prog_13_method_73_code 32 = .ok (.invokevirtual 265, 3) := by decide +kernel
theorem d_Md_ways_35 : decode prog_13_method_73_code 35 = .ok (.iload_n 1, 1) := by decide +kernel
theorem d_Md_ways_36 : decode prog_13_method_73_code 36 = .ok (.invokevirtual 329, 3) := by decide +kernel
theorem d_Md_ways_39 : decode prog_13_method_73_code 39 = .ok (.iconst 0, 1) := by decide +kernel
theorem d_Md_ways_40 : decode prog_13_method_73_code 40 = .ok (.istore_n 2, 1) := by decide +kernel
theorem d_Md_ways_41 : decode prog_13_method_73_code 41 = .ok (.iload_n 2, 1) := by decide +kernel
theorem d_Md_ways_42 : decode prog_13_method_73_code 42 = .ok (.aload_n 0, 1) := by decide +kernel
theorem d_Md_ways_43 : decode prog_13_method_73_code 43 = .ok (.invokevirtual 219, 3) := by decide +kernel
theorem d_Md_ways_46 : decode prog_13_method_73_code 46 = .ok (.if_icmp .ge 16, 3) := by decide +kernel
theorem d_Md_ways_49 : decode prog_13_method_73_code 49 = .ok (.aload_n 0, 1) := by decide +kernel
theorem d_Md_ways_50 : decode prog_13_method_73_code 50 = .ok (.getfield 45, 3) := by decide +kernel
theorem d_Md_ways_53 : decode prog_13_method_73_code 53 = .ok (.iload_n 2, 1) := by decide +kernel
theorem d_Md_ways_54 : decode prog_13_method_73_code 54 = .ok (.lconst 0, 1) := by decide +kernel
theorem d_Md_ways_55 : decode prog_13_method_73_code 55 = .ok (.lastore, 1) := by decide +kernel
theorem d_Md_ways_56 : decode prog_13_method_73_code 56 = .ok (.iinc 2 1, 3) := by decide +kernel
theorem d_Md_ways_59 : decode prog_13_method_73_code 59 = .ok (.goto (-18), 3) := by decide +kernel
theorem d_Md_ways_62 : decode prog_13_method_73_code 62 = .ok (.aload_n 0, 1) := by decide +kernel
theorem d_Md_ways_63 : decode prog_13_method_73_code 63 = .ok (.getfield 45, 3) := by decide +kernel
theorem d_Md_ways_66 : decode prog_13_method_73_code 66 = .ok (.aload_n 0, 1) := by decide +kernel
theorem d_Md_ways_67 : decode prog_13_method_73_code 67 = .ok (.invokevirtual 265, 3) := by decide +kernel
theorem d_Md_ways_70 : decode prog_13_method_73_code 70 = .ok (.lconst 1, 1) := by decide +kernel
theorem d_Md_ways_71 : decode prog_13_method_73_code 71 = .ok (.lastore, 1) := by decide +kernel
theorem d_Md_ways_72 : decode prog_13_method_73_code 72 = .ok (.iconst 0, 1) := by decide +kernel
theorem d_Md_ways_73 : decode prog_13_method_73_code 73 = .ok (.istore_n 2, 1) := by decide +kernel
theorem d_Md_ways_74 : decode prog_13_method_73_code 74 = .ok (.iload_n 2, 1) := by decide +kernel
theorem d_Md_ways_75 : decode prog_13_method_73_code 75 = .ok (.aload_n 0, 1) := by decide +kernel
theorem d_Md_ways_76 : decode prog_13_method_73_code 76 = .ok (.getfield 313, 3) := by decide +kernel
theorem d_Md_ways_79 : decode prog_13_method_73_code 79 = .ok (.if_icmp .ge 89, 3) := by decide +kernel
theorem d_Md_ways_82 : decode prog_13_method_73_code 82 = .ok (.iconst 0, 1) := by decide +kernel
theorem d_Md_ways_83 : decode prog_13_method_73_code 83 = .ok (.istore_n 3, 1) := by decide +kernel
theorem d_Md_ways_84 : decode prog_13_method_73_code 84 = .ok (.iload_n 3, 1) := by decide +kernel
theorem d_Md_ways_85 : decode prog_13_method_73_code 85 = .ok (.aload_n 0, 1) := by decide +kernel
theorem d_Md_ways_86 : decode prog_13_method_73_code 86 = .ok (.invokevirtual 319, 3) := by decide +kernel
theorem d_Md_ways_89 : decode prog_13_method_73_code 89 = .ok (.if_icmp .ge 73, 3) := by decide +kernel
theorem d_Md_ways_92 : decode prog_13_method_73_code 92 = .ok (.aload_n 0, 1) := by decide +kernel
theorem d_Md_ways_93 : decode prog_13_method_73_code 93 = .ok (.aload_n 0, 1) := by decide +kernel
theorem d_Md_ways_94 : decode prog_13_method_73_code 94 = .ok (.getfield 42, 3) := by decide +kernel
theorem d_Md_ways_97 : decode prog_13_method_73_code 97 = .ok (.iload_n 2, 1) := by decide +kernel
theorem d_Md_ways_98 : decode prog_13_method_73_code 98 = .ok (.iaload, 1) := by decide +kernel
theorem d_Md_ways_99 : decode prog_13_method_73_code 99 = .ok (.iload_n 3, 1) := by decide +kernel
theorem d_Md_ways_100 : decode prog_13_method_73_code 100 = .ok (.iload_n 1, 1) := by decide +kernel
theorem d_Md_ways_101 : decode prog_13_method_73_code 101 = .ok (.invokevirtual 322, 3) := by decide +kernel
theorem d_Md_ways_104 : decode prog_13_method_73_code 104 = .ok (.istore 4, 2) := by decide +kernel
theorem d_Md_ways_106 : decode prog_13_method_73_code 106 = .ok (.iload 4, 2) := by decide +kernel
theorem d_Md_ways_108 : decode prog_13_method_73_code 108 = .ok (.iconst (-1), 1) := by decide +kernel
theorem d_Md_ways_109 : decode prog_13_method_73_code 109 = .ok (.if_icmp .eq 47, 3) := by decide +kernel
theorem d_Md_ways_156 : decode prog_13_method_73_code 156 = .ok (.iinc 3 1, 3) := by decide +kernel
theorem d_Md_ways_159 : decode prog_13_method_73_code 159 = .ok (.goto (-75), 3) := by decide +kernel
theorem d_Md_ways_112 : decode prog_13_method_73_code 112 = .ok (.aload_n 0, 1) := by decide +kernel
theorem d_Md_ways_113 : decode prog_13_method_73_code 113 = .ok (.getfield 39, 3) := by decide +kernel
theorem d_Md_ways_116 : decode prog_13_method_73_code 116 = .ok (.iload 4, 2) := by decide +kernel
theorem d_Md_ways_118 : decode prog_13_method_73_code 118 = .ok (.iaload, 1) := by decide +kernel
theorem d_Md_ways_119 : decode prog_13_method_73_code 119 = .ok (.aload_n 0, 1) := by decide +kernel
theorem d_Md_ways_120 : decode prog_13_method_73_code 120 = .ok (.getfield 39, 3) := by decide +kernel
theorem d_Md_ways_123 : decode prog_13_method_73_code 123 = .ok (.aload_n 0, 1) := by decide +kernel
theorem d_Md_ways_124 : decode prog_13_method_73_code 124 = .ok (.getfield 42, 3) := by decide +kernel
theorem d_Md_ways_127 : decode prog_13_method_73_code 127 = .ok (.iload_n 2, 1) := by decide +kernel
theorem d_Md_ways_128 : decode prog_13_method_73_code 128 = .ok (.iaload, 1) := by decide +kernel
theorem d_Md_ways_129 : decode prog_13_method_73_code 129 = .ok (.iaload, 1) := by decide +kernel
theorem d_Md_ways_130 : decode prog_13_method_73_code 130 = .ok (.iconst 1, 1) := by decide +kernel
theorem d_Md_ways_131 : decode prog_13_method_73_code 131 = .ok (.iadd, 1) := by decide +kernel
theorem d_Md_ways_132 : decode prog_13_method_73_code 132 = .ok (.if_icmp .ne 24, 3) := by decide +kernel
theorem d_Md_ways_135 : decode prog_13_method_73_code 135 = .ok (.aload_n 0, 1) := by decide +kernel
theorem d_Md_ways_136 : decode prog_13_method_73_code 136 = .ok (.getfield 45, 3) := by decide +kernel
theorem d_Md_ways_139 : decode prog_13_method_73_code 139 = .ok (.iload 4, 2) := by decide +kernel
theorem d_Md_ways_141 : decode prog_13_method_73_code 141 = .ok (.dup2, 1) := by decide +kernel
theorem d_Md_ways_142 : decode prog_13_method_73_code 142 = .ok (.laload, 1) := by decide +kernel
theorem d_Md_ways_143 : decode prog_13_method_73_code 143 = .ok (.aload_n 0, 1) := by decide +kernel
theorem d_Md_ways_144 : decode prog_13_method_73_code 144 = .ok (.getfield 45, 3) := by decide +kernel
theorem d_Md_ways_147 : decode prog_13_method_73_code 147 = .ok (.aload_n 0, 1) := by decide +kernel
theorem d_Md_ways_148 : decode prog_13_method_73_code 148 = .ok (.getfield 42, 3) := by decide +kernel
theorem d_Md_ways_151 : decode prog_13_method_73_code 151 = .ok (.iload_n 2, 1) := by decide +kernel
theorem d_Md_ways_152 : decode prog_13_method_73_code 152 = .ok (.iaload, 1) := by decide +kernel
theorem d_Md_ways_153 : decode prog_13_method_73_code 153 = .ok (.laload, 1) := by decide +kernel
theorem d_Md_ways_154 : decode prog_13_method_73_code 154 = .ok (.ladd, 1) := by decide +kernel
theorem d_Md_ways_155 : decode prog_13_method_73_code 155 = .ok (.lastore, 1) := by decide +kernel
theorem d_Md_ways_162 : decode prog_13_method_73_code 162 = .ok (.iinc 2 1, 3) := by decide +kernel
theorem d_Md_ways_165 : decode prog_13_method_73_code 165 = .ok (.goto (-91), 3) := by decide +kernel
theorem d_Md_ways_168 : decode prog_13_method_73_code 168 = .ok (.aload_n 0, 1) := by decide +kernel
theorem d_Md_ways_169 : decode prog_13_method_73_code 169 = .ok (.getfield 45, 3) := by decide +kernel
theorem d_Md_ways_172 : decode prog_13_method_73_code 172 = .ok (.aload_n 0, 1) := by decide +kernel
theorem d_Md_ways_173 : decode prog_13_method_73_code 173 = .ok (.invokevirtual 341, 3) := by decide +kernel
theorem d_Md_ways_176 : decode prog_13_method_73_code 176 = .ok (.laload, 1) := by decide +kernel
theorem d_Md_ways_177 : decode prog_13_method_73_code 177 = .ok (.lreturn, 1) := by decide +kernel
theorem d_Md_ways_23 : decode prog_13_method_73_code 23 = .ok (.lconst 0, 1) := by decide +kernel
theorem d_Md_ways_24 : decode prog_13_method_73_code 24 = .ok (.lreturn, 1) := by decide +kernel
theorem d_Md_ways_8 : decode prog_13_method_73_code 8 = .ok (.iconst 1, 1) := by decide +kernel
theorem d_Md_ways_9 : decode prog_13_method_73_code 9 = .ok (.goto 4, 3) := by decide +kernel
theorem t_Md_ways_L41 {G : mG} {r : mR} {v0 v1 : Int} {K62 : mH → Option mR} (hK62 : ∀ (h : mH) , K62 h  = some r → mJ G M_Md_ways 62 [(2, v0), (0, v1), (9, 0), (9, 0), (9, 0)] [] h r) : ∀ (n : Nat) (h : mH) (v2 : Int), f_Md_ways_L41 K62 v0 n h v2 = some r → mJ G M_Md_ways 41 [(2, v0), (0, v1), (0, v2), (9, 0), (9, 0)] [] h r := by
  intro n
  induction n with
  | zero =>
    intro h v2 hr
    rw [f_Md_ways_L41] at hr
    cases hr
  | succ n hR41 =>
    intro h v2 hr
    rw [f_Md_ways_L41] at hr
    refine j_iload_n (pc := 41) d_Md_ways_41 rfl ?_
    refine j_aload_n (pc := 42) d_Md_ways_42 rfl ?_
    obtain ⟨ha, hr⟩ := chk_some hr
    refine j_callG (pc := 43) (stk := [(2, v0), (0, v2)]) (as := [(2, v0)]) (P := (fun v9 => ((0 : Nat), v9) :: [(0, v2)])) (tg := 0) (My := M_Md_stands) (mRunV (as := []) (st := [(0, v2)]) d_Md_ways_43 (mc_Md_stands (by decide)) rfl (mv_Md_stands tb_ml_Md_219) rfl (Nat.le_of_ble_eq_true rfl) ha) (fun v => rfl) rfl hr (fun r1 h1 => t_Md_stands _ _ _ h1) (fun x2 h1 hr => ?_)
    refine j_icmp_ge (pc := 46) (tgt := 62) d_Md_ways_46 hr (fun hr => ?_) (fun hr => ?_)
    · exact mJ_weak (ls' := [(2, v0), (0, v1), (9, 0), (9, 0), (9, 0)]) (mwk_s (mwk_s (mwk_d (mwk_s (mwk_s mwk_n))))) (hK62 h1  hr)
    · refine j_aload_n (pc := 49) d_Md_ways_49 rfl ?_
      refine j_getf (pc := 50) d_Md_ways_50 (fd_Md_45 rfl) hr (fun hr => ?_)
      refine j_iload_n (pc := 53) d_Md_ways_53 rfl ?_
      refine j_lconst (pc := 54) (z := 0) d_Md_ways_54 ?_
      refine j_lastore (pc := 55) d_Md_ways_55 hr (fun h3 hr => ?_)
      refine j_iincW (pc := 56) (L := fun x4 => [(2, v0), (0, v1), (0, x4), (9, 0), (9, 0)]) d_Md_ways_56 rfl (fun _ => rfl) hr (fun x4 hr => ?_)
      refine j_goto (pc := 59) (tgt := 41) d_Md_ways_59 ?_
      exact mJ_weak (ls' := [(2, v0), (0, v1), (0, x4), (9, 0), (9, 0)]) (mwk_s (mwk_s (mwk_s (mwk_s (mwk_s mwk_n))))) (hR41 h3 _ hr)
theorem t_Md_ways_J156 {G : mG} {r : mR} {v0 v1 v2 v3 : Int} {h : mH} {R84 : mH → Int → Option mR} (hR84 : ∀ (h : mH) (w3 : Int) , R84 h w3 = some r → mJ G M_Md_ways 84 [(2, v0), (0, v1), (0, v2), (0, w3), (9, 0)] [] h r) (hr : f_Md_ways_J156 R84 v3 h = some r) : mJ G M_Md_ways 156 [(2, v0), (0, v1), (0, v2), (0, v3), (9, 0)] [] h r := by
  unfold f_Md_ways_J156 at hr
  refine j_iincW (pc := 156) (L := fun x1 => [(2, v0), (0, v1), (0, v2), (0, x1), (9, 0)]) d_Md_ways_156 rfl (fun _ => rfl) hr (fun x1 hr => ?_)
  refine j_goto (pc := 159) (tgt := 84) d_Md_ways_159 ?_
  exact mJ_weak (ls' := [(2, v0), (0, v1), (0, v2), (0, x1), (9, 0)]) (mwk_s (mwk_s (mwk_s (mwk_s (mwk_s mwk_n))))) (hR84 h _ hr)
theorem t_Md_ways_L84 {G : mG} {r : mR} {v0 v1 v2 : Int} {K162 : mH → Option mR} (hK162 : ∀ (h : mH) , K162 h  = some r → mJ G M_Md_ways 162 [(2, v0), (0, v1), (0, v2), (9, 0), (9, 0)] [] h r) : ∀ (n : Nat) (h : mH) (v3 : Int), f_Md_ways_L84 K162 v0 v1 v2 n h v3 = some r → mJ G M_Md_ways 84 [(2, v0), (0, v1), (0, v2), (0, v3), (9, 0)] [] h r := by
  intro n
  induction n with
  | zero =>
    intro h v3 hr
    rw [f_Md_ways_L84] at hr
    cases hr
  | succ n hR84 =>
    intro h v3 hr
    rw [f_Md_ways_L84] at hr
    refine j_iload_n (pc := 84) d_Md_ways_84 rfl ?_
    refine j_aload_n (pc := 85) d_Md_ways_85 rfl ?_
    obtain ⟨ha, hr⟩ := chk_some hr
    refine j_callG (pc := 86) (stk := [(2, v0), (0, v3)]) (as := [(2, v0)]) (P := (fun v9 => ((0 : Nat), v9) :: [(0, v3)])) (tg := 0) (My := M_Md_steps) (mRunV (as := []) (st := [(0, v3)]) d_Md_ways_86 (mc_Md_steps (by decide)) rfl (mv_Md_steps tb_ml_Md_319) rfl (Nat.le_of_ble_eq_true rfl) ha) (fun v => rfl) rfl hr (fun r1 h1 => t_Md_steps _ _ _ h1) (fun x2 h1 hr => ?_)
    refine j_icmp_ge (pc := 89) (tgt := 162) d_Md_ways_89 hr (fun hr => ?_) (fun hr => ?_)
    · exact mJ_weak (ls' := [(2, v0), (0, v1), (0, v2), (9, 0), (9, 0)]) (mwk_s (mwk_s (mwk_s (mwk_d (mwk_s mwk_n))))) (hK162 h1  hr)
    · refine j_aload_n (pc := 92) d_Md_ways_92 rfl ?_
      refine j_aload_n (pc := 93) d_Md_ways_93 rfl ?_
      refine j_getf (pc := 94) d_Md_ways_94 (fd_Md_42 rfl) hr (fun hr => ?_)
      refine j_iload_n (pc := 97) d_Md_ways_97 rfl ?_
      refine j_iaload (pc := 98) d_Md_ways_98 hr (fun hr => ?_)
      refine j_iload_n (pc := 99) d_Md_ways_99 rfl ?_
      refine j_iload_n (pc := 100) d_Md_ways_100 rfl ?_
      obtain ⟨ha, hr⟩ := chk_some hr
      refine j_callG (pc := 101) (stk := [(0, v1), (0, v3), (0, hpV h1 (hpV h1 v0 23) v2), (2, v0)]) (as := [(2, v0), (0, hpV h1 (hpV h1 v0 23) v2), (0, v3), (0, v1)]) (P := (fun v9 => ((0 : Nat), v9) :: [])) (tg := 0) (My := M_Md_then) (mRunV (as := [(0, hpV h1 (hpV h1 v0 23) v2), (0, v3), (0, v1)]) (st := []) d_Md_ways_101 (mc_Md_then (by decide)) rfl (mv_Md_then tb_ml_Md_322) rfl (Nat.le_of_ble_eq_true rfl) ha) (fun v => rfl) rfl hr (fun r1 h1 => t_Md_then _ _ _ _ _ _ h1) (fun x4 h3 hr => ?_)
      refine j_istore (pc := 104) (ls' := [(2, v0), (0, v1), (0, v2), (0, v3), (0, x4)]) d_Md_ways_104 rfl ?_
      refine j_iload (pc := 106) d_Md_ways_106 rfl ?_
      refine j_iconst (pc := 108) d_Md_ways_108 ?_
      refine j_icmp_eq (pc := 109) (tgt := 156) d_Md_ways_109 hr (fun hr => ?_) (fun hr => ?_)
      · exact mJ_weak (ls' := [(2, v0), (0, v1), (0, v2), (0, v3), (9, 0)]) (mwk_s (mwk_s (mwk_s (mwk_s (mwk_d mwk_n))))) (t_Md_ways_J156 hR84 hr)
      · refine j_aload_n (pc := 112) d_Md_ways_112 rfl ?_
        refine j_getf (pc := 113) d_Md_ways_113 (fd_Md_39 rfl) hr (fun hr => ?_)
        refine j_iload (pc := 116) d_Md_ways_116 rfl ?_
        refine j_iaload (pc := 118) d_Md_ways_118 hr (fun hr => ?_)
        refine j_aload_n (pc := 119) d_Md_ways_119 rfl ?_
        refine j_getf (pc := 120) d_Md_ways_120 (fd_Md_39 rfl) hr (fun hr => ?_)
        refine j_aload_n (pc := 123) d_Md_ways_123 rfl ?_
        refine j_getf (pc := 124) d_Md_ways_124 (fd_Md_42 rfl) hr (fun hr => ?_)
        refine j_iload_n (pc := 127) d_Md_ways_127 rfl ?_
        refine j_iaload (pc := 128) d_Md_ways_128 hr (fun hr => ?_)
        refine j_iaload (pc := 129) d_Md_ways_129 hr (fun hr => ?_)
        refine j_iconst (pc := 130) d_Md_ways_130 ?_
        refine j_iadd (pc := 131) d_Md_ways_131 ?_
        refine j_icmp_ne (pc := 132) (tgt := 156) d_Md_ways_132 hr (fun hr => ?_) (fun hr => ?_)
        · exact mJ_weak (ls' := [(2, v0), (0, v1), (0, v2), (0, v3), (9, 0)]) (mwk_s (mwk_s (mwk_s (mwk_s (mwk_d mwk_n))))) (t_Md_ways_J156 hR84 hr)
        · refine j_aload_n (pc := 135) d_Md_ways_135 rfl ?_
          refine j_getf (pc := 136) d_Md_ways_136 (fd_Md_45 rfl) hr (fun hr => ?_)
          refine j_iload (pc := 139) d_Md_ways_139 rfl ?_
          refine j_dup2 (pc := 141) d_Md_ways_141 ?_
          refine j_laload (pc := 142) d_Md_ways_142 hr (fun hr => ?_)
          refine j_aload_n (pc := 143) d_Md_ways_143 rfl ?_
          refine j_getf (pc := 144) d_Md_ways_144 (fd_Md_45 rfl) hr (fun hr => ?_)
          refine j_aload_n (pc := 147) d_Md_ways_147 rfl ?_
          refine j_getf (pc := 148) d_Md_ways_148 (fd_Md_42 rfl) hr (fun hr => ?_)
          refine j_iload_n (pc := 151) d_Md_ways_151 rfl ?_
          refine j_iaload (pc := 152) d_Md_ways_152 hr (fun hr => ?_)
          refine j_laload (pc := 153) d_Md_ways_153 hr (fun hr => ?_)
          refine j_ladd (pc := 154) d_Md_ways_154 ?_
          refine j_lastore (pc := 155) d_Md_ways_155 hr (fun h5 hr => ?_)
          exact mJ_weak (ls' := [(2, v0), (0, v1), (0, v2), (0, v3), (9, 0)]) (mwk_s (mwk_s (mwk_s (mwk_s (mwk_d mwk_n))))) (t_Md_ways_J156 hR84 hr)
theorem t_Md_ways_L74 {G : mG} {r : mR} {v0 v1 : Int} {K168 : mH → Option mR} (hK168 : ∀ (h : mH) , K168 h  = some r → mJ G M_Md_ways 168 [(2, v0), (9, 0), (9, 0), (9, 0), (9, 0)] [] h r) : ∀ (n : Nat) (h : mH) (v2 : Int), f_Md_ways_L74 K168 v0 v1 n h v2 = some r → mJ G M_Md_ways 74 [(2, v0), (0, v1), (0, v2), (9, 0), (9, 0)] [] h r := by
  intro n
  induction n with
  | zero =>
    intro h v2 hr
    rw [f_Md_ways_L74] at hr
    cases hr
  | succ n hR74 =>
    intro h v2 hr
    rw [f_Md_ways_L74] at hr
    refine j_iload_n (pc := 74) d_Md_ways_74 rfl ?_
    refine j_aload_n (pc := 75) d_Md_ways_75 rfl ?_
    refine j_getf (pc := 76) d_Md_ways_76 (fd_Md_313 rfl) hr (fun hr => ?_)
    refine j_icmp_ge (pc := 79) (tgt := 168) d_Md_ways_79 hr (fun hr => ?_) (fun hr => ?_)
    · exact mJ_weak (ls' := [(2, v0), (9, 0), (9, 0), (9, 0), (9, 0)]) (mwk_s (mwk_d (mwk_d (mwk_s (mwk_s mwk_n))))) (hK168 h  hr)
    · refine j_iconst (pc := 82) d_Md_ways_82 ?_
      refine j_istore_n (pc := 83) (ls' := [(2, v0), (0, v1), (0, v2), (0, 0), (9, 0)]) d_Md_ways_83 rfl ?_
      refine mJ_weak (ls' := [(2, v0), (0, v1), (0, v2), (0, 0), (9, 0)]) (mwk_s (mwk_s (mwk_s (mwk_s (mwk_s mwk_n))))) (t_Md_ways_L84 (fun h1  hr => ?_) _ _ _ hr)
      · refine j_iincW (pc := 162) (L := fun x2 => [(2, v0), (0, v1), (0, x2), (9, 0), (9, 0)]) d_Md_ways_162 rfl (fun _ => rfl) hr (fun x2 hr => ?_)
        refine j_goto (pc := 165) (tgt := 74) d_Md_ways_165 ?_
        exact mJ_weak (ls' := [(2, v0), (0, v1), (0, x2), (9, 0), (9, 0)]) (mwk_s (mwk_s (mwk_s (mwk_s (mwk_s mwk_n))))) (hR74 h1 _ hr)
theorem t_Md_ways_J13 {G : mG} {r : mR} {v0 s0 s1 : Int} {h : mH}  (hr : f_Md_ways_J13 v0 s0 s1 h = some r) : mJ G M_Md_ways 13 [(2, v0), (9, 0), (9, 0), (9, 0), (9, 0)] [(0, s1), (2, s0)] h r := by
  unfold f_Md_ways_J13 at hr
  refine j_puti (pc := 13) d_Md_ways_13 (fd_Md_86 rfl) (⟨_, _, _, rfl, Or.inl rfl, rfl⟩ : mFldW M_Md_ways 86 11 5 .int) hr (fun h1 hr => ?_)
  refine j_aload_n (pc := 16) d_Md_ways_16 rfl ?_
  refine j_getf (pc := 17) d_Md_ways_17 (fd_Md_86 rfl) hr (fun hr => ?_)
  refine j_if_le (pc := 20) (tgt := 25) d_Md_ways_20 hr (fun hr => ?_) (fun hr => ?_)
  · refine j_aload_n (pc := 25) d_Md_ways_25 rfl ?_
    obtain ⟨ha, hr⟩ := chk_some hr
    refine j_callG (pc := 26) (stk := [(2, v0)]) (as := [(2, v0)]) (P := (fun v9 => ((0 : Nat), v9) :: [])) (tg := 0) (My := M_Md_worn) (mRunV (as := []) (st := []) d_Md_ways_26 (mc_Md_worn (by decide)) rfl (mv_Md_worn tb_ml_Md_244) rfl (Nat.le_of_ble_eq_true rfl) ha) (fun v => rfl) rfl hr (fun r1 h1 => t_Md_worn _ _ _ h1) (fun x3 h2 hr => ?_)
    refine j_istore_n (pc := 29) (ls' := [(2, v0), (0, x3), (9, 0), (9, 0), (9, 0)]) d_Md_ways_29 rfl ?_
    refine j_aload_n (pc := 30) d_Md_ways_30 rfl ?_
    refine j_aload_n (pc := 31) d_Md_ways_31 rfl ?_
    obtain ⟨ha, hr⟩ := chk_some hr
    refine j_callG (pc := 32) (stk := [(2, v0), (2, v0)]) (as := [(2, v0)]) (P := (fun v9 => ((0 : Nat), v9) :: [(2, v0)])) (tg := 0) (My := M_Md_standNow) (mRunV (as := []) (st := [(2, v0)]) d_Md_ways_32 (mc_Md_standNow (by decide)) rfl (mv_Md_standNow tb_ml_Md_265) rfl (Nat.le_of_ble_eq_true rfl) ha) (fun v => rfl) rfl hr (fun r1 h1 => t_Md_standNow _ _ _ h1) (fun x5 h4 hr => ?_)
    refine j_iload_n (pc := 35) d_Md_ways_35 rfl ?_
    obtain ⟨ha, hr⟩ := chk_some hr
    refine j_callG (pc := 36) (stk := [(0, x3), (0, x5), (2, v0)]) (as := [(2, v0), (0, x5), (0, x3)]) (P := (fun v9 => [])) (tg := 3) (My := M_Md_laysFrom) (mRunV (as := [(0, x5), (0, x3)]) (st := []) d_Md_ways_36 (mc_Md_laysFrom (by decide)) rfl (mv_Md_laysFrom tb_ml_Md_329) rfl (Nat.le_of_ble_eq_true rfl) ha) (fun v => rfl) rfl hr (fun r1 h1 => t_Md_laysFrom _ _ _ _ _ h1) (fun x7 h6 hr => ?_)
    refine j_iconst (pc := 39) d_Md_ways_39 ?_
    refine j_istore_n (pc := 40) (ls' := [(2, v0), (0, x3), (0, 0), (9, 0), (9, 0)]) d_Md_ways_40 rfl ?_
    refine mJ_weak (ls' := [(2, v0), (0, x3), (0, 0), (9, 0), (9, 0)]) (mwk_s (mwk_s (mwk_s (mwk_s (mwk_s mwk_n))))) (t_Md_ways_L41 (fun h8  hr => ?_) _ _ _ hr)
    · refine j_aload_n (pc := 62) d_Md_ways_62 rfl ?_
      refine j_getf (pc := 63) d_Md_ways_63 (fd_Md_45 rfl) hr (fun hr => ?_)
      refine j_aload_n (pc := 66) d_Md_ways_66 rfl ?_
      obtain ⟨ha, hr⟩ := chk_some hr
      refine j_callG (pc := 67) (stk := [(2, v0), (2, hpV h8 v0 25)]) (as := [(2, v0)]) (P := (fun v9 => ((0 : Nat), v9) :: [(2, hpV h8 v0 25)])) (tg := 0) (My := M_Md_standNow) (mRunV (as := []) (st := [(2, hpV h8 v0 25)]) d_Md_ways_67 (mc_Md_standNow (by decide)) rfl (mv_Md_standNow tb_ml_Md_265) rfl (Nat.le_of_ble_eq_true rfl) ha) (fun v => rfl) rfl hr (fun r1 h1 => t_Md_standNow _ _ _ h1) (fun x10 h9 hr => ?_)
      refine j_lconst (pc := 70) (z := 1) d_Md_ways_70 ?_
      refine j_lastore (pc := 71) d_Md_ways_71 hr (fun h11 hr => ?_)
      refine j_iconst (pc := 72) d_Md_ways_72 ?_
      refine j_istore_n (pc := 73) (ls' := [(2, v0), (0, x3), (0, 0), (9, 0), (9, 0)]) d_Md_ways_73 rfl ?_
      refine mJ_weak (ls' := [(2, v0), (0, x3), (0, 0), (9, 0), (9, 0)]) (mwk_s (mwk_s (mwk_s (mwk_s (mwk_s mwk_n))))) (t_Md_ways_L74 (fun h12  hr => ?_) _ _ _ hr)
      · refine j_aload_n (pc := 168) d_Md_ways_168 rfl ?_
        refine j_getf (pc := 169) d_Md_ways_169 (fd_Md_45 rfl) hr (fun hr => ?_)
        refine j_aload_n (pc := 172) d_Md_ways_172 rfl ?_
        obtain ⟨ha, hr⟩ := chk_some hr
        refine j_callG (pc := 173) (stk := [(2, v0), (2, hpV h12 v0 25)]) (as := [(2, v0)]) (P := (fun v9 => ((0 : Nat), v9) :: [(2, hpV h12 v0 25)])) (tg := 0) (My := M_Md_openStand) (mRunV (as := []) (st := [(2, hpV h12 v0 25)]) d_Md_ways_173 (mc_Md_openStand (by decide)) rfl (mv_Md_openStand tb_ml_Md_341) rfl (Nat.le_of_ble_eq_true rfl) ha) (fun v => rfl) rfl hr (fun r1 h1 => t_Md_openStand _ _ _ h1) (fun x14 h13 hr => ?_)
        refine j_laload (pc := 176) d_Md_ways_176 hr (fun hr => ?_)
        exact j_lret (pc := 177) d_Md_ways_177 rfl hr
  · refine j_lconst (pc := 23) (z := 0) d_Md_ways_23 ?_
    exact j_lret (pc := 24) d_Md_ways_24 rfl hr
theorem t_Md_ways {G : mG} (h : mH) (v0 : Int) (r : mR) (hr : f_Md_ways h v0 = some r) : mJM G M_Md_ways [(2, v0)] h r := by
  refine mJM_of (L := [(2, v0), (9, 0), (9, 0), (9, 0), (9, 0)]) rfl rfl rfl (Nat.le_of_ble_eq_true rfl) ?_
  unfold f_Md_ways at hr
  refine j_aload_n (pc := 0) d_Md_ways_0 rfl ?_
  refine j_aload_n (pc := 1) d_Md_ways_1 rfl ?_
  obtain ⟨ha, hr⟩ := chk_some hr
  refine j_callG (pc := 2) (stk := [(2, v0), (2, v0)]) (as := [(2, v0)]) (P := (fun v9 => ((0 : Nat), v9) :: [(2, v0)])) (tg := 0) (My := M_Md_isSpent) (mRunV (as := []) (st := [(2, v0)]) d_Md_ways_2 (mc_Md_isSpent (by decide)) rfl (mv_Md_isSpent tb_ml_Md_261) rfl (Nat.le_of_ble_eq_true rfl) ha) (fun v => rfl) rfl hr (fun r1 h1 => t_Md_isSpent _ _ _ h1) (fun x2 h1 hr => ?_)
  refine j_if_eq (pc := 5) (tgt := 12) d_Md_ways_5 hr (fun hr => ?_) (fun hr => ?_)
  · refine j_iconst (pc := 12) d_Md_ways_12 ?_
    exact mJ_weak (ls' := [(2, v0), (9, 0), (9, 0), (9, 0), (9, 0)]) (mwk_s (mwk_s (mwk_s (mwk_s (mwk_s mwk_n))))) (t_Md_ways_J13  hr)
  · refine j_iconst (pc := 8) d_Md_ways_8 ?_
    refine j_goto (pc := 9) (tgt := 13) d_Md_ways_9 ?_
    exact mJ_weak (ls' := [(2, v0), (9, 0), (9, 0), (9, 0), (9, 0)]) (mwk_s (mwk_s (mwk_s (mwk_s (mwk_s mwk_n))))) (t_Md_ways_J13  hr)
