def M_Fits_isAsTold : mM := ("NineBars$Fits", ⟨"NineBars$Fits", "isAsTold", "(LNineBars$Box;LNineBars$Tray;III)Z"⟩, prog_4_method_3_code, 11, some .boolean, [], 3)
theorem tb_co_Fits_isAsTold : mTB (Cond.code ⟨"NineBars$Fits", "isAsTold", "(LNineBars$Box;LNineBars$Tray;III)Z"⟩ prog_4_method_3_code 11 (some .boolean)) := tbq6 56 (by decide +kernel) rfl
theorem mc_Fits_isAsTold {M : mM} (hd : 3 < mDp M) : mCal M M_Fits_isAsTold 5 := ⟨tb_co_Fits_isAsTold, tb_in_NineBars_Fits, ⟨by decide +kernel, by decide +kernel⟩, by decide +kernel, hd, by decide⟩
theorem d_Fits_isAsTold_0 : decode prog_4_method_3_code 0 = .ok (.iconst 0, 1) := by decide +kernel
theorem d_Fits_isAsTold_1 : decode prog_4_method_3_code 1 = .ok (.istore 6, 2) := by decide +kernel
theorem d_Fits_isAsTold_3 : decode prog_4_method_3_code 3 = .ok (.iload 6, 2) := by decide +kernel
theorem d_Fits_isAsTold_5 : decode prog_4_method_3_code 5 = .ok (.aload_n 2, 1) := by decide +kernel
theorem tb_fl_Fits_37 : mTN (Cond.fieldLinkNest "NineBars$Fits" 37 "NineBars$Tray" "many" "I" "NineBars") := tbqn1 174 (by decide +kernel) rfl
theorem fd_Fits_37 {M : mM} (h : mO M = "NineBars$Fits") : mFld M 37 9 2 0 := ⟨_, _, _, tyX9, rfl, by decide, by decide, rfl, uw_9, tyX9_ok, nmX9, by rw [h]; exact Or.inr ⟨_, tb_fl_Fits_37⟩⟩
theorem d_Fits_isAsTold_6 : decode prog_4_method_3_code 6 = .ok (.getfield 37, 3) := by decide +kernel
theorem d_Fits_isAsTold_9 : decode prog_4_method_3_code 9 = .ok (.if_icmp .ge 84, 3) := by decide +kernel
theorem d_Fits_isAsTold_93 : decode prog_4_method_3_code 93 = .ok (.iconst 1, 1) := by decide +kernel
theorem d_Fits_isAsTold_94 : decode prog_4_method_3_code 94 = .ok (.ireturn, 1) := by decide +kernel
theorem d_Fits_isAsTold_12 : decode prog_4_method_3_code 12 = .ok (.aload_n 2, 1) := by decide +kernel
theorem tb_fl_Fits_40 : mTN (Cond.fieldLinkNest "NineBars$Fits" 40 "NineBars$Tray" "numbers" "[J" "NineBars") := tbqn1 169 (by decide +kernel) rfl
theorem fd_Fits_40 {M : mM} (h : mO M = "NineBars$Fits") : mFld M 40 9 0 2 := ⟨_, _, _, tyX9, rfl, by decide, by decide, rfl, uw_9, tyX9_ok, nmX9, by rw [h]; exact Or.inr ⟨_, tb_fl_Fits_40⟩⟩
theorem d_Fits_isAsTold_13 : decode prog_4_method_3_code 13 = .ok (.getfield 40, 3) := by decide +kernel
theorem d_Fits_isAsTold_16 : decode prog_4_method_3_code 16 = .ok (.iload 6, 2) := by decide +kernel
theorem d_Fits_isAsTold_18 : decode prog_4_method_3_code 18 = .ok (.laload, 1) := by decide +kernel
theorem d_Fits_isAsTold_19 : decode prog_4_method_3_code 19 = .ok (.lstore 7, 2) := by decide +kernel
theorem d_Fits_isAsTold_21 : decode prog_4_method_3_code 21 = .ok (.aload_n 1, 1) := by decide +kernel
theorem d_Fits_isAsTold_22 : decode prog_4_method_3_code 22 = .ok (.lload 7, 2) := by decide +kernel
theorem d_Fits_isAsTold_24 : decode prog_4_method_3_code 24 = .ok (.iconst 1, 1) := by decide +kernel
theorem d_Fits_isAsTold_25 : decode prog_4_method_3_code 25 = .ok (.lshr, 1) := by decide +kernel
theorem d_Fits_isAsTold_26 : decode prog_4_method_3_code 26 = .ok (.l2i, 1) := by decide +kernel
theorem d_Fits_isAsTold_27 : decode prog_4_method_3_code 27 = .ok (.iload_n 3, 1) := by decide +kernel
theorem d_Fits_isAsTold_28 : decode prog_4_method_3_code 28 = .ok (.invokevirtual 44, 3) := by decide +kernel
theorem tb_ml_Fits_44 : mTB (Cond.methodLink "NineBars$Fits" 44 ⟨"NineBars$Box", "placeOf", "(II)I"⟩) := tbq6 57 (by decide +kernel) rfl
theorem d_Fits_isAsTold_31 : decode prog_4_method_3_code 31 = .ok (.iload 5, 2) := by decide +kernel
theorem d_Fits_isAsTold_33 : decode prog_4_method_3_code 33 = .ok (.if_icmp .ne 7, 3) := by decide +kernel
theorem d_Fits_isAsTold_40 : decode prog_4_method_3_code 40 = .ok (.iconst 0, 1) := by decide +kernel
theorem d_Fits_isAsTold_41 : decode prog_4_method_3_code 41 = .ok (.istore 9, 2) := by decide +kernel
theorem d_Fits_isAsTold_43 : decode prog_4_method_3_code 43 = .ok (.lload 7, 2) := by decide +kernel
theorem d_Fits_isAsTold_45 : decode prog_4_method_3_code 45 = .ok (.lconst 1, 1) := by decide +kernel
theorem d_Fits_isAsTold_46 : decode prog_4_method_3_code 46 = .ok (.land, 1) := by decide +kernel
theorem d_Fits_isAsTold_47 : decode prog_4_method_3_code 47 = .ok (.lconst 1, 1) := by decide +kernel
theorem d_Fits_isAsTold_48 : decode prog_4_method_3_code 48 = .ok (.lcmp, 1) := by decide +kernel
theorem d_Fits_isAsTold_49 : decode prog_4_method_3_code 49 = .ok (.ifCond .ne 7, 3) := by decide +kernel
theorem d_Fits_isAsTold_56 : decode prog_4_method_3_code 56 = .ok (.iconst 0, 1) := by decide +kernel
theorem d_Fits_isAsTold_57 : decode prog_4_method_3_code 57 = .ok (.istore 10, 2) := by decide +kernel
theorem d_Fits_isAsTold_59 : decode prog_4_method_3_code 59 = .ok (.iload 9, 2) := by decide +kernel
theorem d_Fits_isAsTold_61 : decode prog_4_method_3_code 61 = .ok (.iload 4, 2) := by decide +kernel
theorem d_Fits_isAsTold_63 : decode prog_4_method_3_code 63 = .ok (.iconst 1, 1) := by decide +kernel
theorem d_Fits_isAsTold_64 : decode prog_4_method_3_code 64 = .ok (.if_icmp .ne 7, 3) := by decide +kernel
theorem d_Fits_isAsTold_71 : decode prog_4_method_3_code 71 = .ok (.iconst 0, 1) := by decide +kernel
theorem d_Fits_isAsTold_72 : decode prog_4_method_3_code 72 = .ok (.if_icmp .eq 7, 3) := by decide +kernel
theorem d_Fits_isAsTold_79 : decode prog_4_method_3_code 79 = .ok (.iconst 0, 1) := by decide +kernel
theorem d_Fits_isAsTold_80 : decode prog_4_method_3_code 80 = .ok (.iload 10, 2) := by decide +kernel
theorem d_Fits_isAsTold_82 : decode prog_4_method_3_code 82 = .ok (.if_icmp .eq 5, 3) := by decide +kernel
theorem d_Fits_isAsTold_87 : decode prog_4_method_3_code 87 = .ok (.iinc 6 1, 3) := by decide +kernel
theorem d_Fits_isAsTold_90 : decode prog_4_method_3_code 90 = .ok (.goto (-87), 3) := by decide +kernel
theorem d_Fits_isAsTold_85 : decode prog_4_method_3_code 85 = .ok (.iconst 0, 1) := by decide +kernel
theorem d_Fits_isAsTold_86 : decode prog_4_method_3_code 86 = .ok (.ireturn, 1) := by decide +kernel
theorem d_Fits_isAsTold_75 : decode prog_4_method_3_code 75 = .ok (.iconst 1, 1) := by decide +kernel
theorem d_Fits_isAsTold_76 : decode prog_4_method_3_code 76 = .ok (.goto 4, 3) := by decide +kernel
theorem d_Fits_isAsTold_67 : decode prog_4_method_3_code 67 = .ok (.iconst 1, 1) := by decide +kernel
theorem d_Fits_isAsTold_68 : decode prog_4_method_3_code 68 = .ok (.goto 4, 3) := by decide +kernel
theorem d_Fits_isAsTold_52 : decode prog_4_method_3_code 52 = .ok (.iconst 1, 1) := by decide +kernel
theorem d_Fits_isAsTold_53 : decode prog_4_method_3_code 53 = .ok (.goto 4, 3) := by decide +kernel
theorem d_Fits_isAsTold_36 : decode prog_4_method_3_code 36 = .ok (.iconst 1, 1) := by decide +kernel
theorem d_Fits_isAsTold_37 : decode prog_4_method_3_code 37 = .ok (.goto 4, 3) := by decide +kernel
theorem t_Fits_isAsTold_J80 {G : mG} {r : mR} {v1 v2 v3 v4 v5 v6 v10 s0 : Int} {h : mH} {R3 : mH → Int → Option mR} (hR3 : ∀ (h : mH) (w6 : Int) , R3 h w6 = some r → mJ G M_Fits_isAsTold 3 [(9, 0), (2, v1), (2, v2), (0, v3), (0, v4), (0, v5), (0, w6), (9, 0), (9, 0), (9, 0), (9, 0)] [] h r) (hr : f_Fits_isAsTold_J80 R3 v6 v10 s0 h = some r) : mJ G M_Fits_isAsTold 80 [(9, 0), (2, v1), (2, v2), (0, v3), (0, v4), (0, v5), (0, v6), (9, 0), (9, 0), (9, 0), (0, v10)] [(0, s0)] h r := by
  unfold f_Fits_isAsTold_J80 at hr
  refine j_iload (pc := 80) d_Fits_isAsTold_80 rfl ?_
  refine j_icmp_eq (pc := 82) (tgt := 87) d_Fits_isAsTold_82 hr (fun hr => ?_) (fun hr => ?_)
  · refine j_iincW (pc := 87) (L := fun x1 => [(9, 0), (2, v1), (2, v2), (0, v3), (0, v4), (0, v5), (0, x1), (9, 0), (9, 0), (9, 0), (0, v10)]) d_Fits_isAsTold_87 rfl (fun _ => rfl) hr (fun x1 hr => ?_)
    refine j_goto (pc := 90) (tgt := 3) d_Fits_isAsTold_90 ?_
    exact mJ_weak (ls' := [(9, 0), (2, v1), (2, v2), (0, v3), (0, v4), (0, v5), (0, x1), (9, 0), (9, 0), (9, 0), (9, 0)]) (mwk_s (mwk_s (mwk_s (mwk_s (mwk_s (mwk_s (mwk_s (mwk_s (mwk_s (mwk_s (mwk_d mwk_n))))))))))) (hR3 h _ hr)
  · refine j_iconst (pc := 85) d_Fits_isAsTold_85 ?_
    exact j_zret (pc := 86) d_Fits_isAsTold_86 rfl hr
theorem t_Fits_isAsTold_J72 {G : mG} {r : mR} {v1 v2 v3 v4 v5 v6 v10 s0 s1 : Int} {h : mH} {R3 : mH → Int → Option mR} (hR3 : ∀ (h : mH) (w6 : Int) , R3 h w6 = some r → mJ G M_Fits_isAsTold 3 [(9, 0), (2, v1), (2, v2), (0, v3), (0, v4), (0, v5), (0, w6), (9, 0), (9, 0), (9, 0), (9, 0)] [] h r) (hr : f_Fits_isAsTold_J72 R3 v6 v10 s0 s1 h = some r) : mJ G M_Fits_isAsTold 72 [(9, 0), (2, v1), (2, v2), (0, v3), (0, v4), (0, v5), (0, v6), (9, 0), (9, 0), (9, 0), (0, v10)] [(0, s1), (0, s0)] h r := by
  unfold f_Fits_isAsTold_J72 at hr
  refine j_icmp_eq (pc := 72) (tgt := 79) d_Fits_isAsTold_72 hr (fun hr => ?_) (fun hr => ?_)
  · refine j_iconst (pc := 79) d_Fits_isAsTold_79 ?_
    exact mJ_weak (ls' := [(9, 0), (2, v1), (2, v2), (0, v3), (0, v4), (0, v5), (0, v6), (9, 0), (9, 0), (9, 0), (0, v10)]) (mwk_s (mwk_s (mwk_s (mwk_s (mwk_s (mwk_s (mwk_s (mwk_s (mwk_s (mwk_s (mwk_s mwk_n))))))))))) (t_Fits_isAsTold_J80 hR3 hr)
  · refine j_iconst (pc := 75) d_Fits_isAsTold_75 ?_
    refine j_goto (pc := 76) (tgt := 80) d_Fits_isAsTold_76 ?_
    exact mJ_weak (ls' := [(9, 0), (2, v1), (2, v2), (0, v3), (0, v4), (0, v5), (0, v6), (9, 0), (9, 0), (9, 0), (0, v10)]) (mwk_s (mwk_s (mwk_s (mwk_s (mwk_s (mwk_s (mwk_s (mwk_s (mwk_s (mwk_s (mwk_s mwk_n))))))))))) (t_Fits_isAsTold_J80 hR3 hr)
theorem t_Fits_isAsTold_J57 {G : mG} {r : mR} {v1 v2 v3 v4 v5 v6 v9 s0 : Int} {h : mH} {R3 : mH → Int → Option mR} (hR3 : ∀ (h : mH) (w6 : Int) , R3 h w6 = some r → mJ G M_Fits_isAsTold 3 [(9, 0), (2, v1), (2, v2), (0, v3), (0, v4), (0, v5), (0, w6), (9, 0), (9, 0), (9, 0), (9, 0)] [] h r) (hr : f_Fits_isAsTold_J57 R3 v4 v6 v9 s0 h = some r) : mJ G M_Fits_isAsTold 57 [(9, 0), (2, v1), (2, v2), (0, v3), (0, v4), (0, v5), (0, v6), (9, 0), (9, 0), (0, v9), (9, 0)] [(0, s0)] h r := by
  unfold f_Fits_isAsTold_J57 at hr
  refine j_istore (pc := 57) (ls' := [(9, 0), (2, v1), (2, v2), (0, v3), (0, v4), (0, v5), (0, v6), (9, 0), (9, 0), (0, v9), (0, s0)]) d_Fits_isAsTold_57 rfl ?_
  refine j_iload (pc := 59) d_Fits_isAsTold_59 rfl ?_
  refine j_iload (pc := 61) d_Fits_isAsTold_61 rfl ?_
  refine j_iconst (pc := 63) d_Fits_isAsTold_63 ?_
  refine j_icmp_ne (pc := 64) (tgt := 71) d_Fits_isAsTold_64 hr (fun hr => ?_) (fun hr => ?_)
  · refine j_iconst (pc := 71) d_Fits_isAsTold_71 ?_
    exact mJ_weak (ls' := [(9, 0), (2, v1), (2, v2), (0, v3), (0, v4), (0, v5), (0, v6), (9, 0), (9, 0), (9, 0), (0, s0)]) (mwk_s (mwk_s (mwk_s (mwk_s (mwk_s (mwk_s (mwk_s (mwk_s (mwk_s (mwk_d (mwk_s mwk_n))))))))))) (t_Fits_isAsTold_J72 hR3 hr)
  · refine j_iconst (pc := 67) d_Fits_isAsTold_67 ?_
    refine j_goto (pc := 68) (tgt := 72) d_Fits_isAsTold_68 ?_
    exact mJ_weak (ls' := [(9, 0), (2, v1), (2, v2), (0, v3), (0, v4), (0, v5), (0, v6), (9, 0), (9, 0), (9, 0), (0, s0)]) (mwk_s (mwk_s (mwk_s (mwk_s (mwk_s (mwk_s (mwk_s (mwk_s (mwk_s (mwk_d (mwk_s mwk_n))))))))))) (t_Fits_isAsTold_J72 hR3 hr)
theorem t_Fits_isAsTold_J41 {G : mG} {r : mR} {v1 v2 v3 v4 v5 v6 v7 s0 : Int} {h : mH} {R3 : mH → Int → Option mR} (hR3 : ∀ (h : mH) (w6 : Int) , R3 h w6 = some r → mJ G M_Fits_isAsTold 3 [(9, 0), (2, v1), (2, v2), (0, v3), (0, v4), (0, v5), (0, w6), (9, 0), (9, 0), (9, 0), (9, 0)] [] h r) (hr : f_Fits_isAsTold_J41 R3 v4 v6 v7 s0 h = some r) : mJ G M_Fits_isAsTold 41 [(9, 0), (2, v1), (2, v2), (0, v3), (0, v4), (0, v5), (0, v6), (1, v7), (9, 0), (9, 0), (9, 0)] [(0, s0)] h r := by
  unfold f_Fits_isAsTold_J41 at hr
  refine j_istore (pc := 41) (ls' := [(9, 0), (2, v1), (2, v2), (0, v3), (0, v4), (0, v5), (0, v6), (1, v7), (9, 0), (0, s0), (9, 0)]) d_Fits_isAsTold_41 rfl ?_
  refine j_lload (pc := 43) d_Fits_isAsTold_43 rfl ?_
  refine j_lconst (pc := 45) (z := 1) d_Fits_isAsTold_45 ?_
  refine j_land (pc := 46) d_Fits_isAsTold_46 ?_
  refine j_lconst (pc := 47) (z := 1) d_Fits_isAsTold_47 ?_
  refine j_lcmp (pc := 48) d_Fits_isAsTold_48 ?_
  refine j_if_ne (pc := 49) (tgt := 56) d_Fits_isAsTold_49 hr (fun hr => ?_) (fun hr => ?_)
  · refine j_iconst (pc := 56) d_Fits_isAsTold_56 ?_
    exact mJ_weak (ls' := [(9, 0), (2, v1), (2, v2), (0, v3), (0, v4), (0, v5), (0, v6), (9, 0), (9, 0), (0, s0), (9, 0)]) (mwk_s (mwk_s (mwk_s (mwk_s (mwk_s (mwk_s (mwk_s (mwk_d (mwk_s (mwk_s (mwk_s mwk_n))))))))))) (t_Fits_isAsTold_J57 hR3 hr)
  · refine j_iconst (pc := 52) d_Fits_isAsTold_52 ?_
    refine j_goto (pc := 53) (tgt := 57) d_Fits_isAsTold_53 ?_
    exact mJ_weak (ls' := [(9, 0), (2, v1), (2, v2), (0, v3), (0, v4), (0, v5), (0, v6), (9, 0), (9, 0), (0, s0), (9, 0)]) (mwk_s (mwk_s (mwk_s (mwk_s (mwk_s (mwk_s (mwk_s (mwk_d (mwk_s (mwk_s (mwk_s mwk_n))))))))))) (t_Fits_isAsTold_J57 hR3 hr)
theorem t_Fits_isAsTold_L3 {G : mG} {r : mR} {v1 v2 v3 v4 v5 : Int}  : ∀ (n : Nat) (h : mH) (v6 : Int), f_Fits_isAsTold_L3 v1 v2 v3 v4 v5 n h v6 = some r → mJ G M_Fits_isAsTold 3 [(9, 0), (2, v1), (2, v2), (0, v3), (0, v4), (0, v5), (0, v6), (9, 0), (9, 0), (9, 0), (9, 0)] [] h r := by
  intro n
  induction n with
  | zero =>
    intro h v6 hr
    rw [f_Fits_isAsTold_L3] at hr
    cases hr
  | succ n hR3 =>
    intro h v6 hr
    rw [f_Fits_isAsTold_L3] at hr
    refine j_iload (pc := 3) d_Fits_isAsTold_3 rfl ?_
    refine j_aload_n (pc := 5) d_Fits_isAsTold_5 rfl ?_
    refine j_getf (pc := 6) d_Fits_isAsTold_6 (fd_Fits_37 rfl) hr (fun hr => ?_)
    refine j_icmp_ge (pc := 9) (tgt := 93) d_Fits_isAsTold_9 hr (fun hr => ?_) (fun hr => ?_)
    · refine j_iconst (pc := 93) d_Fits_isAsTold_93 ?_
      exact j_zret (pc := 94) d_Fits_isAsTold_94 rfl hr
    · refine j_aload_n (pc := 12) d_Fits_isAsTold_12 rfl ?_
      refine j_getf (pc := 13) d_Fits_isAsTold_13 (fd_Fits_40 rfl) hr (fun hr => ?_)
      refine j_iload (pc := 16) d_Fits_isAsTold_16 rfl ?_
      refine j_laload (pc := 18) d_Fits_isAsTold_18 hr (fun hr => ?_)
      refine j_lstoreW (pc := 19) (L := fun x1 => [(9, 0), (2, v1), (2, v2), (0, v3), (0, v4), (0, v5), (0, v6), (1, x1), (9, 0), (9, 0), (9, 0)]) d_Fits_isAsTold_19 (fun _ => rfl) hr (fun x1 hr => ?_)
      refine j_aload_n (pc := 21) d_Fits_isAsTold_21 rfl ?_
      refine j_lload (pc := 22) d_Fits_isAsTold_22 rfl ?_
      refine j_iconst (pc := 24) d_Fits_isAsTold_24 ?_
      refine j_lshr (pc := 25) d_Fits_isAsTold_25 ?_
      refine j_l2i (pc := 26) d_Fits_isAsTold_26 ?_
      refine j_iload_n (pc := 27) d_Fits_isAsTold_27 rfl ?_
      obtain ⟨ha, hr⟩ := chk_some hr
      refine j_callG (pc := 28) (stk := [(0, v3), (0, w32 (qlshr x1 1)), (2, v1)]) (as := [(2, v1), (0, w32 (qlshr x1 1)), (0, v3)]) (P := (fun v9 => ((0 : Nat), v9) :: [])) (tg := 0) (My := M_Box_placeOf) (mRunV (as := [(0, w32 (qlshr x1 1)), (0, v3)]) (st := []) d_Fits_isAsTold_28 (mc_Box_placeOf (by decide)) rfl (mv_Box_placeOf tb_ml_Fits_44) rfl (Nat.le_of_ble_eq_true rfl) ha) (fun v => rfl) rfl hr (fun r1 h1 => t_Box_placeOf _ _ _ _ _ h1) (fun x3 h2 hr => ?_)
      refine j_iload (pc := 31) d_Fits_isAsTold_31 rfl ?_
      refine j_icmp_ne (pc := 33) (tgt := 40) d_Fits_isAsTold_33 hr (fun hr => ?_) (fun hr => ?_)
      · refine j_iconst (pc := 40) d_Fits_isAsTold_40 ?_
        exact mJ_weak (ls' := [(9, 0), (2, v1), (2, v2), (0, v3), (0, v4), (0, v5), (0, v6), (1, x1), (9, 0), (9, 0), (9, 0)]) (mwk_s (mwk_s (mwk_s (mwk_s (mwk_s (mwk_s (mwk_s (mwk_s (mwk_s (mwk_s (mwk_s mwk_n))))))))))) (t_Fits_isAsTold_J41 hR3 hr)
      · refine j_iconst (pc := 36) d_Fits_isAsTold_36 ?_
        refine j_goto (pc := 37) (tgt := 41) d_Fits_isAsTold_37 ?_
        exact mJ_weak (ls' := [(9, 0), (2, v1), (2, v2), (0, v3), (0, v4), (0, v5), (0, v6), (1, x1), (9, 0), (9, 0), (9, 0)]) (mwk_s (mwk_s (mwk_s (mwk_s (mwk_s (mwk_s (mwk_s (mwk_s (mwk_s (mwk_s (mwk_s mwk_n))))))))))) (t_Fits_isAsTold_J41 hR3 hr)
theorem t_Fits_isAsTold {G : mG} (h : mH) (v0 v1 v2 v3 v4 v5 : Int) (r : mR) (hr : f_Fits_isAsTold h v0 v1 v2 v3 v4 v5 = some r) : mJM G M_Fits_isAsTold [(2, v0), (2, v1), (2, v2), (0, v3), (0, v4), (0, v5)] h r := by
  refine mJM_of (L := [(2, v0), (2, v1), (2, v2), (0, v3), (0, v4), (0, v5), (9, 0), (9, 0), (9, 0), (9, 0), (9, 0)]) rfl rfl rfl (Nat.le_of_ble_eq_true rfl) ?_
  unfold f_Fits_isAsTold at hr
  refine j_iconst (pc := 0) d_Fits_isAsTold_0 ?_
  refine j_istore (pc := 1) (ls' := [(2, v0), (2, v1), (2, v2), (0, v3), (0, v4), (0, v5), (0, 0), (9, 0), (9, 0), (9, 0), (9, 0)]) d_Fits_isAsTold_1 rfl ?_
  refine mJ_weak (ls' := [(9, 0), (2, v1), (2, v2), (0, v3), (0, v4), (0, v5), (0, 0), (9, 0), (9, 0), (9, 0), (9, 0)]) (mwk_d (mwk_s (mwk_s (mwk_s (mwk_s (mwk_s (mwk_s (mwk_s (mwk_s (mwk_s (mwk_s mwk_n))))))))))) (t_Fits_isAsTold_L3  _ _ _ hr)
def M_Fits_find : mM := ("NineBars$Fits", ⟨"NineBars$Fits", "find", "(LNineBars$Box;LNineBars$Tray;I)V"⟩, prog_4_method_2_code, 8, none, [], 5)
theorem tb_co_Fits_find : mTB (Cond.code ⟨"NineBars$Fits", "find", "(LNineBars$Box;LNineBars$Tray;I)V"⟩ prog_4_method_2_code 8 (none)) := tbq6 52 (by decide +kernel) rfl
theorem mc_Fits_find {M : mM} (hd : 5 < mDp M) : mCal M M_Fits_find 3 := ⟨tb_co_Fits_find, tb_in_NineBars_Fits, ⟨by decide +kernel, by decide +kernel⟩, by decide +kernel, hd, by decide⟩
theorem d_Fits_find_0 : decode prog_4_method_2_code 0 = .ok (.aload_n 0, 1) := by decide +kernel
theorem d_Fits_find_1 : decode prog_4_method_2_code 1 = .ok (.iconst 0, 1) := by decide +kernel
theorem tb_fl_Fits_21 : mTB (Cond.fieldLink "NineBars$Fits" 21 "NineBars$Fits" "many" "I") := tbq2 138 (by decide +kernel) rfl
theorem fd_Fits_21 {M : mM} (h : mO M = "NineBars$Fits") : mFld M 21 2 3 0 := ⟨_, _, _, tyX2, rfl, by decide, by decide, rfl, uw_2, tyX2_ok, nmX2, by rw [h]; exact Or.inl tb_fl_Fits_21⟩
theorem d_Fits_find_2 : decode prog_4_method_2_code 2 = .ok (.putfield 21, 3) := by decide +kernel
theorem d_Fits_find_5 : decode prog_4_method_2_code 5 = .ok (.iconst 0, 1) := by decide +kernel
theorem d_Fits_find_6 : decode prog_4_method_2_code 6 = .ok (.istore 4, 2) := by decide +kernel
theorem d_Fits_find_8 : decode prog_4_method_2_code 8 = .ok (.iload 4, 2) := by decide +kernel
theorem d_Fits_find_10 : decode prog_4_method_2_code 10 = .ok (.aload_n 1, 1) := by decide +kernel
theorem tb_fl_Fits_25 : mTN (Cond.fieldLinkNest "NineBars$Fits" 25 "NineBars$Box" "bars" "I" "NineBars") := tbqn1 82 (by decide +kernel) rfl
theorem fd_Fits_25 {M : mM} (h : mO M = "NineBars$Fits") : mFld M 25 0 2 0 := ⟨_, _, _, tyX0, rfl, by decide, by decide, rfl, uw_0, tyX0_ok, nmX0, by rw [h]; exact Or.inr ⟨_, tb_fl_Fits_25⟩⟩
theorem d_Fits_find_11 : decode prog_4_method_2_code 11 = .ok (.getfield 25, 3) := by decide +kernel
theorem d_Fits_find_14 : decode prog_4_method_2_code 14 = .ok (.if_icmp .ge 132, 3) := by decide +kernel
theorem d_Fits_find_146 : decode prog_4_method_2_code 146 = .ok (.return_, 1) := by decide +kernel
theorem d_Fits_find_17 : decode prog_4_method_2_code 17 = .ok (.iconst 0, 1) := by decide +kernel
theorem d_Fits_find_18 : decode prog_4_method_2_code 18 = .ok (.istore 5, 2) := by decide +kernel
theorem d_Fits_find_20 : decode prog_4_method_2_code 20 = .ok (.iload 4, 2) := by decide +kernel
theorem d_Fits_find_22 : decode prog_4_method_2_code 22 = .ok (.iload_n 3, 1) := by decide +kernel
theorem d_Fits_find_23 : decode prog_4_method_2_code 23 = .ok (.if_icmp .eq 117, 3) := by decide +kernel
theorem d_Fits_find_26 : decode prog_4_method_2_code 26 = .ok (.iload 5, 2) := by decide +kernel
theorem d_Fits_find_28 : decode prog_4_method_2_code 28 = .ok (.iconst 2, 1) := by decide +kernel
theorem d_Fits_find_29 : decode prog_4_method_2_code 29 = .ok (.aload_n 1, 1) := by decide +kernel
theorem tb_fl_Fits_30 : mTN (Cond.fieldLinkNest "NineBars$Fits" 30 "NineBars$Box" "places" "[I" "NineBars") := tbqn1 97 (by decide +kernel) rfl
theorem fd_Fits_30 {M : mM} (h : mO M = "NineBars$Fits") : mFld M 30 0 6 2 := ⟨_, _, _, tyX0, rfl, by decide, by decide, rfl, uw_0, tyX0_ok, nmX0, by rw [h]; exact Or.inr ⟨_, tb_fl_Fits_30⟩⟩
theorem d_Fits_find_30 : decode prog_4_method_2_code 30 = .ok (.getfield 30, 3) := by decide +kernel
theorem d_Fits_find_33 : decode prog_4_method_2_code 33 = .ok (.iload 4, 2) := by decide +kernel
theorem d_Fits_find_35 : decode prog_4_method_2_code 35 = .ok (.iaload, 1) := by decide +kernel
theorem d_Fits_find_36 : decode prog_4_method_2_code 36 = .ok (.imul, 1) := by decide +kernel
theorem d_Fits_find_37 : decode prog_4_method_2_code 37 = .ok (.if_icmp .ge 103, 3) := by decide +kernel
theorem d_Fits_find_40 : decode prog_4_method_2_code 40 = .ok (.iload 5, 2) := by decide +kernel
theorem d_Fits_find_42 : decode prog_4_method_2_code 42 = .ok (.aload_n 1, 1) := by decide +kernel
theorem d_Fits_find_43 : decode prog_4_method_2_code 43 = .ok (.getfield 30, 3) := by decide +kernel
theorem d_Fits_find_46 : decode prog_4_method_2_code 46 = .ok (.iload 4, 2) := by decide +kernel
theorem d_Fits_find_48 : decode prog_4_method_2_code 48 = .ok (.iaload, 1) := by decide +kernel
theorem d_Fits_find_49 : decode prog_4_method_2_code 49 = .ok (.if_icmp .ge 7, 3) := by decide +kernel
theorem d_Fits_find_56 : decode prog_4_method_2_code 56 = .ok (.iconst 1, 1) := by decide +kernel
theorem d_Fits_find_57 : decode prog_4_method_2_code 57 = .ok (.istore 6, 2) := by decide +kernel
theorem d_Fits_find_59 : decode prog_4_method_2_code 59 = .ok (.iload 5, 2) := by decide +kernel
theorem d_Fits_find_61 : decode prog_4_method_2_code 61 = .ok (.iload 6, 2) := by decide +kernel
theorem d_Fits_find_63 : decode prog_4_method_2_code 63 = .ok (.aload_n 1, 1) := by decide +kernel
theorem d_Fits_find_64 : decode prog_4_method_2_code 64 = .ok (.getfield 30, 3) := by decide +kernel
theorem d_Fits_find_67 : decode prog_4_method_2_code 67 = .ok (.iload 4, 2) := by decide +kernel
theorem d_Fits_find_69 : decode prog_4_method_2_code 69 = .ok (.iaload, 1) := by decide +kernel
theorem d_Fits_find_70 : decode prog_4_method_2_code 70 = .ok (.imul, 1) := by decide +kernel
theorem d_Fits_find_71 : decode prog_4_method_2_code 71 = .ok (.isub, 1) := by decide +kernel
theorem d_Fits_find_72 : decode prog_4_method_2_code 72 = .ok (.istore 7, 2) := by decide +kernel
theorem d_Fits_find_74 : decode prog_4_method_2_code 74 = .ok (.aload_n 0, 1) := by decide +kernel
theorem d_Fits_find_75 : decode prog_4_method_2_code 75 = .ok (.aload_n 1, 1) := by decide +kernel
theorem d_Fits_find_76 : decode prog_4_method_2_code 76 = .ok (.aload_n 2, 1) := by decide +kernel
theorem d_Fits_find_77 : decode prog_4_method_2_code 77 = .ok (.iload 4, 2) := by decide +kernel
theorem d_Fits_find_79 : decode prog_4_method_2_code 79 = .ok (.iload 6, 2) := by decide +kernel
theorem d_Fits_find_81 : decode prog_4_method_2_code 81 = .ok (.iload 7, 2) := by decide +kernel
theorem d_Fits_find_83 : decode prog_4_method_2_code 83 = .ok (.invokevirtual 33, 3) := by decide +kernel
theorem tb_ml_Fits_33 : mTB (Cond.methodLink "NineBars$Fits" 33 ⟨"NineBars$Fits", "isAsTold", "(LNineBars$Box;LNineBars$Tray;III)Z"⟩) := tbq6 53 (by decide +kernel) rfl
theorem tb_im_Fits_isAsTold : mTB (Cond.instanceMethod ⟨"NineBars$Fits", "isAsTold", "(LNineBars$Box;LNineBars$Tray;III)Z"⟩) := tbq6 55 (by decide +kernel) rfl
theorem tb_se_Fits_isAsTold : mTB (Cond.selects "NineBars$Fits" ⟨"NineBars$Fits", "isAsTold", "(LNineBars$Box;LNineBars$Tray;III)Z"⟩ ⟨"NineBars$Fits", "isAsTold", "(LNineBars$Box;LNineBars$Tray;III)Z"⟩) := tbqp 37 (by decide +kernel) rfl
theorem mv_Fits_isAsTold {M : mM} {idx : Nat} (h : mTB (Cond.methodLink (mO M) idx ⟨"NineBars$Fits", "isAsTold", "(LNineBars$Box;LNineBars$Tray;III)Z"⟩)) : mCaV M M_Fits_isAsTold idx 2 := ⟨h, tb_im_Fits_isAsTold, tb_se_Fits_isAsTold, by decide, TX2, 6, rfl⟩
theorem d_Fits_find_86 : decode prog_4_method_2_code 86 = .ok (.ifCond .eq 48, 3) := by decide +kernel
theorem d_Fits_find_134 : decode prog_4_method_2_code 134 = .ok (.iinc 5 1, 3) := by decide +kernel
theorem d_Fits_find_137 : decode prog_4_method_2_code 137 = .ok (.goto (-117), 3) := by decide +kernel
theorem d_Fits_find_89 : decode prog_4_method_2_code 89 = .ok (.aload_n 0, 1) := by decide +kernel
theorem d_Fits_find_90 : decode prog_4_method_2_code 90 = .ok (.getfield 21, 3) := by decide +kernel
theorem d_Fits_find_93 : decode prog_4_method_2_code 93 = .ok (.aload_n 0, 1) := by decide +kernel
theorem d_Fits_find_94 : decode prog_4_method_2_code 94 = .ok (.getfield 9, 3) := by decide +kernel
theorem d_Fits_find_97 : decode prog_4_method_2_code 97 = .ok (.arraylength, 1) := by decide +kernel
theorem d_Fits_find_98 : decode prog_4_method_2_code 98 = .ok (.if_icmp .ge 36, 3) := by decide +kernel
theorem d_Fits_find_101 : decode prog_4_method_2_code 101 = .ok (.aload_n 0, 1) := by decide +kernel
theorem d_Fits_find_102 : decode prog_4_method_2_code 102 = .ok (.getfield 9, 3) := by decide +kernel
theorem d_Fits_find_105 : decode prog_4_method_2_code 105 = .ok (.aload_n 0, 1) := by decide +kernel
theorem d_Fits_find_106 : decode prog_4_method_2_code 106 = .ok (.getfield 21, 3) := by decide +kernel
theorem d_Fits_find_109 : decode prog_4_method_2_code 109 = .ok (.bipush 100, 2) := by decide +kernel
theorem d_Fits_find_111 : decode prog_4_method_2_code 111 = .ok (.iload 4, 2) := by decide +kernel
theorem d_Fits_find_113 : decode prog_4_method_2_code 113 = .ok (.imul, 1) := by decide +kernel
theorem d_Fits_find_114 : decode prog_4_method_2_code 114 = .ok (.bipush 10, 2) := by decide +kernel
theorem d_Fits_find_116 : decode prog_4_method_2_code 116 = .ok (.iload 6, 2) := by decide +kernel
theorem d_Fits_find_118 : decode prog_4_method_2_code 118 = .ok (.imul, 1) := by decide +kernel
theorem d_Fits_find_119 : decode prog_4_method_2_code 119 = .ok (.iadd, 1) := by decide +kernel
theorem d_Fits_find_120 : decode prog_4_method_2_code 120 = .ok (.iload 7, 2) := by decide +kernel
theorem d_Fits_find_122 : decode prog_4_method_2_code 122 = .ok (.iadd, 1) := by decide +kernel
theorem d_Fits_find_123 : decode prog_4_method_2_code 123 = .ok (.iastore, 1) := by decide +kernel
theorem d_Fits_find_124 : decode prog_4_method_2_code 124 = .ok (.aload_n 0, 1) := by decide +kernel
theorem d_Fits_find_125 : decode prog_4_method_2_code 125 = .ok (.dup, 1) := by decide +kernel
theorem d_Fits_find_126 : decode prog_4_method_2_code 126 = .ok (.getfield 21, 3) := by decide +kernel
theorem d_Fits_find_129 : decode prog_4_method_2_code 129 = .ok (.iconst 1, 1) := by decide +kernel
theorem d_Fits_find_130 : decode prog_4_method_2_code 130 = .ok (.iadd, 1) := by decide +kernel
theorem d_Fits_find_131 : decode prog_4_method_2_code 131 = .ok (.putfield 21, 3) := by decide +kernel
theorem d_Fits_find_52 : decode prog_4_method_2_code 52 = .ok (.iconst 0, 1) := by decide +kernel
theorem d_Fits_find_53 : decode prog_4_method_2_code 53 = .ok (.goto 4, 3) := by decide +kernel
theorem d_Fits_find_140 : decode prog_4_method_2_code 140 = .ok (.iinc 4 1, 3) := by decide +kernel
theorem d_Fits_find_143 : decode prog_4_method_2_code 143 = .ok (.goto (-135), 3) := by decide +kernel
theorem t_Fits_find_J134 {G : mG} {r : mR} {v0 v1 v2 v3 v4 v5 : Int} {h : mH} {R20 : mH → Int → Option mR} (hR20 : ∀ (h : mH) (w5 : Int) , R20 h w5 = some r → mJ G M_Fits_find 20 [(2, v0), (2, v1), (2, v2), (0, v3), (0, v4), (0, w5), (9, 0), (9, 0)] [] h r) (hr : f_Fits_find_J134 R20 v5 h = some r) : mJ G M_Fits_find 134 [(2, v0), (2, v1), (2, v2), (0, v3), (0, v4), (0, v5), (9, 0), (9, 0)] [] h r := by
  unfold f_Fits_find_J134 at hr
  refine j_iincW (pc := 134) (L := fun x1 => [(2, v0), (2, v1), (2, v2), (0, v3), (0, v4), (0, x1), (9, 0), (9, 0)]) d_Fits_find_134 rfl (fun _ => rfl) hr (fun x1 hr => ?_)
  refine j_goto (pc := 137) (tgt := 20) d_Fits_find_137 ?_
  exact mJ_weak (ls' := [(2, v0), (2, v1), (2, v2), (0, v3), (0, v4), (0, x1), (9, 0), (9, 0)]) (mwk_s (mwk_s (mwk_s (mwk_s (mwk_s (mwk_s (mwk_s (mwk_s mwk_n)))))))) (hR20 h _ hr)
theorem t_Fits_find_J57 {G : mG} {r : mR} {v0 v1 v2 v3 v4 v5 s0 : Int} {h : mH} {R20 : mH → Int → Option mR} (hR20 : ∀ (h : mH) (w5 : Int) , R20 h w5 = some r → mJ G M_Fits_find 20 [(2, v0), (2, v1), (2, v2), (0, v3), (0, v4), (0, w5), (9, 0), (9, 0)] [] h r) (hr : f_Fits_find_J57 R20 v0 v1 v2 v4 v5 s0 h = some r) : mJ G M_Fits_find 57 [(2, v0), (2, v1), (2, v2), (0, v3), (0, v4), (0, v5), (9, 0), (9, 0)] [(0, s0)] h r := by
  unfold f_Fits_find_J57 at hr
  refine j_istore (pc := 57) (ls' := [(2, v0), (2, v1), (2, v2), (0, v3), (0, v4), (0, v5), (0, s0), (9, 0)]) d_Fits_find_57 rfl ?_
  refine j_iload (pc := 59) d_Fits_find_59 rfl ?_
  refine j_iload (pc := 61) d_Fits_find_61 rfl ?_
  refine j_aload_n (pc := 63) d_Fits_find_63 rfl ?_
  refine j_getf (pc := 64) d_Fits_find_64 (fd_Fits_30 rfl) hr (fun hr => ?_)
  refine j_iload (pc := 67) d_Fits_find_67 rfl ?_
  refine j_iaload (pc := 69) d_Fits_find_69 hr (fun hr => ?_)
  refine j_imul (pc := 70) d_Fits_find_70 ?_
  refine j_isub (pc := 71) d_Fits_find_71 ?_
  refine j_istoreW (pc := 72) (L := fun x1 => [(2, v0), (2, v1), (2, v2), (0, v3), (0, v4), (0, v5), (0, s0), (0, x1)]) d_Fits_find_72 (fun _ => rfl) hr (fun x1 hr => ?_)
  refine j_aload_n (pc := 74) d_Fits_find_74 rfl ?_
  refine j_aload_n (pc := 75) d_Fits_find_75 rfl ?_
  refine j_aload_n (pc := 76) d_Fits_find_76 rfl ?_
  refine j_iload (pc := 77) d_Fits_find_77 rfl ?_
  refine j_iload (pc := 79) d_Fits_find_79 rfl ?_
  refine j_iload (pc := 81) d_Fits_find_81 rfl ?_
  obtain ⟨ha, hr⟩ := chk_some hr
  refine j_callG (pc := 83) (stk := [(0, x1), (0, s0), (0, v4), (2, v2), (2, v1), (2, v0)]) (as := [(2, v0), (2, v1), (2, v2), (0, v4), (0, s0), (0, x1)]) (P := (fun v9 => ((0 : Nat), v9) :: [])) (tg := 0) (My := M_Fits_isAsTold) (mRunV (as := [(2, v1), (2, v2), (0, v4), (0, s0), (0, x1)]) (st := []) d_Fits_find_83 (mc_Fits_isAsTold (by decide)) rfl (mv_Fits_isAsTold tb_ml_Fits_33) rfl (Nat.le_of_ble_eq_true rfl) ha) (fun v => rfl) rfl hr (fun r1 h1 => t_Fits_isAsTold _ _ _ _ _ _ _ _ h1) (fun x3 h2 hr => ?_)
  refine j_if_eq (pc := 86) (tgt := 134) d_Fits_find_86 hr (fun hr => ?_) (fun hr => ?_)
  · exact mJ_weak (ls' := [(2, v0), (2, v1), (2, v2), (0, v3), (0, v4), (0, v5), (9, 0), (9, 0)]) (mwk_s (mwk_s (mwk_s (mwk_s (mwk_s (mwk_s (mwk_d (mwk_d mwk_n)))))))) (t_Fits_find_J134 hR20 hr)
  · refine j_aload_n (pc := 89) d_Fits_find_89 rfl ?_
    refine j_getf (pc := 90) d_Fits_find_90 (fd_Fits_21 rfl) hr (fun hr => ?_)
    refine j_aload_n (pc := 93) d_Fits_find_93 rfl ?_
    refine j_getf (pc := 94) d_Fits_find_94 (fd_Fits_9 rfl) hr (fun hr => ?_)
    refine j_alen (pc := 97) d_Fits_find_97 hr (fun hr => ?_)
    refine j_icmp_ge (pc := 98) (tgt := 134) d_Fits_find_98 hr (fun hr => ?_) (fun hr => ?_)
    · exact mJ_weak (ls' := [(2, v0), (2, v1), (2, v2), (0, v3), (0, v4), (0, v5), (9, 0), (9, 0)]) (mwk_s (mwk_s (mwk_s (mwk_s (mwk_s (mwk_s (mwk_d (mwk_d mwk_n)))))))) (t_Fits_find_J134 hR20 hr)
    · refine j_aload_n (pc := 101) d_Fits_find_101 rfl ?_
      refine j_getf (pc := 102) d_Fits_find_102 (fd_Fits_9 rfl) hr (fun hr => ?_)
      refine j_aload_n (pc := 105) d_Fits_find_105 rfl ?_
      refine j_getf (pc := 106) d_Fits_find_106 (fd_Fits_21 rfl) hr (fun hr => ?_)
      refine j_bipush (pc := 109) d_Fits_find_109 ?_
      refine j_iload (pc := 111) d_Fits_find_111 rfl ?_
      refine j_imul (pc := 113) d_Fits_find_113 ?_
      refine j_bipush (pc := 114) d_Fits_find_114 ?_
      refine j_iload (pc := 116) d_Fits_find_116 rfl ?_
      refine j_imul (pc := 118) d_Fits_find_118 ?_
      refine j_iadd (pc := 119) d_Fits_find_119 ?_
      refine j_iload (pc := 120) d_Fits_find_120 rfl ?_
      refine j_iadd (pc := 122) d_Fits_find_122 ?_
      refine j_iastore (pc := 123) d_Fits_find_123 hr (fun h4 hr => ?_)
      refine j_aload_n (pc := 124) d_Fits_find_124 rfl ?_
      refine j_dup (pc := 125) d_Fits_find_125 ?_
      refine j_getf (pc := 126) d_Fits_find_126 (fd_Fits_21 rfl) hr (fun hr => ?_)
      refine j_iconst (pc := 129) d_Fits_find_129 ?_
      refine j_iadd (pc := 130) d_Fits_find_130 ?_
      refine j_puti (pc := 131) d_Fits_find_131 (fd_Fits_21 rfl) (⟨_, _, _, rfl, Or.inl rfl, rfl⟩ : mFldW M_Fits_find 21 2 3 .int) hr (fun h5 hr => ?_)
      exact mJ_weak (ls' := [(2, v0), (2, v1), (2, v2), (0, v3), (0, v4), (0, v5), (9, 0), (9, 0)]) (mwk_s (mwk_s (mwk_s (mwk_s (mwk_s (mwk_s (mwk_d (mwk_d mwk_n)))))))) (t_Fits_find_J134 hR20 hr)
theorem t_Fits_find_L20 {G : mG} {r : mR} {v0 v1 v2 v3 v4 : Int} {K140 : mH → Option mR} (hK140 : ∀ (h : mH) , K140 h  = some r → mJ G M_Fits_find 140 [(2, v0), (2, v1), (2, v2), (0, v3), (0, v4), (9, 0), (9, 0), (9, 0)] [] h r) : ∀ (n : Nat) (h : mH) (v5 : Int), f_Fits_find_L20 K140 v0 v1 v2 v3 v4 n h v5 = some r → mJ G M_Fits_find 20 [(2, v0), (2, v1), (2, v2), (0, v3), (0, v4), (0, v5), (9, 0), (9, 0)] [] h r := by
  intro n
  induction n with
  | zero =>
    intro h v5 hr
    rw [f_Fits_find_L20] at hr
    cases hr
  | succ n hR20 =>
    intro h v5 hr
    rw [f_Fits_find_L20] at hr
    refine j_iload (pc := 20) d_Fits_find_20 rfl ?_
    refine j_iload_n (pc := 22) d_Fits_find_22 rfl ?_
    refine j_icmp_eq (pc := 23) (tgt := 140) d_Fits_find_23 hr (fun hr => ?_) (fun hr => ?_)
    · exact mJ_weak (ls' := [(2, v0), (2, v1), (2, v2), (0, v3), (0, v4), (9, 0), (9, 0), (9, 0)]) (mwk_s (mwk_s (mwk_s (mwk_s (mwk_s (mwk_d (mwk_s (mwk_s mwk_n)))))))) (hK140 h  hr)
    · refine j_iload (pc := 26) d_Fits_find_26 rfl ?_
      refine j_iconst (pc := 28) d_Fits_find_28 ?_
      refine j_aload_n (pc := 29) d_Fits_find_29 rfl ?_
      refine j_getf (pc := 30) d_Fits_find_30 (fd_Fits_30 rfl) hr (fun hr => ?_)
      refine j_iload (pc := 33) d_Fits_find_33 rfl ?_
      refine j_iaload (pc := 35) d_Fits_find_35 hr (fun hr => ?_)
      refine j_imul (pc := 36) d_Fits_find_36 ?_
      refine j_icmp_ge (pc := 37) (tgt := 140) d_Fits_find_37 hr (fun hr => ?_) (fun hr => ?_)
      · exact mJ_weak (ls' := [(2, v0), (2, v1), (2, v2), (0, v3), (0, v4), (9, 0), (9, 0), (9, 0)]) (mwk_s (mwk_s (mwk_s (mwk_s (mwk_s (mwk_d (mwk_s (mwk_s mwk_n)))))))) (hK140 h  hr)
      · refine j_iload (pc := 40) d_Fits_find_40 rfl ?_
        refine j_aload_n (pc := 42) d_Fits_find_42 rfl ?_
        refine j_getf (pc := 43) d_Fits_find_43 (fd_Fits_30 rfl) hr (fun hr => ?_)
        refine j_iload (pc := 46) d_Fits_find_46 rfl ?_
        refine j_iaload (pc := 48) d_Fits_find_48 hr (fun hr => ?_)
        refine j_icmp_ge (pc := 49) (tgt := 56) d_Fits_find_49 hr (fun hr => ?_) (fun hr => ?_)
        · refine j_iconst (pc := 56) d_Fits_find_56 ?_
          exact mJ_weak (ls' := [(2, v0), (2, v1), (2, v2), (0, v3), (0, v4), (0, v5), (9, 0), (9, 0)]) (mwk_s (mwk_s (mwk_s (mwk_s (mwk_s (mwk_s (mwk_s (mwk_s mwk_n)))))))) (t_Fits_find_J57 hR20 hr)
        · refine j_iconst (pc := 52) d_Fits_find_52 ?_
          refine j_goto (pc := 53) (tgt := 57) d_Fits_find_53 ?_
          exact mJ_weak (ls' := [(2, v0), (2, v1), (2, v2), (0, v3), (0, v4), (0, v5), (9, 0), (9, 0)]) (mwk_s (mwk_s (mwk_s (mwk_s (mwk_s (mwk_s (mwk_s (mwk_s mwk_n)))))))) (t_Fits_find_J57 hR20 hr)
theorem t_Fits_find_J140 {G : mG} {r : mR} {v0 v1 v2 v3 v4 : Int} {h : mH} {R8 : mH → Int → Option mR} (hR8 : ∀ (h : mH) (w4 : Int) , R8 h w4 = some r → mJ G M_Fits_find 8 [(2, v0), (2, v1), (2, v2), (0, v3), (0, w4), (9, 0), (9, 0), (9, 0)] [] h r) (hr : f_Fits_find_J140 R8 v4 h = some r) : mJ G M_Fits_find 140 [(2, v0), (2, v1), (2, v2), (0, v3), (0, v4), (9, 0), (9, 0), (9, 0)] [] h r := by
  unfold f_Fits_find_J140 at hr
  refine j_iincW (pc := 140) (L := fun x1 => [(2, v0), (2, v1), (2, v2), (0, v3), (0, x1), (9, 0), (9, 0), (9, 0)]) d_Fits_find_140 rfl (fun _ => rfl) hr (fun x1 hr => ?_)
  refine j_goto (pc := 143) (tgt := 8) d_Fits_find_143 ?_
  exact mJ_weak (ls' := [(2, v0), (2, v1), (2, v2), (0, v3), (0, x1), (9, 0), (9, 0), (9, 0)]) (mwk_s (mwk_s (mwk_s (mwk_s (mwk_s (mwk_s (mwk_s (mwk_s mwk_n)))))))) (hR8 h _ hr)
theorem t_Fits_find_L8 {G : mG} {r : mR} {v0 v1 v2 v3 : Int}  : ∀ (n : Nat) (h : mH) (v4 : Int), f_Fits_find_L8 v0 v1 v2 v3 n h v4 = some r → mJ G M_Fits_find 8 [(2, v0), (2, v1), (2, v2), (0, v3), (0, v4), (9, 0), (9, 0), (9, 0)] [] h r := by
  intro n
  induction n with
  | zero =>
    intro h v4 hr
    rw [f_Fits_find_L8] at hr
    cases hr
  | succ n hR8 =>
    intro h v4 hr
    rw [f_Fits_find_L8] at hr
    refine j_iload (pc := 8) d_Fits_find_8 rfl ?_
    refine j_aload_n (pc := 10) d_Fits_find_10 rfl ?_
    refine j_getf (pc := 11) d_Fits_find_11 (fd_Fits_25 rfl) hr (fun hr => ?_)
    refine j_icmp_ge (pc := 14) (tgt := 146) d_Fits_find_14 hr (fun hr => ?_) (fun hr => ?_)
    · exact j_vret (pc := 146) d_Fits_find_146 rfl hr
    · refine j_iconst (pc := 17) d_Fits_find_17 ?_
      refine j_istore (pc := 18) (ls' := [(2, v0), (2, v1), (2, v2), (0, v3), (0, v4), (0, 0), (9, 0), (9, 0)]) d_Fits_find_18 rfl ?_
      refine mJ_weak (ls' := [(2, v0), (2, v1), (2, v2), (0, v3), (0, v4), (0, 0), (9, 0), (9, 0)]) (mwk_s (mwk_s (mwk_s (mwk_s (mwk_s (mwk_s (mwk_s (mwk_s mwk_n)))))))) (t_Fits_find_L20 (fun h1  hr => ?_) _ _ _ hr)
      · exact mJ_weak (ls' := [(2, v0), (2, v1), (2, v2), (0, v3), (0, v4), (9, 0), (9, 0), (9, 0)]) (mwk_s (mwk_s (mwk_s (mwk_s (mwk_s (mwk_s (mwk_s (mwk_s mwk_n)))))))) (t_Fits_find_J140 hR8 hr)
theorem t_Fits_find {G : mG} (h : mH) (v0 v1 v2 v3 : Int) (r : mR) (hr : f_Fits_find h v0 v1 v2 v3 = some r) : mJM G M_Fits_find [(2, v0), (2, v1), (2, v2), (0, v3)] h r := by
  refine mJM_of (L := [(2, v0), (2, v1), (2, v2), (0, v3), (9, 0), (9, 0), (9, 0), (9, 0)]) rfl rfl rfl (Nat.le_of_ble_eq_true rfl) ?_
  unfold f_Fits_find at hr
  refine j_aload_n (pc := 0) d_Fits_find_0 rfl ?_
  refine j_iconst (pc := 1) d_Fits_find_1 ?_
  refine j_puti (pc := 2) d_Fits_find_2 (fd_Fits_21 rfl) (⟨_, _, _, rfl, Or.inl rfl, rfl⟩ : mFldW M_Fits_find 21 2 3 .int) hr (fun h1 hr => ?_)
  refine j_iconst (pc := 5) d_Fits_find_5 ?_
  refine j_istore (pc := 6) (ls' := [(2, v0), (2, v1), (2, v2), (0, v3), (0, 0), (9, 0), (9, 0), (9, 0)]) d_Fits_find_6 rfl ?_
  refine mJ_weak (ls' := [(2, v0), (2, v1), (2, v2), (0, v3), (0, 0), (9, 0), (9, 0), (9, 0)]) (mwk_s (mwk_s (mwk_s (mwk_s (mwk_s (mwk_s (mwk_s (mwk_s mwk_n)))))))) (t_Fits_find_L8  _ _ _ hr)
def M_Tray_allBelow : mM := ("NineBars$Tray", ⟨"NineBars$Tray", "allBelow", "(J)Z"⟩, prog_11_method_4_code, 4, some .boolean, [], 1)
theorem tb_co_Tray_allBelow : mTB (Cond.code ⟨"NineBars$Tray", "allBelow", "(J)Z"⟩ prog_11_method_4_code 4 (some .boolean)) := tbq6 47 (by decide +kernel) rfl
theorem mc_Tray_allBelow {M : mM} (hd : 1 < mDp M) : mCal M M_Tray_allBelow 1 := ⟨tb_co_Tray_allBelow, tb_in_NineBars_Tray, ⟨by decide +kernel, by decide +kernel⟩, by decide +kernel, hd, by decide⟩
theorem d_Tray_allBelow_0 : decode prog_11_method_4_code 0 = .ok (.iconst 0, 1) := by decide +kernel
theorem d_Tray_allBelow_1 : decode prog_11_method_4_code 1 = .ok (.istore_n 3, 1) := by decide +kernel
theorem d_Tray_allBelow_2 : decode prog_11_method_4_code 2 = .ok (.iload_n 3, 1) := by decide +kernel
theorem d_Tray_allBelow_3 : decode prog_11_method_4_code 3 = .ok (.aload_n 0, 1) := by decide +kernel
theorem d_Tray_allBelow_4 : decode prog_11_method_4_code 4 = .ok (.getfield 15, 3) := by decide +kernel
theorem d_Tray_allBelow_7 : decode prog_11_method_4_code 7 = .ok (.if_icmp .ge 33, 3) := by decide +kernel
theorem d_Tray_allBelow_40 : decode prog_11_method_4_code 40 = .ok (.iconst 1, 1) := by decide +kernel
theorem d_Tray_allBelow_41 : decode prog_11_method_4_code 41 = .ok (.ireturn, 1) := by decide +kernel
theorem d_Tray_allBelow_10 : decode prog_11_method_4_code 10 = .ok (.aload_n 0, 1) := by decide +kernel
theorem d_Tray_allBelow_11 : decode prog_11_method_4_code 11 = .ok (.getfield 9, 3) := by decide +kernel
theorem d_Tray_allBelow_14 : decode prog_11_method_4_code 14 = .ok (.iload_n 3, 1) := by decide +kernel
theorem d_Tray_allBelow_15 : decode prog_11_method_4_code 15 = .ok (.laload, 1) := by decide +kernel
theorem d_Tray_allBelow_16 : decode prog_11_method_4_code 16 = .ok (.lconst 0, 1) := by decide +kernel
theorem d_Tray_allBelow_17 : decode prog_11_method_4_code 17 = .ok (.lcmp, 1) := by decide +kernel
theorem d_Tray_allBelow_18 : decode prog_11_method_4_code 18 = .ok (.ifCond .lt 14, 3) := by decide +kernel
theorem d_Tray_allBelow_32 : decode prog_11_method_4_code 32 = .ok (.iconst 0, 1) := by decide +kernel
theorem d_Tray_allBelow_33 : decode prog_11_method_4_code 33 = .ok (.ireturn, 1) := by decide +kernel
theorem d_Tray_allBelow_21 : decode prog_11_method_4_code 21 = .ok (.aload_n 0, 1) := by decide +kernel
theorem d_Tray_allBelow_22 : decode prog_11_method_4_code 22 = .ok (.getfield 9, 3) := by decide +kernel
theorem d_Tray_allBelow_25 : decode prog_11_method_4_code 25 = .ok (.iload_n 3, 1) := by decide +kernel
theorem d_Tray_allBelow_26 : decode prog_11_method_4_code 26 = .ok (.laload, 1) := by decide +kernel
theorem d_Tray_allBelow_27 : decode prog_11_method_4_code 27 = .ok (.lload_n 1, 1) := by decide +kernel
theorem d_Tray_allBelow_28 : decode prog_11_method_4_code 28 = .ok (.lcmp, 1) := by decide +kernel
theorem d_Tray_allBelow_29 : decode prog_11_method_4_code 29 = .ok (.ifCond .lt 5, 3) := by decide +kernel
theorem d_Tray_allBelow_34 : decode prog_11_method_4_code 34 = .ok (.iinc 3 1, 3) := by decide +kernel
theorem d_Tray_allBelow_37 : decode prog_11_method_4_code 37 = .ok (.goto (-35), 3) := by decide +kernel
theorem t_Tray_allBelow_L2 {G : mG} {r : mR} {v0 v1 : Int}  : ∀ (n : Nat) (h : mH) (v3 : Int), f_Tray_allBelow_L2 v0 v1 n h v3 = some r → mJ G M_Tray_allBelow 2 [(2, v0), (1, v1), (9, 0), (0, v3)] [] h r := by
  intro n
  induction n with
  | zero =>
    intro h v3 hr
    rw [f_Tray_allBelow_L2] at hr
    cases hr
  | succ n hR2 =>
    intro h v3 hr
    rw [f_Tray_allBelow_L2] at hr
    refine j_iload_n (pc := 2) d_Tray_allBelow_2 rfl ?_
    refine j_aload_n (pc := 3) d_Tray_allBelow_3 rfl ?_
    refine j_getf (pc := 4) d_Tray_allBelow_4 (fd_Tray_15 rfl) hr (fun hr => ?_)
    refine j_icmp_ge (pc := 7) (tgt := 40) d_Tray_allBelow_7 hr (fun hr => ?_) (fun hr => ?_)
    · refine j_iconst (pc := 40) d_Tray_allBelow_40 ?_
      exact j_zret (pc := 41) d_Tray_allBelow_41 rfl hr
    · refine j_aload_n (pc := 10) d_Tray_allBelow_10 rfl ?_
      refine j_getf (pc := 11) d_Tray_allBelow_11 (fd_Tray_9 rfl) hr (fun hr => ?_)
      refine j_iload_n (pc := 14) d_Tray_allBelow_14 rfl ?_
      refine j_laload (pc := 15) d_Tray_allBelow_15 hr (fun hr => ?_)
      refine j_lconst (pc := 16) (z := 0) d_Tray_allBelow_16 ?_
      refine j_lcmp (pc := 17) d_Tray_allBelow_17 ?_
      refine j_if_lt (pc := 18) (tgt := 32) d_Tray_allBelow_18 hr (fun hr => ?_) (fun hr => ?_)
      · refine j_iconst (pc := 32) d_Tray_allBelow_32 ?_
        exact j_zret (pc := 33) d_Tray_allBelow_33 rfl hr
      · refine j_aload_n (pc := 21) d_Tray_allBelow_21 rfl ?_
        refine j_getf (pc := 22) d_Tray_allBelow_22 (fd_Tray_9 rfl) hr (fun hr => ?_)
        refine j_iload_n (pc := 25) d_Tray_allBelow_25 rfl ?_
        refine j_laload (pc := 26) d_Tray_allBelow_26 hr (fun hr => ?_)
        refine j_lload_n (pc := 27) d_Tray_allBelow_27 rfl ?_
        refine j_lcmp (pc := 28) d_Tray_allBelow_28 ?_
        refine j_if_lt (pc := 29) (tgt := 34) d_Tray_allBelow_29 hr (fun hr => ?_) (fun hr => ?_)
        · refine j_iincW (pc := 34) (L := fun x1 => [(2, v0), (1, v1), (9, 0), (0, x1)]) d_Tray_allBelow_34 rfl (fun _ => rfl) hr (fun x1 hr => ?_)
          refine j_goto (pc := 37) (tgt := 2) d_Tray_allBelow_37 ?_
          exact mJ_weak (ls' := [(2, v0), (1, v1), (9, 0), (0, x1)]) (mwk_s (mwk_s (mwk_s (mwk_s mwk_n)))) (hR2 h _ hr)
        · refine j_iconst (pc := 32) d_Tray_allBelow_32 ?_
          exact j_zret (pc := 33) d_Tray_allBelow_33 rfl hr
theorem t_Tray_allBelow {G : mG} (h : mH) (v0 v1 : Int) (r : mR) (hr : f_Tray_allBelow h v0 v1 = some r) : mJM G M_Tray_allBelow [(2, v0), (1, v1)] h r := by
  refine mJM_of (L := [(2, v0), (1, v1), (9, 0), (9, 0)]) rfl rfl rfl (Nat.le_of_ble_eq_true rfl) ?_
  unfold f_Tray_allBelow at hr
  refine j_iconst (pc := 0) d_Tray_allBelow_0 ?_
  refine j_istore_n (pc := 1) (ls' := [(2, v0), (1, v1), (9, 0), (0, 0)]) d_Tray_allBelow_1 rfl ?_
  refine mJ_weak (ls' := [(2, v0), (1, v1), (9, 0), (0, 0)]) (mwk_s (mwk_s (mwk_s (mwk_s mwk_n)))) (t_Tray_allBelow_L2  _ _ _ hr)
def M_Nb_findFits : mM := ("NineBars", ⟨"NineBars", "findFits", "(II)V"⟩, prog_1_method_61_code, 4, none, [], 7)
theorem tb_co_Nb_findFits : mTB (Cond.code ⟨"NineBars", "findFits", "(II)V"⟩ prog_1_method_61_code 4 (none)) := tbq6 42 (by decide +kernel) rfl
theorem mc_Nb_findFits {M : mM} (hd : 7 < mDp M) : mCal M M_Nb_findFits 2 := ⟨tb_co_Nb_findFits, tb_in_NineBars, ⟨by decide +kernel, by decide +kernel⟩, by decide +kernel, hd, by decide⟩
theorem d_Nb_findFits_0 : decode prog_1_method_61_code 0 = .ok (.aload_n 0, 1) := by decide +kernel
theorem d_Nb_findFits_1 : decode prog_1_method_61_code 1 = .ok (.iload_n 1, 1) := by decide +kernel
theorem d_Nb_findFits_2 : decode prog_1_method_61_code 2 = .ok (.iconst 1, 1) := by decide +kernel
theorem d_Nb_findFits_3 : decode prog_1_method_61_code 3 = .ok (.ishr, 1) := by decide +kernel
theorem d_Nb_findFits_4 : decode prog_1_method_61_code 4 = .ok (.invokevirtual 142, 3) := by decide +kernel
theorem d_Nb_findFits_7 : decode prog_1_method_61_code 7 = .ok (.aload_n 0, 1) := by decide +kernel
theorem d_Nb_findFits_8 : decode prog_1_method_61_code 8 = .ok (.iload_n 2, 1) := by decide +kernel
theorem d_Nb_findFits_9 : decode prog_1_method_61_code 9 = .ok (.invokevirtual 228, 3) := by decide +kernel
theorem d_Nb_findFits_12 : decode prog_1_method_61_code 12 = .ok (.astore_n 3, 1) := by decide +kernel
theorem d_Nb_findFits_13 : decode prog_1_method_61_code 13 = .ok (.aload_n 0, 1) := by decide +kernel
theorem d_Nb_findFits_14 : decode prog_1_method_61_code 14 = .ok (.invokevirtual 205, 3) := by decide +kernel
theorem d_Nb_findFits_17 : decode prog_1_method_61_code 17 = .ok (.aload_n 3, 1) := by decide +kernel
theorem tb_cj_Nb_464 : mTB (Cond.constantLong "NineBars" 464 2) := tbq6 43 (by decide +kernel) rfl
theorem d_Nb_findFits_18 : decode prog_1_method_61_code 18 = .ok (.ldc2_w 464, 3) := by decide +kernel
theorem d_Nb_findFits_21 : decode prog_1_method_61_code 21 = .ok (.aload_n 0, 1) := by decide +kernel
theorem d_Nb_findFits_22 : decode prog_1_method_61_code 22 = .ok (.getfield 27, 3) := by decide +kernel
theorem d_Nb_findFits_25 : decode prog_1_method_61_code 25 = .ok (.invokevirtual 327, 3) := by decide +kernel
theorem d_Nb_findFits_28 : decode prog_1_method_61_code 28 = .ok (.i2l, 1) := by decide +kernel
theorem d_Nb_findFits_29 : decode prog_1_method_61_code 29 = .ok (.lmul, 1) := by decide +kernel
theorem d_Nb_findFits_30 : decode prog_1_method_61_code 30 = .ok (.invokevirtual 466, 3) := by decide +kernel
theorem tb_ml_Nb_466 : mTB (Cond.methodLink "NineBars" 466 ⟨"NineBars$Tray", "allBelow", "(J)Z"⟩) := tbq6 44 (by decide +kernel) rfl
theorem tb_im_Tray_allBelow : mTB (Cond.instanceMethod ⟨"NineBars$Tray", "allBelow", "(J)Z"⟩) := tbq6 45 (by decide +kernel) rfl
theorem tb_se_Tray_allBelow : mTB (Cond.selects "NineBars$Tray" ⟨"NineBars$Tray", "allBelow", "(J)Z"⟩ ⟨"NineBars$Tray", "allBelow", "(J)Z"⟩) := tbq6 46 (by decide +kernel) rfl
theorem mv_Tray_allBelow {M : mM} {idx : Nat} (h : mTB (Cond.methodLink (mO M) idx ⟨"NineBars$Tray", "allBelow", "(J)Z"⟩)) : mCaV M M_Tray_allBelow idx 9 := ⟨h, tb_im_Tray_allBelow, tb_se_Tray_allBelow, by decide, TX9, 3, rfl⟩
theorem d_Nb_findFits_33 : decode prog_1_method_61_code 33 = .ok (.ifCond .ne 14, 3) := by decide +kernel
theorem d_Nb_findFits_47 : decode prog_1_method_61_code 47 = .ok (.aload_n 0, 1) := by decide +kernel
theorem d_Nb_findFits_48 : decode prog_1_method_61_code 48 = .ok (.getfield 98, 3) := by decide +kernel
theorem d_Nb_findFits_51 : decode prog_1_method_61_code 51 = .ok (.aload_n 0, 1) := by decide +kernel
theorem d_Nb_findFits_52 : decode prog_1_method_61_code 52 = .ok (.getfield 27, 3) := by decide +kernel
theorem d_Nb_findFits_55 : decode prog_1_method_61_code 55 = .ok (.aload_n 3, 1) := by decide +kernel
theorem d_Nb_findFits_56 : decode prog_1_method_61_code 56 = .ok (.iload_n 1, 1) := by decide +kernel
theorem d_Nb_findFits_57 : decode prog_1_method_61_code 57 = .ok (.iconst 1, 1) := by decide +kernel
theorem d_Nb_findFits_58 : decode prog_1_method_61_code 58 = .ok (.ishr, 1) := by decide +kernel
theorem d_Nb_findFits_59 : decode prog_1_method_61_code 59 = .ok (.invokevirtual 472, 3) := by decide +kernel
theorem tb_ml_Nb_472 : mTB (Cond.methodLink "NineBars" 472 ⟨"NineBars$Fits", "find", "(LNineBars$Box;LNineBars$Tray;I)V"⟩) := tbq6 49 (by decide +kernel) rfl
theorem tb_im_Fits_find : mTB (Cond.instanceMethod ⟨"NineBars$Fits", "find", "(LNineBars$Box;LNineBars$Tray;I)V"⟩) := tbq6 50 (by decide +kernel) rfl
theorem tb_se_Fits_find : mTB (Cond.selects "NineBars$Fits" ⟨"NineBars$Fits", "find", "(LNineBars$Box;LNineBars$Tray;I)V"⟩ ⟨"NineBars$Fits", "find", "(LNineBars$Box;LNineBars$Tray;I)V"⟩) := tbq6 51 (by decide +kernel) rfl
theorem mv_Fits_find {M : mM} {idx : Nat} (h : mTB (Cond.methodLink (mO M) idx ⟨"NineBars$Fits", "find", "(LNineBars$Box;LNineBars$Tray;I)V"⟩)) : mCaV M M_Fits_find idx 2 := ⟨h, tb_im_Fits_find, tb_se_Fits_find, by decide, TX2, 6, rfl⟩
theorem d_Nb_findFits_62 : decode prog_1_method_61_code 62 = .ok (.return_, 1) := by decide +kernel
theorem d_Nb_findFits_36 : decode prog_1_method_61_code 36 = .ok (.new 109, 3) := by decide +kernel
theorem d_Nb_findFits_39 : decode prog_1_method_61_code 39 = .ok (.dup, 1) := by decide +kernel
theorem d_Nb_findFits_40 : decode prog_1_method_61_code 40 = .ok (.ldc_w 470, 3) := by decide +kernel
theorem d_Nb_findFits_43 : decode prog_1_method_61_code 43 = .ok (.invokespecial 113, 3) := by decide +kernel
theorem d_Nb_findFits_46 : decode prog_1_method_61_code 46 = .ok (.athrow, 1) := by decide +kernel
theorem t_Nb_findFits {G : mG} (h : mH) (v0 v1 v2 : Int) (r : mR) (hr : f_Nb_findFits h v0 v1 v2 = some r) : mJM G M_Nb_findFits [(2, v0), (0, v1), (0, v2)] h r := by
  refine mJM_of (L := [(2, v0), (0, v1), (0, v2), (9, 0)]) rfl rfl rfl (Nat.le_of_ble_eq_true rfl) ?_
  unfold f_Nb_findFits at hr
  refine j_aload_n (pc := 0) d_Nb_findFits_0 rfl ?_
  refine j_iload_n (pc := 1) d_Nb_findFits_1 rfl ?_
  refine j_iconst (pc := 2) d_Nb_findFits_2 ?_
  refine j_ishr (pc := 3) d_Nb_findFits_3 ?_
  obtain ⟨ha, hr⟩ := chk_some hr
  refine j_callG (pc := 4) (stk := [(0, qshr v1 1), (2, v0)]) (as := [(2, v0), (0, qshr v1 1)]) (P := (fun v9 => [])) (tg := 3) (My := M_Nb_needBar) (mRunV (as := [(0, qshr v1 1)]) (st := []) d_Nb_findFits_4 (mc_Nb_needBar (by decide)) rfl (mv_Nb_needBar tb_ml_Nb_142) rfl (Nat.le_of_ble_eq_true rfl) ha) (fun v => rfl) rfl hr (fun r1 h1 => t_Nb_needBar _ _ _ _ h1) (fun x2 h1 hr => ?_)
  refine j_aload_n (pc := 7) d_Nb_findFits_7 rfl ?_
  refine j_iload_n (pc := 8) d_Nb_findFits_8 rfl ?_
  obtain ⟨ha, hr⟩ := chk_some hr
  refine j_callG (pc := 9) (stk := [(0, v2), (2, v0)]) (as := [(2, v0), (0, v2)]) (P := (fun v9 => ((2 : Nat), v9) :: [])) (tg := 2) (My := M_Nb_needTray) (mRunV (as := [(0, v2)]) (st := []) d_Nb_findFits_9 (mc_Nb_needTray (by decide)) rfl (mv_Nb_needTray tb_ml_Nb_228) rfl (Nat.le_of_ble_eq_true rfl) ha) (fun v => rfl) rfl hr (fun r1 h1 => t_Nb_needTray _ _ _ _ h1) (fun x4 h3 hr => ?_)
  refine j_astore_n (pc := 12) (ls' := [(2, v0), (0, v1), (0, v2), (2, x4)]) d_Nb_findFits_12 rfl ?_
  refine j_aload_n (pc := 13) d_Nb_findFits_13 rfl ?_
  obtain ⟨ha, hr⟩ := chk_some hr
  refine j_callG (pc := 14) (stk := [(2, v0)]) (as := [(2, v0)]) (P := (fun v9 => [])) (tg := 3) (My := M_Nb_needFew) (mRunV (as := []) (st := []) d_Nb_findFits_14 (mc_Nb_needFew (by decide)) rfl (mv_Nb_needFew tb_ml_Nb_205) rfl (Nat.le_of_ble_eq_true rfl) ha) (fun v => rfl) rfl hr (fun r1 h1 => t_Nb_needFew _ _ _ h1) (fun x6 h5 hr => ?_)
  refine j_aload_n (pc := 17) d_Nb_findFits_17 rfl ?_
  refine j_ldc2 (pc := 18) (z := 2) d_Nb_findFits_18 tb_cj_Nb_464 rfl ?_
  refine j_aload_n (pc := 21) d_Nb_findFits_21 rfl ?_
  refine j_getf (pc := 22) d_Nb_findFits_22 (fd_Nb_27 rfl) hr (fun hr => ?_)
  obtain ⟨ha, hr⟩ := chk_some hr
  refine j_callG (pc := 25) (stk := [(2, hpV h5 v0 6), (1, 2), (2, x4)]) (as := [(2, hpV h5 v0 6)]) (P := (fun v9 => ((0 : Nat), v9) :: [(1, 2), (2, x4)])) (tg := 0) (My := M_Box_standCount) (mRunV (as := []) (st := [(1, 2), (2, x4)]) d_Nb_findFits_25 (mc_Box_standCount (by decide)) rfl (mv_Box_standCount tb_ml_Nb_327) rfl (Nat.le_of_ble_eq_true rfl) ha) (fun v => rfl) rfl hr (fun r1 h1 => t_Box_standCount _ _ _ h1) (fun x8 h7 hr => ?_)
  refine j_i2l (pc := 28) d_Nb_findFits_28 ?_
  refine j_lmul (pc := 29) d_Nb_findFits_29 ?_
  obtain ⟨ha, hr⟩ := chk_some hr
  refine j_callG (pc := 30) (stk := [(1, w64 (2 * x8)), (2, x4)]) (as := [(2, x4), (1, w64 (2 * x8))]) (P := (fun v9 => ((0 : Nat), v9) :: [])) (tg := 0) (My := M_Tray_allBelow) (mRunV (as := [(1, w64 (2 * x8))]) (st := []) d_Nb_findFits_30 (mc_Tray_allBelow (by decide)) rfl (mv_Tray_allBelow tb_ml_Nb_466) rfl (Nat.le_of_ble_eq_true rfl) ha) (fun v => rfl) rfl hr (fun r1 h1 => t_Tray_allBelow _ _ _ _ h1) (fun x10 h9 hr => ?_)
  refine j_if_ne (pc := 33) (tgt := 47) d_Nb_findFits_33 hr (fun hr => ?_) (fun hr => ?_)
  · refine j_aload_n (pc := 47) d_Nb_findFits_47 rfl ?_
    refine j_getf (pc := 48) d_Nb_findFits_48 (fd_Nb_98 rfl) hr (fun hr => ?_)
    refine j_aload_n (pc := 51) d_Nb_findFits_51 rfl ?_
    refine j_getf (pc := 52) d_Nb_findFits_52 (fd_Nb_27 rfl) hr (fun hr => ?_)
    refine j_aload_n (pc := 55) d_Nb_findFits_55 rfl ?_
    refine j_iload_n (pc := 56) d_Nb_findFits_56 rfl ?_
    refine j_iconst (pc := 57) d_Nb_findFits_57 ?_
    refine j_ishr (pc := 58) d_Nb_findFits_58 ?_
    obtain ⟨ha, hr⟩ := chk_some hr
    refine j_callG (pc := 59) (stk := [(0, qshr v1 1), (2, x4), (2, hpV h9 v0 6), (2, hpV h9 v0 18)]) (as := [(2, hpV h9 v0 18), (2, hpV h9 v0 6), (2, x4), (0, qshr v1 1)]) (P := (fun v9 => [])) (tg := 3) (My := M_Fits_find) (mRunV (as := [(2, hpV h9 v0 6), (2, x4), (0, qshr v1 1)]) (st := []) d_Nb_findFits_59 (mc_Fits_find (by decide)) rfl (mv_Fits_find tb_ml_Nb_472) rfl (Nat.le_of_ble_eq_true rfl) ha) (fun v => rfl) rfl hr (fun r1 h1 => t_Fits_find _ _ _ _ _ _ h1) (fun x12 h11 hr => ?_)
    exact j_vret (pc := 62) d_Nb_findFits_62 rfl hr
  · exact j_throwW (pc := 36) (x9 := 7) (text := "a number that tells of no stand") (k := 30) d_Nb_findFits_36 d_Nb_findFits_39 d_Nb_findFits_40 d_Nb_findFits_43 d_Nb_findFits_46 rfl (by decide +kernel) tb_cl_Nb_109 tb_in_java_lang_IllegalArgumentException (by decide +kernel) rfl (Nat.le_of_ble_eq_true rfl) hr
def M_Nb_fits : mM := ("NineBars", ⟨"NineBars", "fits", "(III)I"⟩, prog_1_method_35_code, 4, some .int, [], 9)
theorem tb_co_Nb_fits : mTB (Cond.code ⟨"NineBars", "fits", "(III)I"⟩ prog_1_method_35_code 4 (some .int)) := tbq6 38 (by decide +kernel) rfl
theorem mc_Nb_fits {M : mM} (hd : 9 < mDp M) : mCal M M_Nb_fits 3 := ⟨tb_co_Nb_fits, tb_in_NineBars, ⟨by decide +kernel, by decide +kernel⟩, by decide +kernel, hd, by decide⟩
theorem d_Nb_fits_0 : decode prog_1_method_35_code 0 = .ok (.aload_n 0, 1) := by decide +kernel
theorem d_Nb_fits_1 : decode prog_1_method_35_code 1 = .ok (.iload_n 1, 1) := by decide +kernel
theorem d_Nb_fits_2 : decode prog_1_method_35_code 2 = .ok (.iload_n 2, 1) := by decide +kernel
theorem d_Nb_fits_3 : decode prog_1_method_35_code 3 = .ok (.invokevirtual 365, 3) := by decide +kernel
theorem tb_ml_Nb_365 : mTB (Cond.methodLink "NineBars" 365 ⟨"NineBars", "findFits", "(II)V"⟩) := tbq6 39 (by decide +kernel) rfl
theorem tb_im_Nb_findFits : mTB (Cond.instanceMethod ⟨"NineBars", "findFits", "(II)V"⟩) := tbq6 41 (by decide +kernel) rfl
theorem tb_se_Nb_findFits : mTB (Cond.selects "NineBars" ⟨"NineBars", "findFits", "(II)V"⟩ ⟨"NineBars", "findFits", "(II)V"⟩) := tbqp 36 (by decide +kernel) rfl
theorem mv_Nb_findFits {M : mM} {idx : Nat} (h : mTB (Cond.methodLink (mO M) idx ⟨"NineBars", "findFits", "(II)V"⟩)) : mCaV M M_Nb_findFits idx 10 := ⟨h, tb_im_Nb_findFits, tb_se_Nb_findFits, by decide, TX10, 19, rfl⟩
theorem d_Nb_fits_6 : decode prog_1_method_35_code 6 = .ok (.iload_n 3, 1) := by decide +kernel
theorem d_Nb_fits_7 : decode prog_1_method_35_code 7 = .ok (.iconst (-1), 1) := by decide +kernel
theorem d_Nb_fits_8 : decode prog_1_method_35_code 8 = .ok (.if_icmp .ne 11, 3) := by decide +kernel
theorem d_Nb_fits_19 : decode prog_1_method_35_code 19 = .ok (.iload_n 3, 1) := by decide +kernel
theorem d_Nb_fits_20 : decode prog_1_method_35_code 20 = .ok (.ifCond .lt 26, 3) := by decide +kernel
theorem d_Nb_fits_46 : decode prog_1_method_35_code 46 = .ok (.iconst (-1), 1) := by decide +kernel
theorem d_Nb_fits_47 : decode prog_1_method_35_code 47 = .ok (.ireturn, 1) := by decide +kernel
theorem d_Nb_fits_23 : decode prog_1_method_35_code 23 = .ok (.iload_n 3, 1) := by decide +kernel
theorem d_Nb_fits_24 : decode prog_1_method_35_code 24 = .ok (.aload_n 0, 1) := by decide +kernel
theorem d_Nb_fits_25 : decode prog_1_method_35_code 25 = .ok (.getfield 98, 3) := by decide +kernel
theorem tb_fl_Nb_368 : mTN (Cond.fieldLinkNest "NineBars" 368 "NineBars$Fits" "many" "I" "NineBars") := tbqn2 139 (by decide +kernel) rfl
theorem fd_Nb_368 {M : mM} (h : mO M = "NineBars") : mFld M 368 2 3 0 := ⟨_, _, _, tyX2, rfl, by decide, by decide, rfl, uw_2, tyX2_ok, nmX2, by rw [h]; exact Or.inr ⟨_, tb_fl_Nb_368⟩⟩
theorem d_Nb_fits_28 : decode prog_1_method_35_code 28 = .ok (.getfield 368, 3) := by decide +kernel
theorem d_Nb_fits_31 : decode prog_1_method_35_code 31 = .ok (.if_icmp .ge 15, 3) := by decide +kernel
theorem d_Nb_fits_34 : decode prog_1_method_35_code 34 = .ok (.aload_n 0, 1) := by decide +kernel
theorem d_Nb_fits_35 : decode prog_1_method_35_code 35 = .ok (.getfield 98, 3) := by decide +kernel
theorem tb_fl_Nb_369 : mTN (Cond.fieldLinkNest "NineBars" 369 "NineBars$Fits" "codes" "[I" "NineBars") := tbqn2 135 (by decide +kernel) rfl
theorem fd_Nb_369 {M : mM} (h : mO M = "NineBars") : mFld M 369 2 0 2 := ⟨_, _, _, tyX2, rfl, by decide, by decide, rfl, uw_2, tyX2_ok, nmX2, by rw [h]; exact Or.inr ⟨_, tb_fl_Nb_369⟩⟩
theorem d_Nb_fits_38 : decode prog_1_method_35_code 38 = .ok (.getfield 369, 3) := by decide +kernel
theorem d_Nb_fits_41 : decode prog_1_method_35_code 41 = .ok (.iload_n 3, 1) := by decide +kernel
theorem d_Nb_fits_42 : decode prog_1_method_35_code 42 = .ok (.iaload, 1) := by decide +kernel
theorem d_Nb_fits_43 : decode prog_1_method_35_code 43 = .ok (.goto 4, 3) := by decide +kernel
theorem d_Nb_fits_11 : decode prog_1_method_35_code 11 = .ok (.aload_n 0, 1) := by decide +kernel
theorem d_Nb_fits_12 : decode prog_1_method_35_code 12 = .ok (.getfield 98, 3) := by decide +kernel
theorem d_Nb_fits_15 : decode prog_1_method_35_code 15 = .ok (.getfield 368, 3) := by decide +kernel
theorem d_Nb_fits_18 : decode prog_1_method_35_code 18 = .ok (.ireturn, 1) := by decide +kernel
theorem t_Nb_fits_J46 {G : mG} {r : mR} {h : mH}  (hr : f_Nb_fits_J46 h = some r) : mJ G M_Nb_fits 46 [(9, 0), (9, 0), (9, 0), (9, 0)] [] h r := by
  unfold f_Nb_fits_J46 at hr
  refine j_iconst (pc := 46) d_Nb_fits_46 ?_
  exact j_iret (pc := 47) d_Nb_fits_47 rfl hr
theorem t_Nb_fits {G : mG} (h : mH) (v0 v1 v2 v3 : Int) (r : mR) (hr : f_Nb_fits h v0 v1 v2 v3 = some r) : mJM G M_Nb_fits [(2, v0), (0, v1), (0, v2), (0, v3)] h r := by
  refine mJM_of (L := [(2, v0), (0, v1), (0, v2), (0, v3)]) rfl rfl rfl (Nat.le_of_ble_eq_true rfl) ?_
  unfold f_Nb_fits at hr
  refine j_aload_n (pc := 0) d_Nb_fits_0 rfl ?_
  refine j_iload_n (pc := 1) d_Nb_fits_1 rfl ?_
  refine j_iload_n (pc := 2) d_Nb_fits_2 rfl ?_
  obtain ⟨ha, hr⟩ := chk_some hr
  refine j_callG (pc := 3) (stk := [(0, v2), (0, v1), (2, v0)]) (as := [(2, v0), (0, v1), (0, v2)]) (P := (fun v9 => [])) (tg := 3) (My := M_Nb_findFits) (mRunV (as := [(0, v1), (0, v2)]) (st := []) d_Nb_fits_3 (mc_Nb_findFits (by decide)) rfl (mv_Nb_findFits tb_ml_Nb_365) rfl (Nat.le_of_ble_eq_true rfl) ha) (fun v => rfl) rfl hr (fun r1 h1 => t_Nb_findFits _ _ _ _ _ h1) (fun x2 h1 hr => ?_)
  refine j_iload_n (pc := 6) d_Nb_fits_6 rfl ?_
  refine j_iconst (pc := 7) d_Nb_fits_7 ?_
  refine j_icmp_ne (pc := 8) (tgt := 19) d_Nb_fits_8 hr (fun hr => ?_) (fun hr => ?_)
  · refine j_iload_n (pc := 19) d_Nb_fits_19 rfl ?_
    refine j_if_lt (pc := 20) (tgt := 46) d_Nb_fits_20 hr (fun hr => ?_) (fun hr => ?_)
    · exact mJ_weak (ls' := [(9, 0), (9, 0), (9, 0), (9, 0)]) (mwk_d (mwk_d (mwk_d (mwk_d mwk_n)))) (t_Nb_fits_J46  hr)
    · refine j_iload_n (pc := 23) d_Nb_fits_23 rfl ?_
      refine j_aload_n (pc := 24) d_Nb_fits_24 rfl ?_
      refine j_getf (pc := 25) d_Nb_fits_25 (fd_Nb_98 rfl) hr (fun hr => ?_)
      refine j_getf (pc := 28) d_Nb_fits_28 (fd_Nb_368 rfl) hr (fun hr => ?_)
      refine j_icmp_ge (pc := 31) (tgt := 46) d_Nb_fits_31 hr (fun hr => ?_) (fun hr => ?_)
      · exact mJ_weak (ls' := [(9, 0), (9, 0), (9, 0), (9, 0)]) (mwk_d (mwk_d (mwk_d (mwk_d mwk_n)))) (t_Nb_fits_J46  hr)
      · refine j_aload_n (pc := 34) d_Nb_fits_34 rfl ?_
        refine j_getf (pc := 35) d_Nb_fits_35 (fd_Nb_98 rfl) hr (fun hr => ?_)
        refine j_getf (pc := 38) d_Nb_fits_38 (fd_Nb_369 rfl) hr (fun hr => ?_)
        refine j_iload_n (pc := 41) d_Nb_fits_41 rfl ?_
        refine j_iaload (pc := 42) d_Nb_fits_42 hr (fun hr => ?_)
        refine j_goto (pc := 43) (tgt := 47) d_Nb_fits_43 ?_
        exact j_iret (pc := 47) d_Nb_fits_47 rfl hr
  · refine j_aload_n (pc := 11) d_Nb_fits_11 rfl ?_
    refine j_getf (pc := 12) d_Nb_fits_12 (fd_Nb_98 rfl) hr (fun hr => ?_)
    refine j_getf (pc := 15) d_Nb_fits_15 (fd_Nb_368 rfl) hr (fun hr => ?_)
    exact j_iret (pc := 18) d_Nb_fits_18 rfl hr
def M_Fits_countHolding : mM := ("NineBars$Fits", ⟨"NineBars$Fits", "countHolding", "(LNineBars$Box;)V"⟩, prog_4_method_5_code, 6, none, [], 3)
theorem tb_co_Fits_countHolding : mTB (Cond.code ⟨"NineBars$Fits", "countHolding", "(LNineBars$Box;)V"⟩ prog_4_method_5_code 6 (none)) := tbq6 72 (by decide +kernel) rfl
theorem mc_Fits_countHolding {M : mM} (hd : 3 < mDp M) : mCal M M_Fits_countHolding 1 := ⟨tb_co_Fits_countHolding, tb_in_NineBars_Fits, ⟨by decide +kernel, by decide +kernel⟩, by decide +kernel, hd, by decide⟩
theorem d_Fits_countHolding_0 : decode prog_4_method_5_code 0 = .ok (.iconst 0, 1) := by decide +kernel
theorem d_Fits_countHolding_1 : decode prog_4_method_5_code 1 = .ok (.istore_n 2, 1) := by decide +kernel
theorem d_Fits_countHolding_2 : decode prog_4_method_5_code 2 = .ok (.iload_n 2, 1) := by decide +kernel
theorem d_Fits_countHolding_3 : decode prog_4_method_5_code 3 = .ok (.aload_n 0, 1) := by decide +kernel
theorem d_Fits_countHolding_4 : decode prog_4_method_5_code 4 = .ok (.getfield 15, 3) := by decide +kernel
theorem d_Fits_countHolding_7 : decode prog_4_method_5_code 7 = .ok (.arraylength, 1) := by decide +kernel
theorem d_Fits_countHolding_8 : decode prog_4_method_5_code 8 = .ok (.if_icmp .ge 16, 3) := by decide +kernel
theorem d_Fits_countHolding_11 : decode prog_4_method_5_code 11 = .ok (.aload_n 0, 1) := by decide +kernel
theorem d_Fits_countHolding_12 : decode prog_4_method_5_code 12 = .ok (.getfield 15, 3) := by decide +kernel
theorem d_Fits_countHolding_15 : decode prog_4_method_5_code 15 = .ok (.iload_n 2, 1) := by decide +kernel
theorem d_Fits_countHolding_16 : decode prog_4_method_5_code 16 = .ok (.iconst 0, 1) := by decide +kernel
theorem d_Fits_countHolding_17 : decode prog_4_method_5_code 17 = .ok (.iastore, 1) := by decide +kernel
theorem d_Fits_countHolding_18 : decode prog_4_method_5_code 18 = .ok (.iinc 2 1, 3) := by decide +kernel
theorem d_Fits_countHolding_21 : decode prog_4_method_5_code 21 = .ok (.goto (-19), 3) := by decide +kernel
theorem d_Fits_countHolding_24 : decode prog_4_method_5_code 24 = .ok (.iconst 0, 1) := by decide +kernel
theorem d_Fits_countHolding_25 : decode prog_4_method_5_code 25 = .ok (.istore_n 2, 1) := by decide +kernel
theorem d_Fits_countHolding_26 : decode prog_4_method_5_code 26 = .ok (.iload_n 2, 1) := by decide +kernel
theorem d_Fits_countHolding_27 : decode prog_4_method_5_code 27 = .ok (.aload_n 0, 1) := by decide +kernel
theorem d_Fits_countHolding_28 : decode prog_4_method_5_code 28 = .ok (.getfield 21, 3) := by decide +kernel
theorem d_Fits_countHolding_31 : decode prog_4_method_5_code 31 = .ok (.if_icmp .ge 104, 3) := by decide +kernel
theorem d_Fits_countHolding_135 : decode prog_4_method_5_code 135 = .ok (.return_, 1) := by decide +kernel
theorem d_Fits_countHolding_34 : decode prog_4_method_5_code 34 = .ok (.aload_n 0, 1) := by decide +kernel
theorem d_Fits_countHolding_35 : decode prog_4_method_5_code 35 = .ok (.getfield 9, 3) := by decide +kernel
theorem d_Fits_countHolding_38 : decode prog_4_method_5_code 38 = .ok (.iload_n 2, 1) := by decide +kernel
theorem d_Fits_countHolding_39 : decode prog_4_method_5_code 39 = .ok (.iaload, 1) := by decide +kernel
theorem d_Fits_countHolding_40 : decode prog_4_method_5_code 40 = .ok (.bipush 100, 2) := by decide +kernel
theorem d_Fits_countHolding_42 : decode prog_4_method_5_code 42 = .ok (.idiv, 1) := by decide +kernel
theorem d_Fits_countHolding_43 : decode prog_4_method_5_code 43 = .ok (.istore_n 3, 1) := by decide +kernel
theorem d_Fits_countHolding_44 : decode prog_4_method_5_code 44 = .ok (.aload_n 0, 1) := by decide +kernel
theorem d_Fits_countHolding_45 : decode prog_4_method_5_code 45 = .ok (.getfield 9, 3) := by decide +kernel
theorem d_Fits_countHolding_48 : decode prog_4_method_5_code 48 = .ok (.iload_n 2, 1) := by decide +kernel
theorem d_Fits_countHolding_49 : decode prog_4_method_5_code 49 = .ok (.iaload, 1) := by decide +kernel
theorem d_Fits_countHolding_50 : decode prog_4_method_5_code 50 = .ok (.bipush 10, 2) := by decide +kernel
theorem d_Fits_countHolding_52 : decode prog_4_method_5_code 52 = .ok (.idiv, 1) := by decide +kernel
theorem d_Fits_countHolding_53 : decode prog_4_method_5_code 53 = .ok (.bipush 10, 2) := by decide +kernel
theorem d_Fits_countHolding_55 : decode prog_4_method_5_code 55 = .ok (.irem, 1) := by decide +kernel
theorem d_Fits_countHolding_56 : decode prog_4_method_5_code 56 = .ok (.istore 4, 2) := by decide +kernel
theorem d_Fits_countHolding_58 : decode prog_4_method_5_code 58 = .ok (.iconst 0, 1) := by decide +kernel
theorem d_Fits_countHolding_59 : decode prog_4_method_5_code 59 = .ok (.istore 5, 2) := by decide +kernel
theorem d_Fits_countHolding_61 : decode prog_4_method_5_code 61 = .ok (.iload 5, 2) := by decide +kernel
theorem d_Fits_countHolding_63 : decode prog_4_method_5_code 63 = .ok (.aload_n 1, 1) := by decide +kernel
theorem d_Fits_countHolding_64 : decode prog_4_method_5_code 64 = .ok (.iload_n 3, 1) := by decide +kernel
theorem d_Fits_countHolding_65 : decode prog_4_method_5_code 65 = .ok (.invokevirtual 71, 3) := by decide +kernel
theorem tb_ml_Fits_71 : mTB (Cond.methodLink "NineBars$Fits" 71 ⟨"NineBars$Box", "placesOf", "(I)I"⟩) := tbq6 73 (by decide +kernel) rfl
theorem d_Fits_countHolding_68 : decode prog_4_method_5_code 68 = .ok (.if_icmp .ge 61, 3) := by decide +kernel
theorem d_Fits_countHolding_71 : decode prog_4_method_5_code 71 = .ok (.aload_n 0, 1) := by decide +kernel
theorem d_Fits_countHolding_72 : decode prog_4_method_5_code 72 = .ok (.getfield 15, 3) := by decide +kernel
theorem d_Fits_countHolding_75 : decode prog_4_method_5_code 75 = .ok (.iconst 4, 1) := by decide +kernel
theorem d_Fits_countHolding_76 : decode prog_4_method_5_code 76 = .ok (.iload_n 3, 1) := by decide +kernel
theorem d_Fits_countHolding_77 : decode prog_4_method_5_code 77 = .ok (.imul, 1) := by decide +kernel
theorem d_Fits_countHolding_78 : decode prog_4_method_5_code 78 = .ok (.iload 5, 2) := by decide +kernel
theorem d_Fits_countHolding_80 : decode prog_4_method_5_code 80 = .ok (.iadd, 1) := by decide +kernel
theorem d_Fits_countHolding_81 : decode prog_4_method_5_code 81 = .ok (.dup2, 1) := by decide +kernel
theorem d_Fits_countHolding_82 : decode prog_4_method_5_code 82 = .ok (.iaload, 1) := by decide +kernel
theorem d_Fits_countHolding_83 : decode prog_4_method_5_code 83 = .ok (.iload 5, 2) := by decide +kernel
theorem d_Fits_countHolding_85 : decode prog_4_method_5_code 85 = .ok (.aload_n 0, 1) := by decide +kernel
theorem d_Fits_countHolding_86 : decode prog_4_method_5_code 86 = .ok (.getfield 9, 3) := by decide +kernel
theorem d_Fits_countHolding_89 : decode prog_4_method_5_code 89 = .ok (.iload_n 2, 1) := by decide +kernel
theorem d_Fits_countHolding_90 : decode prog_4_method_5_code 90 = .ok (.iaload, 1) := by decide +kernel
theorem d_Fits_countHolding_91 : decode prog_4_method_5_code 91 = .ok (.bipush 10, 2) := by decide +kernel
theorem d_Fits_countHolding_93 : decode prog_4_method_5_code 93 = .ok (.irem, 1) := by decide +kernel
theorem d_Fits_countHolding_94 : decode prog_4_method_5_code 94 = .ok (.if_icmp .ne 7, 3) := by decide +kernel
theorem d_Fits_countHolding_101 : decode prog_4_method_5_code 101 = .ok (.iconst 0, 1) := by decide +kernel
theorem d_Fits_countHolding_102 : decode prog_4_method_5_code 102 = .ok (.iload 4, 2) := by decide +kernel
theorem d_Fits_countHolding_104 : decode prog_4_method_5_code 104 = .ok (.iconst 1, 1) := by decide +kernel
theorem d_Fits_countHolding_105 : decode prog_4_method_5_code 105 = .ok (.if_icmp .ne 7, 3) := by decide +kernel
theorem d_Fits_countHolding_112 : decode prog_4_method_5_code 112 = .ok (.iconst 0, 1) := by decide +kernel
theorem d_Fits_countHolding_113 : decode prog_4_method_5_code 113 = .ok (.if_icmp .eq 7, 3) := by decide +kernel
theorem d_Fits_countHolding_120 : decode prog_4_method_5_code 120 = .ok (.iconst 0, 1) := by decide +kernel
theorem d_Fits_countHolding_121 : decode prog_4_method_5_code 121 = .ok (.iadd, 1) := by decide +kernel
theorem d_Fits_countHolding_122 : decode prog_4_method_5_code 122 = .ok (.iastore, 1) := by decide +kernel
theorem d_Fits_countHolding_123 : decode prog_4_method_5_code 123 = .ok (.iinc 5 1, 3) := by decide +kernel
theorem d_Fits_countHolding_126 : decode prog_4_method_5_code 126 = .ok (.goto (-65), 3) := by decide +kernel
theorem d_Fits_countHolding_116 : decode prog_4_method_5_code 116 = .ok (.iconst 1, 1) := by decide +kernel
theorem d_Fits_countHolding_117 : decode prog_4_method_5_code 117 = .ok (.goto 4, 3) := by decide +kernel
theorem d_Fits_countHolding_108 : decode prog_4_method_5_code 108 = .ok (.iconst 1, 1) := by decide +kernel
theorem d_Fits_countHolding_109 : decode prog_4_method_5_code 109 = .ok (.goto 4, 3) := by decide +kernel
theorem d_Fits_countHolding_97 : decode prog_4_method_5_code 97 = .ok (.iconst 1, 1) := by decide +kernel
theorem d_Fits_countHolding_98 : decode prog_4_method_5_code 98 = .ok (.goto 4, 3) := by decide +kernel
theorem d_Fits_countHolding_129 : decode prog_4_method_5_code 129 = .ok (.iinc 2 1, 3) := by decide +kernel
theorem d_Fits_countHolding_132 : decode prog_4_method_5_code 132 = .ok (.goto (-106), 3) := by decide +kernel
theorem t_Fits_countHolding_L2 {G : mG} {r : mR} {v0 v1 : Int} {K24 : mH → Option mR} (hK24 : ∀ (h : mH) , K24 h  = some r → mJ G M_Fits_countHolding 24 [(2, v0), (2, v1), (9, 0), (9, 0), (9, 0), (9, 0)] [] h r) : ∀ (n : Nat) (h : mH) (v2 : Int), f_Fits_countHolding_L2 K24 v0 n h v2 = some r → mJ G M_Fits_countHolding 2 [(2, v0), (2, v1), (0, v2), (9, 0), (9, 0), (9, 0)] [] h r := by
  intro n
  induction n with
  | zero =>
    intro h v2 hr
    rw [f_Fits_countHolding_L2] at hr
    cases hr
  | succ n hR2 =>
    intro h v2 hr
    rw [f_Fits_countHolding_L2] at hr
    refine j_iload_n (pc := 2) d_Fits_countHolding_2 rfl ?_
    refine j_aload_n (pc := 3) d_Fits_countHolding_3 rfl ?_
    refine j_getf (pc := 4) d_Fits_countHolding_4 (fd_Fits_15 rfl) hr (fun hr => ?_)
    refine j_alen (pc := 7) d_Fits_countHolding_7 hr (fun hr => ?_)
    refine j_icmp_ge (pc := 8) (tgt := 24) d_Fits_countHolding_8 hr (fun hr => ?_) (fun hr => ?_)
    · exact mJ_weak (ls' := [(2, v0), (2, v1), (9, 0), (9, 0), (9, 0), (9, 0)]) (mwk_s (mwk_s (mwk_d (mwk_s (mwk_s (mwk_s mwk_n)))))) (hK24 h  hr)
    · refine j_aload_n (pc := 11) d_Fits_countHolding_11 rfl ?_
      refine j_getf (pc := 12) d_Fits_countHolding_12 (fd_Fits_15 rfl) hr (fun hr => ?_)
      refine j_iload_n (pc := 15) d_Fits_countHolding_15 rfl ?_
      refine j_iconst (pc := 16) d_Fits_countHolding_16 ?_
      refine j_iastore (pc := 17) d_Fits_countHolding_17 hr (fun h1 hr => ?_)
      refine j_iincW (pc := 18) (L := fun x2 => [(2, v0), (2, v1), (0, x2), (9, 0), (9, 0), (9, 0)]) d_Fits_countHolding_18 rfl (fun _ => rfl) hr (fun x2 hr => ?_)
      refine j_goto (pc := 21) (tgt := 2) d_Fits_countHolding_21 ?_
      exact mJ_weak (ls' := [(2, v0), (2, v1), (0, x2), (9, 0), (9, 0), (9, 0)]) (mwk_s (mwk_s (mwk_s (mwk_s (mwk_s (mwk_s mwk_n)))))) (hR2 h1 _ hr)
theorem t_Fits_countHolding_J121 {G : mG} {r : mR} {v0 v1 v2 v3 v4 v5 s0 s1 s2 s3 : Int} {h : mH} {R61 : mH → Int → Option mR} (hR61 : ∀ (h : mH) (w5 : Int) , R61 h w5 = some r → mJ G M_Fits_countHolding 61 [(2, v0), (2, v1), (0, v2), (0, v3), (0, v4), (0, w5)] [] h r) (hr : f_Fits_countHolding_J121 R61 v5 s0 s1 s2 s3 h = some r) : mJ G M_Fits_countHolding 121 [(2, v0), (2, v1), (0, v2), (0, v3), (0, v4), (0, v5)] [(0, s3), (0, s2), (0, s1), (2, s0)] h r := by
  unfold f_Fits_countHolding_J121 at hr
  refine j_iadd (pc := 121) d_Fits_countHolding_121 ?_
  refine j_iastore (pc := 122) d_Fits_countHolding_122 hr (fun h1 hr => ?_)
  refine j_iincW (pc := 123) (L := fun x2 => [(2, v0), (2, v1), (0, v2), (0, v3), (0, v4), (0, x2)]) d_Fits_countHolding_123 rfl (fun _ => rfl) hr (fun x2 hr => ?_)
  refine j_goto (pc := 126) (tgt := 61) d_Fits_countHolding_126 ?_
  exact mJ_weak (ls' := [(2, v0), (2, v1), (0, v2), (0, v3), (0, v4), (0, x2)]) (mwk_s (mwk_s (mwk_s (mwk_s (mwk_s (mwk_s mwk_n)))))) (hR61 h1 _ hr)
theorem t_Fits_countHolding_J113 {G : mG} {r : mR} {v0 v1 v2 v3 v4 v5 s0 s1 s2 s3 s4 : Int} {h : mH} {R61 : mH → Int → Option mR} (hR61 : ∀ (h : mH) (w5 : Int) , R61 h w5 = some r → mJ G M_Fits_countHolding 61 [(2, v0), (2, v1), (0, v2), (0, v3), (0, v4), (0, w5)] [] h r) (hr : f_Fits_countHolding_J113 R61 v5 s0 s1 s2 s3 s4 h = some r) : mJ G M_Fits_countHolding 113 [(2, v0), (2, v1), (0, v2), (0, v3), (0, v4), (0, v5)] [(0, s4), (0, s3), (0, s2), (0, s1), (2, s0)] h r := by
  unfold f_Fits_countHolding_J113 at hr
  refine j_icmp_eq (pc := 113) (tgt := 120) d_Fits_countHolding_113 hr (fun hr => ?_) (fun hr => ?_)
  · refine j_iconst (pc := 120) d_Fits_countHolding_120 ?_
    exact mJ_weak (ls' := [(2, v0), (2, v1), (0, v2), (0, v3), (0, v4), (0, v5)]) (mwk_s (mwk_s (mwk_s (mwk_s (mwk_s (mwk_s mwk_n)))))) (t_Fits_countHolding_J121 hR61 hr)
  · refine j_iconst (pc := 116) d_Fits_countHolding_116 ?_
    refine j_goto (pc := 117) (tgt := 121) d_Fits_countHolding_117 ?_
    exact mJ_weak (ls' := [(2, v0), (2, v1), (0, v2), (0, v3), (0, v4), (0, v5)]) (mwk_s (mwk_s (mwk_s (mwk_s (mwk_s (mwk_s mwk_n)))))) (t_Fits_countHolding_J121 hR61 hr)
theorem t_Fits_countHolding_J102 {G : mG} {r : mR} {v0 v1 v2 v3 v4 v5 s0 s1 s2 s3 : Int} {h : mH} {R61 : mH → Int → Option mR} (hR61 : ∀ (h : mH) (w5 : Int) , R61 h w5 = some r → mJ G M_Fits_countHolding 61 [(2, v0), (2, v1), (0, v2), (0, v3), (0, v4), (0, w5)] [] h r) (hr : f_Fits_countHolding_J102 R61 v4 v5 s0 s1 s2 s3 h = some r) : mJ G M_Fits_countHolding 102 [(2, v0), (2, v1), (0, v2), (0, v3), (0, v4), (0, v5)] [(0, s3), (0, s2), (0, s1), (2, s0)] h r := by
  unfold f_Fits_countHolding_J102 at hr
  refine j_iload (pc := 102) d_Fits_countHolding_102 rfl ?_
  refine j_iconst (pc := 104) d_Fits_countHolding_104 ?_
  refine j_icmp_ne (pc := 105) (tgt := 112) d_Fits_countHolding_105 hr (fun hr => ?_) (fun hr => ?_)
  · refine j_iconst (pc := 112) d_Fits_countHolding_112 ?_
    exact mJ_weak (ls' := [(2, v0), (2, v1), (0, v2), (0, v3), (0, v4), (0, v5)]) (mwk_s (mwk_s (mwk_s (mwk_s (mwk_s (mwk_s mwk_n)))))) (t_Fits_countHolding_J113 hR61 hr)
  · refine j_iconst (pc := 108) d_Fits_countHolding_108 ?_
    refine j_goto (pc := 109) (tgt := 113) d_Fits_countHolding_109 ?_
    exact mJ_weak (ls' := [(2, v0), (2, v1), (0, v2), (0, v3), (0, v4), (0, v5)]) (mwk_s (mwk_s (mwk_s (mwk_s (mwk_s (mwk_s mwk_n)))))) (t_Fits_countHolding_J113 hR61 hr)
theorem t_Fits_countHolding_L61 {G : mG} {r : mR} {v0 v1 v2 v3 v4 : Int} {K129 : mH → Option mR} (hK129 : ∀ (h : mH) , K129 h  = some r → mJ G M_Fits_countHolding 129 [(2, v0), (2, v1), (0, v2), (9, 0), (9, 0), (9, 0)] [] h r) : ∀ (n : Nat) (h : mH) (v5 : Int), f_Fits_countHolding_L61 K129 v0 v1 v2 v3 v4 n h v5 = some r → mJ G M_Fits_countHolding 61 [(2, v0), (2, v1), (0, v2), (0, v3), (0, v4), (0, v5)] [] h r := by
  intro n
  induction n with
  | zero =>
    intro h v5 hr
    rw [f_Fits_countHolding_L61] at hr
    cases hr
  | succ n hR61 =>
    intro h v5 hr
    rw [f_Fits_countHolding_L61] at hr
    refine j_iload (pc := 61) d_Fits_countHolding_61 rfl ?_
    refine j_aload_n (pc := 63) d_Fits_countHolding_63 rfl ?_
    refine j_iload_n (pc := 64) d_Fits_countHolding_64 rfl ?_
    obtain ⟨ha, hr⟩ := chk_some hr
    refine j_callG (pc := 65) (stk := [(0, v3), (2, v1), (0, v5)]) (as := [(2, v1), (0, v3)]) (P := (fun v9 => ((0 : Nat), v9) :: [(0, v5)])) (tg := 0) (My := M_Box_placesOf) (mRunV (as := [(0, v3)]) (st := [(0, v5)]) d_Fits_countHolding_65 (mc_Box_placesOf (by decide)) rfl (mv_Box_placesOf tb_ml_Fits_71) rfl (Nat.le_of_ble_eq_true rfl) ha) (fun v => rfl) rfl hr (fun r1 h1 => t_Box_placesOf _ _ _ _ h1) (fun x2 h1 hr => ?_)
    refine j_icmp_ge (pc := 68) (tgt := 129) d_Fits_countHolding_68 hr (fun hr => ?_) (fun hr => ?_)
    · exact mJ_weak (ls' := [(2, v0), (2, v1), (0, v2), (9, 0), (9, 0), (9, 0)]) (mwk_s (mwk_s (mwk_s (mwk_d (mwk_d (mwk_d mwk_n)))))) (hK129 h1  hr)
    · refine j_aload_n (pc := 71) d_Fits_countHolding_71 rfl ?_
      refine j_getf (pc := 72) d_Fits_countHolding_72 (fd_Fits_15 rfl) hr (fun hr => ?_)
      refine j_iconst (pc := 75) d_Fits_countHolding_75 ?_
      refine j_iload_n (pc := 76) d_Fits_countHolding_76 rfl ?_
      refine j_imul (pc := 77) d_Fits_countHolding_77 ?_
      refine j_iload (pc := 78) d_Fits_countHolding_78 rfl ?_
      refine j_iadd (pc := 80) d_Fits_countHolding_80 ?_
      refine j_dup2 (pc := 81) d_Fits_countHolding_81 ?_
      refine j_iaload (pc := 82) d_Fits_countHolding_82 hr (fun hr => ?_)
      refine j_iload (pc := 83) d_Fits_countHolding_83 rfl ?_
      refine j_aload_n (pc := 85) d_Fits_countHolding_85 rfl ?_
      refine j_getf (pc := 86) d_Fits_countHolding_86 (fd_Fits_9 rfl) hr (fun hr => ?_)
      refine j_iload_n (pc := 89) d_Fits_countHolding_89 rfl ?_
      refine j_iaload (pc := 90) d_Fits_countHolding_90 hr (fun hr => ?_)
      refine j_bipush (pc := 91) d_Fits_countHolding_91 ?_
      refine j_irem (pc := 93) d_Fits_countHolding_93 hr (fun hr => ?_)
      refine j_icmp_ne (pc := 94) (tgt := 101) d_Fits_countHolding_94 hr (fun hr => ?_) (fun hr => ?_)
      · refine j_iconst (pc := 101) d_Fits_countHolding_101 ?_
        exact mJ_weak (ls' := [(2, v0), (2, v1), (0, v2), (0, v3), (0, v4), (0, v5)]) (mwk_s (mwk_s (mwk_s (mwk_s (mwk_s (mwk_s mwk_n)))))) (t_Fits_countHolding_J102 hR61 hr)
      · refine j_iconst (pc := 97) d_Fits_countHolding_97 ?_
        refine j_goto (pc := 98) (tgt := 102) d_Fits_countHolding_98 ?_
        exact mJ_weak (ls' := [(2, v0), (2, v1), (0, v2), (0, v3), (0, v4), (0, v5)]) (mwk_s (mwk_s (mwk_s (mwk_s (mwk_s (mwk_s mwk_n)))))) (t_Fits_countHolding_J102 hR61 hr)
theorem t_Fits_countHolding_L26 {G : mG} {r : mR} {v0 v1 : Int}  : ∀ (n : Nat) (h : mH) (v2 : Int), f_Fits_countHolding_L26 v0 v1 n h v2 = some r → mJ G M_Fits_countHolding 26 [(2, v0), (2, v1), (0, v2), (9, 0), (9, 0), (9, 0)] [] h r := by
  intro n
  induction n with
  | zero =>
    intro h v2 hr
    rw [f_Fits_countHolding_L26] at hr
    cases hr
  | succ n hR26 =>
    intro h v2 hr
    rw [f_Fits_countHolding_L26] at hr
    refine j_iload_n (pc := 26) d_Fits_countHolding_26 rfl ?_
    refine j_aload_n (pc := 27) d_Fits_countHolding_27 rfl ?_
    refine j_getf (pc := 28) d_Fits_countHolding_28 (fd_Fits_21 rfl) hr (fun hr => ?_)
    refine j_icmp_ge (pc := 31) (tgt := 135) d_Fits_countHolding_31 hr (fun hr => ?_) (fun hr => ?_)
    · exact j_vret (pc := 135) d_Fits_countHolding_135 rfl hr
    · refine j_aload_n (pc := 34) d_Fits_countHolding_34 rfl ?_
      refine j_getf (pc := 35) d_Fits_countHolding_35 (fd_Fits_9 rfl) hr (fun hr => ?_)
      refine j_iload_n (pc := 38) d_Fits_countHolding_38 rfl ?_
      refine j_iaload (pc := 39) d_Fits_countHolding_39 hr (fun hr => ?_)
      refine j_bipush (pc := 40) d_Fits_countHolding_40 ?_
      refine j_idiv (pc := 42) d_Fits_countHolding_42 hr (fun hr => ?_)
      refine j_istoreW_n (pc := 43) (L := fun x1 => [(2, v0), (2, v1), (0, v2), (0, x1), (9, 0), (9, 0)]) d_Fits_countHolding_43 (fun _ => rfl) hr (fun x1 hr => ?_)
      refine j_aload_n (pc := 44) d_Fits_countHolding_44 rfl ?_
      refine j_getf (pc := 45) d_Fits_countHolding_45 (fd_Fits_9 rfl) hr (fun hr => ?_)
      refine j_iload_n (pc := 48) d_Fits_countHolding_48 rfl ?_
      refine j_iaload (pc := 49) d_Fits_countHolding_49 hr (fun hr => ?_)
      refine j_bipush (pc := 50) d_Fits_countHolding_50 ?_
      refine j_idiv (pc := 52) d_Fits_countHolding_52 hr (fun hr => ?_)
      refine j_bipush (pc := 53) d_Fits_countHolding_53 ?_
      refine j_irem (pc := 55) d_Fits_countHolding_55 hr (fun hr => ?_)
      refine j_istoreW (pc := 56) (L := fun x2 => [(2, v0), (2, v1), (0, v2), (0, x1), (0, x2), (9, 0)]) d_Fits_countHolding_56 (fun _ => rfl) hr (fun x2 hr => ?_)
      refine j_iconst (pc := 58) d_Fits_countHolding_58 ?_
      refine j_istore (pc := 59) (ls' := [(2, v0), (2, v1), (0, v2), (0, x1), (0, x2), (0, 0)]) d_Fits_countHolding_59 rfl ?_
      refine mJ_weak (ls' := [(2, v0), (2, v1), (0, v2), (0, x1), (0, x2), (0, 0)]) (mwk_s (mwk_s (mwk_s (mwk_s (mwk_s (mwk_s mwk_n)))))) (t_Fits_countHolding_L61 (fun h3  hr => ?_) _ _ _ hr)
      · refine j_iincW (pc := 129) (L := fun x4 => [(2, v0), (2, v1), (0, x4), (9, 0), (9, 0), (9, 0)]) d_Fits_countHolding_129 rfl (fun _ => rfl) hr (fun x4 hr => ?_)
        refine j_goto (pc := 132) (tgt := 26) d_Fits_countHolding_132 ?_
        exact mJ_weak (ls' := [(2, v0), (2, v1), (0, x4), (9, 0), (9, 0), (9, 0)]) (mwk_s (mwk_s (mwk_s (mwk_s (mwk_s (mwk_s mwk_n)))))) (hR26 h3 _ hr)
theorem t_Fits_countHolding {G : mG} (h : mH) (v0 v1 : Int) (r : mR) (hr : f_Fits_countHolding h v0 v1 = some r) : mJM G M_Fits_countHolding [(2, v0), (2, v1)] h r := by
  refine mJM_of (L := [(2, v0), (2, v1), (9, 0), (9, 0), (9, 0), (9, 0)]) rfl rfl rfl (Nat.le_of_ble_eq_true rfl) ?_
  unfold f_Fits_countHolding at hr
  refine j_iconst (pc := 0) d_Fits_countHolding_0 ?_
  refine j_istore_n (pc := 1) (ls' := [(2, v0), (2, v1), (0, 0), (9, 0), (9, 0), (9, 0)]) d_Fits_countHolding_1 rfl ?_
  refine mJ_weak (ls' := [(2, v0), (2, v1), (0, 0), (9, 0), (9, 0), (9, 0)]) (mwk_s (mwk_s (mwk_s (mwk_s (mwk_s (mwk_s mwk_n)))))) (t_Fits_countHolding_L2 (fun h1  hr => ?_) _ _ _ hr)
  · refine j_iconst (pc := 24) d_Fits_countHolding_24 ?_
    refine j_istore_n (pc := 25) (ls' := [(2, v0), (2, v1), (0, 0), (9, 0), (9, 0), (9, 0)]) d_Fits_countHolding_25 rfl ?_
    refine mJ_weak (ls' := [(2, v0), (2, v1), (0, 0), (9, 0), (9, 0), (9, 0)]) (mwk_s (mwk_s (mwk_s (mwk_s (mwk_s (mwk_s mwk_n)))))) (t_Fits_countHolding_L26  _ _ _ hr)
def M_Fits_seekTry : mM := ("NineBars$Fits", ⟨"NineBars$Fits", "seekTry", "(LNineBars$Box;)V"⟩, prog_4_method_4_code, 6, none, [], 5)
theorem tb_co_Fits_seekTry : mTB (Cond.code ⟨"NineBars$Fits", "seekTry", "(LNineBars$Box;)V"⟩ prog_4_method_4_code 6 (none)) := tbq6 68 (by decide +kernel) rfl
theorem mc_Fits_seekTry {M : mM} (hd : 5 < mDp M) : mCal M M_Fits_seekTry 1 := ⟨tb_co_Fits_seekTry, tb_in_NineBars_Fits, ⟨by decide +kernel, by decide +kernel⟩, by decide +kernel, hd, by decide⟩
theorem d_Fits_seekTry_0 : decode prog_4_method_4_code 0 = .ok (.aload_n 0, 1) := by decide +kernel
theorem d_Fits_seekTry_1 : decode prog_4_method_4_code 1 = .ok (.aload_n 1, 1) := by decide +kernel
theorem d_Fits_seekTry_2 : decode prog_4_method_4_code 2 = .ok (.invokevirtual 48, 3) := by decide +kernel
theorem tb_ml_Fits_48 : mTB (Cond.methodLink "NineBars$Fits" 48 ⟨"NineBars$Fits", "countHolding", "(LNineBars$Box;)V"⟩) := tbq6 69 (by decide +kernel) rfl
theorem tb_im_Fits_countHolding : mTB (Cond.instanceMethod ⟨"NineBars$Fits", "countHolding", "(LNineBars$Box;)V"⟩) := tbq6 71 (by decide +kernel) rfl
theorem tb_se_Fits_countHolding : mTB (Cond.selects "NineBars$Fits" ⟨"NineBars$Fits", "countHolding", "(LNineBars$Box;)V"⟩ ⟨"NineBars$Fits", "countHolding", "(LNineBars$Box;)V"⟩) := tbqp 38 (by decide +kernel) rfl
theorem mv_Fits_countHolding {M : mM} {idx : Nat} (h : mTB (Cond.methodLink (mO M) idx ⟨"NineBars$Fits", "countHolding", "(LNineBars$Box;)V"⟩)) : mCaV M M_Fits_countHolding idx 2 := ⟨h, tb_im_Fits_countHolding, tb_se_Fits_countHolding, by decide, TX2, 6, rfl⟩
theorem d_Fits_seekTry_5 : decode prog_4_method_4_code 5 = .ok (.aload_n 0, 1) := by decide +kernel
theorem d_Fits_seekTry_6 : decode prog_4_method_4_code 6 = .ok (.iconst (-1), 1) := by decide +kernel
theorem tb_fl_Fits_52 : mTB (Cond.fieldLink "NineBars$Fits" 52 "NineBars$Fits" "tryStand" "I") := tbq2 140 (by decide +kernel) rfl
theorem fd_Fits_52 {M : mM} (h : mO M = "NineBars$Fits") : mFld M 52 2 4 0 := ⟨_, _, _, tyX2, rfl, by decide, by decide, rfl, uw_2, tyX2_ok, nmX2, by rw [h]; exact Or.inl tb_fl_Fits_52⟩
theorem d_Fits_seekTry_7 : decode prog_4_method_4_code 7 = .ok (.putfield 52, 3) := by decide +kernel
theorem d_Fits_seekTry_10 : decode prog_4_method_4_code 10 = .ok (.aload_n 0, 1) := by decide +kernel
theorem d_Fits_seekTry_11 : decode prog_4_method_4_code 11 = .ok (.iconst (-1), 1) := by decide +kernel
theorem tb_fl_Fits_55 : mTB (Cond.fieldLink "NineBars$Fits" 55 "NineBars$Fits" "tryLeft" "I") := tbq2 142 (by decide +kernel) rfl
theorem fd_Fits_55 {M : mM} (h : mO M = "NineBars$Fits") : mFld M 55 2 5 0 := ⟨_, _, _, tyX2, rfl, by decide, by decide, rfl, uw_2, tyX2_ok, nmX2, by rw [h]; exact Or.inl tb_fl_Fits_55⟩
theorem d_Fits_seekTry_12 : decode prog_4_method_4_code 12 = .ok (.putfield 55, 3) := by decide +kernel
theorem d_Fits_seekTry_15 : decode prog_4_method_4_code 15 = .ok (.iconst 0, 1) := by decide +kernel
theorem d_Fits_seekTry_16 : decode prog_4_method_4_code 16 = .ok (.istore_n 2, 1) := by decide +kernel
theorem d_Fits_seekTry_17 : decode prog_4_method_4_code 17 = .ok (.iload_n 2, 1) := by decide +kernel
theorem d_Fits_seekTry_18 : decode prog_4_method_4_code 18 = .ok (.bipush 9, 2) := by decide +kernel
theorem d_Fits_seekTry_20 : decode prog_4_method_4_code 20 = .ok (.if_icmp .ge 16, 3) := by decide +kernel
theorem d_Fits_seekTry_23 : decode prog_4_method_4_code 23 = .ok (.aload_n 0, 1) := by decide +kernel
theorem d_Fits_seekTry_24 : decode prog_4_method_4_code 24 = .ok (.getfield 18, 3) := by decide +kernel
theorem d_Fits_seekTry_27 : decode prog_4_method_4_code 27 = .ok (.iload_n 2, 1) := by decide +kernel
theorem d_Fits_seekTry_28 : decode prog_4_method_4_code 28 = .ok (.iconst 0, 1) := by decide +kernel
theorem d_Fits_seekTry_29 : decode prog_4_method_4_code 29 = .ok (.iastore, 1) := by decide +kernel
theorem d_Fits_seekTry_30 : decode prog_4_method_4_code 30 = .ok (.iinc 2 1, 3) := by decide +kernel
theorem d_Fits_seekTry_33 : decode prog_4_method_4_code 33 = .ok (.goto (-16), 3) := by decide +kernel
theorem d_Fits_seekTry_36 : decode prog_4_method_4_code 36 = .ok (.aload_n 1, 1) := by decide +kernel
theorem d_Fits_seekTry_37 : decode prog_4_method_4_code 37 = .ok (.invokevirtual 58, 3) := by decide +kernel
theorem tb_ml_Fits_58 : mTB (Cond.methodLink "NineBars$Fits" 58 ⟨"NineBars$Box", "standCount", "()I"⟩) := tbq6 74 (by decide +kernel) rfl
theorem d_Fits_seekTry_40 : decode prog_4_method_4_code 40 = .ok (.istore_n 2, 1) := by decide +kernel
theorem d_Fits_seekTry_41 : decode prog_4_method_4_code 41 = .ok (.iconst 0, 1) := by decide +kernel
theorem d_Fits_seekTry_42 : decode prog_4_method_4_code 42 = .ok (.istore_n 3, 1) := by decide +kernel
theorem d_Fits_seekTry_43 : decode prog_4_method_4_code 43 = .ok (.iload_n 3, 1) := by decide +kernel
theorem d_Fits_seekTry_44 : decode prog_4_method_4_code 44 = .ok (.iload_n 2, 1) := by decide +kernel
theorem d_Fits_seekTry_45 : decode prog_4_method_4_code 45 = .ok (.if_icmp .ge 102, 3) := by decide +kernel
theorem d_Fits_seekTry_147 : decode prog_4_method_4_code 147 = .ok (.return_, 1) := by decide +kernel
theorem d_Fits_seekTry_48 : decode prog_4_method_4_code 48 = .ok (.iconst 0, 1) := by decide +kernel
theorem d_Fits_seekTry_49 : decode prog_4_method_4_code 49 = .ok (.istore 4, 2) := by decide +kernel
theorem d_Fits_seekTry_51 : decode prog_4_method_4_code 51 = .ok (.iconst 0, 1) := by decide +kernel
theorem d_Fits_seekTry_52 : decode prog_4_method_4_code 52 = .ok (.istore 5, 2) := by decide +kernel
theorem d_Fits_seekTry_54 : decode prog_4_method_4_code 54 = .ok (.iload 5, 2) := by decide +kernel
theorem d_Fits_seekTry_56 : decode prog_4_method_4_code 56 = .ok (.aload_n 1, 1) := by decide +kernel
theorem d_Fits_seekTry_57 : decode prog_4_method_4_code 57 = .ok (.getfield 25, 3) := by decide +kernel
theorem d_Fits_seekTry_60 : decode prog_4_method_4_code 60 = .ok (.if_icmp .ge 31, 3) := by decide +kernel
theorem d_Fits_seekTry_63 : decode prog_4_method_4_code 63 = .ok (.iload 4, 2) := by decide +kernel
theorem d_Fits_seekTry_65 : decode prog_4_method_4_code 65 = .ok (.aload_n 0, 1) := by decide +kernel
theorem d_Fits_seekTry_66 : decode prog_4_method_4_code 66 = .ok (.getfield 15, 3) := by decide +kernel
theorem d_Fits_seekTry_69 : decode prog_4_method_4_code 69 = .ok (.iconst 4, 1) := by decide +kernel
theorem d_Fits_seekTry_70 : decode prog_4_method_4_code 70 = .ok (.iload 5, 2) := by decide +kernel
theorem d_Fits_seekTry_72 : decode prog_4_method_4_code 72 = .ok (.imul, 1) := by decide +kernel
theorem d_Fits_seekTry_73 : decode prog_4_method_4_code 73 = .ok (.aload_n 0, 1) := by decide +kernel
theorem d_Fits_seekTry_74 : decode prog_4_method_4_code 74 = .ok (.getfield 18, 3) := by decide +kernel
theorem d_Fits_seekTry_77 : decode prog_4_method_4_code 77 = .ok (.iload 5, 2) := by decide +kernel
theorem d_Fits_seekTry_79 : decode prog_4_method_4_code 79 = .ok (.iaload, 1) := by decide +kernel
theorem d_Fits_seekTry_80 : decode prog_4_method_4_code 80 = .ok (.iadd, 1) := by decide +kernel
theorem d_Fits_seekTry_81 : decode prog_4_method_4_code 81 = .ok (.iaload, 1) := by decide +kernel
theorem d_Fits_seekTry_82 : decode prog_4_method_4_code 82 = .ok (.iadd, 1) := by decide +kernel
theorem d_Fits_seekTry_83 : decode prog_4_method_4_code 83 = .ok (.istore 4, 2) := by decide +kernel
theorem d_Fits_seekTry_85 : decode prog_4_method_4_code 85 = .ok (.iinc 5 1, 3) := by decide +kernel
theorem d_Fits_seekTry_88 : decode prog_4_method_4_code 88 = .ok (.goto (-34), 3) := by decide +kernel
theorem d_Fits_seekTry_91 : decode prog_4_method_4_code 91 = .ok (.iload 4, 2) := by decide +kernel
theorem d_Fits_seekTry_93 : decode prog_4_method_4_code 93 = .ok (.aload_n 0, 1) := by decide +kernel
theorem d_Fits_seekTry_94 : decode prog_4_method_4_code 94 = .ok (.getfield 21, 3) := by decide +kernel
theorem d_Fits_seekTry_97 : decode prog_4_method_4_code 97 = .ok (.iload 4, 2) := by decide +kernel
theorem d_Fits_seekTry_99 : decode prog_4_method_4_code 99 = .ok (.isub, 1) := by decide +kernel
theorem d_Fits_seekTry_100 : decode prog_4_method_4_code 100 = .ok (.invokestatic 62, 3) := by decide +kernel
theorem tb_ml_Fits_62 : mTB (Cond.methodLink "NineBars$Fits" 62 ⟨"java/lang/Math", "max", "(II)I"⟩) := tbq6 75 (by decide +kernel) rfl
theorem d_Fits_seekTry_103 : decode prog_4_method_4_code 103 = .ok (.istore 5, 2) := by decide +kernel
theorem d_Fits_seekTry_105 : decode prog_4_method_4_code 105 = .ok (.aload_n 0, 1) := by decide +kernel
theorem d_Fits_seekTry_106 : decode prog_4_method_4_code 106 = .ok (.getfield 52, 3) := by decide +kernel
theorem d_Fits_seekTry_109 : decode prog_4_method_4_code 109 = .ok (.iconst (-1), 1) := by decide +kernel
theorem d_Fits_seekTry_110 : decode prog_4_method_4_code 110 = .ok (.if_icmp .eq 12, 3) := by decide +kernel
theorem d_Fits_seekTry_122 : decode prog_4_method_4_code 122 = .ok (.aload_n 0, 1) := by decide +kernel
theorem d_Fits_seekTry_123 : decode prog_4_method_4_code 123 = .ok (.iload_n 3, 1) := by decide +kernel
theorem d_Fits_seekTry_124 : decode prog_4_method_4_code 124 = .ok (.putfield 52, 3) := by decide +kernel
theorem d_Fits_seekTry_127 : decode prog_4_method_4_code 127 = .ok (.aload_n 0, 1) := by decide +kernel
theorem d_Fits_seekTry_128 : decode prog_4_method_4_code 128 = .ok (.iload 5, 2) := by decide +kernel
theorem d_Fits_seekTry_130 : decode prog_4_method_4_code 130 = .ok (.putfield 55, 3) := by decide +kernel
theorem d_Fits_seekTry_133 : decode prog_4_method_4_code 133 = .ok (.aload_n 1, 1) := by decide +kernel
theorem d_Fits_seekTry_134 : decode prog_4_method_4_code 134 = .ok (.aload_n 0, 1) := by decide +kernel
theorem d_Fits_seekTry_135 : decode prog_4_method_4_code 135 = .ok (.getfield 18, 3) := by decide +kernel
theorem d_Fits_seekTry_138 : decode prog_4_method_4_code 138 = .ok (.invokevirtual 67, 3) := by decide +kernel
theorem tb_ml_Fits_67 : mTB (Cond.methodLink "NineBars$Fits" 67 ⟨"NineBars$Box", "advance", "([I)V"⟩) := tbq6 76 (by decide +kernel) rfl
theorem d_Fits_seekTry_141 : decode prog_4_method_4_code 141 = .ok (.iinc 3 1, 3) := by decide +kernel
theorem d_Fits_seekTry_144 : decode prog_4_method_4_code 144 = .ok (.goto (-101), 3) := by decide +kernel
theorem d_Fits_seekTry_113 : decode prog_4_method_4_code 113 = .ok (.iload 5, 2) := by decide +kernel
theorem d_Fits_seekTry_115 : decode prog_4_method_4_code 115 = .ok (.aload_n 0, 1) := by decide +kernel
theorem d_Fits_seekTry_116 : decode prog_4_method_4_code 116 = .ok (.getfield 55, 3) := by decide +kernel
theorem d_Fits_seekTry_119 : decode prog_4_method_4_code 119 = .ok (.if_icmp .ge 14, 3) := by decide +kernel
theorem t_Fits_seekTry_L17 {G : mG} {r : mR} {v0 v1 : Int} {K36 : mH → Option mR} (hK36 : ∀ (h : mH) , K36 h  = some r → mJ G M_Fits_seekTry 36 [(2, v0), (2, v1), (9, 0), (9, 0), (9, 0), (9, 0)] [] h r) : ∀ (n : Nat) (h : mH) (v2 : Int), f_Fits_seekTry_L17 K36 v0 n h v2 = some r → mJ G M_Fits_seekTry 17 [(2, v0), (2, v1), (0, v2), (9, 0), (9, 0), (9, 0)] [] h r := by
  intro n
  induction n with
  | zero =>
    intro h v2 hr
    rw [f_Fits_seekTry_L17] at hr
    cases hr
  | succ n hR17 =>
    intro h v2 hr
    rw [f_Fits_seekTry_L17] at hr
    refine j_iload_n (pc := 17) d_Fits_seekTry_17 rfl ?_
    refine j_bipush (pc := 18) d_Fits_seekTry_18 ?_
    refine j_icmp_ge (pc := 20) (tgt := 36) d_Fits_seekTry_20 hr (fun hr => ?_) (fun hr => ?_)
    · exact mJ_weak (ls' := [(2, v0), (2, v1), (9, 0), (9, 0), (9, 0), (9, 0)]) (mwk_s (mwk_s (mwk_d (mwk_s (mwk_s (mwk_s mwk_n)))))) (hK36 h  hr)
    · refine j_aload_n (pc := 23) d_Fits_seekTry_23 rfl ?_
      refine j_getf (pc := 24) d_Fits_seekTry_24 (fd_Fits_18 rfl) hr (fun hr => ?_)
      refine j_iload_n (pc := 27) d_Fits_seekTry_27 rfl ?_
      refine j_iconst (pc := 28) d_Fits_seekTry_28 ?_
      refine j_iastore (pc := 29) d_Fits_seekTry_29 hr (fun h1 hr => ?_)
      refine j_iincW (pc := 30) (L := fun x2 => [(2, v0), (2, v1), (0, x2), (9, 0), (9, 0), (9, 0)]) d_Fits_seekTry_30 rfl (fun _ => rfl) hr (fun x2 hr => ?_)
      refine j_goto (pc := 33) (tgt := 17) d_Fits_seekTry_33 ?_
      exact mJ_weak (ls' := [(2, v0), (2, v1), (0, x2), (9, 0), (9, 0), (9, 0)]) (mwk_s (mwk_s (mwk_s (mwk_s (mwk_s (mwk_s mwk_n)))))) (hR17 h1 _ hr)
theorem t_Fits_seekTry_L54 {G : mG} {r : mR} {v0 v1 v2 v3 : Int} {K91 : mH → Int → Option mR} (hK91 : ∀ (h : mH) (w4 : Int) , K91 h w4 = some r → mJ G M_Fits_seekTry 91 [(2, v0), (2, v1), (0, v2), (0, v3), (0, w4), (9, 0)] [] h r) : ∀ (n : Nat) (h : mH) (v4 v5 : Int), f_Fits_seekTry_L54 K91 v0 v1 n h v4 v5 = some r → mJ G M_Fits_seekTry 54 [(2, v0), (2, v1), (0, v2), (0, v3), (0, v4), (0, v5)] [] h r := by
  intro n
  induction n with
  | zero =>
    intro h v4 v5 hr
    rw [f_Fits_seekTry_L54] at hr
    cases hr
  | succ n hR54 =>
    intro h v4 v5 hr
    rw [f_Fits_seekTry_L54] at hr
    refine j_iload (pc := 54) d_Fits_seekTry_54 rfl ?_
    refine j_aload_n (pc := 56) d_Fits_seekTry_56 rfl ?_
    refine j_getf (pc := 57) d_Fits_seekTry_57 (fd_Fits_25 rfl) hr (fun hr => ?_)
    refine j_icmp_ge (pc := 60) (tgt := 91) d_Fits_seekTry_60 hr (fun hr => ?_) (fun hr => ?_)
    · exact mJ_weak (ls' := [(2, v0), (2, v1), (0, v2), (0, v3), (0, v4), (9, 0)]) (mwk_s (mwk_s (mwk_s (mwk_s (mwk_s (mwk_d mwk_n)))))) (hK91 h _ hr)
    · refine j_iload (pc := 63) d_Fits_seekTry_63 rfl ?_
      refine j_aload_n (pc := 65) d_Fits_seekTry_65 rfl ?_
      refine j_getf (pc := 66) d_Fits_seekTry_66 (fd_Fits_15 rfl) hr (fun hr => ?_)
      refine j_iconst (pc := 69) d_Fits_seekTry_69 ?_
      refine j_iload (pc := 70) d_Fits_seekTry_70 rfl ?_
      refine j_imul (pc := 72) d_Fits_seekTry_72 ?_
      refine j_aload_n (pc := 73) d_Fits_seekTry_73 rfl ?_
      refine j_getf (pc := 74) d_Fits_seekTry_74 (fd_Fits_18 rfl) hr (fun hr => ?_)
      refine j_iload (pc := 77) d_Fits_seekTry_77 rfl ?_
      refine j_iaload (pc := 79) d_Fits_seekTry_79 hr (fun hr => ?_)
      refine j_iadd (pc := 80) d_Fits_seekTry_80 ?_
      refine j_iaload (pc := 81) d_Fits_seekTry_81 hr (fun hr => ?_)
      refine j_iadd (pc := 82) d_Fits_seekTry_82 ?_
      refine j_istoreW (pc := 83) (L := fun x1 => [(2, v0), (2, v1), (0, v2), (0, v3), (0, x1), (0, v5)]) d_Fits_seekTry_83 (fun _ => rfl) hr (fun x1 hr => ?_)
      refine j_iincW (pc := 85) (L := fun x2 => [(2, v0), (2, v1), (0, v2), (0, v3), (0, x1), (0, x2)]) d_Fits_seekTry_85 rfl (fun _ => rfl) hr (fun x2 hr => ?_)
      refine j_goto (pc := 88) (tgt := 54) d_Fits_seekTry_88 ?_
      exact mJ_weak (ls' := [(2, v0), (2, v1), (0, v2), (0, v3), (0, x1), (0, x2)]) (mwk_s (mwk_s (mwk_s (mwk_s (mwk_s (mwk_s mwk_n)))))) (hR54 h _ _ hr)
theorem t_Fits_seekTry_J133 {G : mG} {r : mR} {v0 v1 v2 v3 : Int} {h : mH} {R43 : mH → Int → Option mR} (hR43 : ∀ (h : mH) (w3 : Int) , R43 h w3 = some r → mJ G M_Fits_seekTry 43 [(2, v0), (2, v1), (0, v2), (0, w3), (9, 0), (9, 0)] [] h r) (hr : f_Fits_seekTry_J133 R43 v0 v1 v3 h = some r) : mJ G M_Fits_seekTry 133 [(2, v0), (2, v1), (0, v2), (0, v3), (9, 0), (9, 0)] [] h r := by
  unfold f_Fits_seekTry_J133 at hr
  refine j_aload_n (pc := 133) d_Fits_seekTry_133 rfl ?_
  refine j_aload_n (pc := 134) d_Fits_seekTry_134 rfl ?_
  refine j_getf (pc := 135) d_Fits_seekTry_135 (fd_Fits_18 rfl) hr (fun hr => ?_)
  obtain ⟨ha, hr⟩ := chk_some hr
  refine j_callG (pc := 138) (stk := [(2, hpV h v0 2), (2, v1)]) (as := [(2, v1), (2, hpV h v0 2)]) (P := (fun v9 => [])) (tg := 3) (My := M_Box_advance) (mRunV (as := [(2, hpV h v0 2)]) (st := []) d_Fits_seekTry_138 (mc_Box_advance (by decide)) rfl (mv_Box_advance tb_ml_Fits_67) rfl (Nat.le_of_ble_eq_true rfl) ha) (fun v => rfl) rfl hr (fun r1 h1 => t_Box_advance _ _ _ _ h1) (fun x2 h1 hr => ?_)
  refine j_iincW (pc := 141) (L := fun x3 => [(2, v0), (2, v1), (0, v2), (0, x3), (9, 0), (9, 0)]) d_Fits_seekTry_141 rfl (fun _ => rfl) hr (fun x3 hr => ?_)
  refine j_goto (pc := 144) (tgt := 43) d_Fits_seekTry_144 ?_
  exact mJ_weak (ls' := [(2, v0), (2, v1), (0, v2), (0, x3), (9, 0), (9, 0)]) (mwk_s (mwk_s (mwk_s (mwk_s (mwk_s (mwk_s mwk_n)))))) (hR43 h1 _ hr)
theorem t_Fits_seekTry_J122 {G : mG} {r : mR} {v0 v1 v2 v3 v5 : Int} {h : mH} {R43 : mH → Int → Option mR} (hR43 : ∀ (h : mH) (w3 : Int) , R43 h w3 = some r → mJ G M_Fits_seekTry 43 [(2, v0), (2, v1), (0, v2), (0, w3), (9, 0), (9, 0)] [] h r) (hr : f_Fits_seekTry_J122 R43 v0 v1 v3 v5 h = some r) : mJ G M_Fits_seekTry 122 [(2, v0), (2, v1), (0, v2), (0, v3), (9, 0), (0, v5)] [] h r := by
  unfold f_Fits_seekTry_J122 at hr
  refine j_aload_n (pc := 122) d_Fits_seekTry_122 rfl ?_
  refine j_iload_n (pc := 123) d_Fits_seekTry_123 rfl ?_
  refine j_puti (pc := 124) d_Fits_seekTry_124 (fd_Fits_52 rfl) (⟨_, _, _, rfl, Or.inl rfl, rfl⟩ : mFldW M_Fits_seekTry 52 2 4 .int) hr (fun h1 hr => ?_)
  refine j_aload_n (pc := 127) d_Fits_seekTry_127 rfl ?_
  refine j_iload (pc := 128) d_Fits_seekTry_128 rfl ?_
  refine j_puti (pc := 130) d_Fits_seekTry_130 (fd_Fits_55 rfl) (⟨_, _, _, rfl, Or.inl rfl, rfl⟩ : mFldW M_Fits_seekTry 55 2 5 .int) hr (fun h2 hr => ?_)
  exact mJ_weak (ls' := [(2, v0), (2, v1), (0, v2), (0, v3), (9, 0), (9, 0)]) (mwk_s (mwk_s (mwk_s (mwk_s (mwk_s (mwk_d mwk_n)))))) (t_Fits_seekTry_J133 hR43 hr)
theorem t_Fits_seekTry_L43 {G : mG} {r : mR} {v0 v1 v2 : Int}  : ∀ (n : Nat) (h : mH) (v3 : Int), f_Fits_seekTry_L43 v0 v1 v2 n h v3 = some r → mJ G M_Fits_seekTry 43 [(2, v0), (2, v1), (0, v2), (0, v3), (9, 0), (9, 0)] [] h r := by
  intro n
  induction n with
  | zero =>
    intro h v3 hr
    rw [f_Fits_seekTry_L43] at hr
    cases hr
  | succ n hR43 =>
    intro h v3 hr
    rw [f_Fits_seekTry_L43] at hr
    refine j_iload_n (pc := 43) d_Fits_seekTry_43 rfl ?_
    refine j_iload_n (pc := 44) d_Fits_seekTry_44 rfl ?_
    refine j_icmp_ge (pc := 45) (tgt := 147) d_Fits_seekTry_45 hr (fun hr => ?_) (fun hr => ?_)
    · exact j_vret (pc := 147) d_Fits_seekTry_147 rfl hr
    · refine j_iconst (pc := 48) d_Fits_seekTry_48 ?_
      refine j_istore (pc := 49) (ls' := [(2, v0), (2, v1), (0, v2), (0, v3), (0, 0), (9, 0)]) d_Fits_seekTry_49 rfl ?_
      refine j_iconst (pc := 51) d_Fits_seekTry_51 ?_
      refine j_istore (pc := 52) (ls' := [(2, v0), (2, v1), (0, v2), (0, v3), (0, 0), (0, 0)]) d_Fits_seekTry_52 rfl ?_
      refine mJ_weak (ls' := [(2, v0), (2, v1), (0, v2), (0, v3), (0, 0), (0, 0)]) (mwk_s (mwk_s (mwk_s (mwk_s (mwk_s (mwk_s mwk_n)))))) (t_Fits_seekTry_L54 (fun h1 x2 hr => ?_) _ _ _ _ hr)
      · refine j_iload (pc := 91) d_Fits_seekTry_91 rfl ?_
        refine j_aload_n (pc := 93) d_Fits_seekTry_93 rfl ?_
        refine j_getf (pc := 94) d_Fits_seekTry_94 (fd_Fits_21 rfl) hr (fun hr => ?_)
        refine j_iload (pc := 97) d_Fits_seekTry_97 rfl ?_
        refine j_isub (pc := 99) d_Fits_seekTry_99 ?_
        refine j_max (pc := 100) d_Fits_seekTry_100 tb_ml_Fits_62 tb_sm_Math_max tb_in_java_lang_Math tb_co_Math_max (Nat.le_of_ble_eq_true rfl) ?_
        refine j_istoreW (pc := 103) (L := fun x3 => [(2, v0), (2, v1), (0, v2), (0, v3), (0, x2), (0, x3)]) d_Fits_seekTry_103 (fun _ => rfl) hr (fun x3 hr => ?_)
        refine j_aload_n (pc := 105) d_Fits_seekTry_105 rfl ?_
        refine j_getf (pc := 106) d_Fits_seekTry_106 (fd_Fits_52 rfl) hr (fun hr => ?_)
        refine j_iconst (pc := 109) d_Fits_seekTry_109 ?_
        refine j_icmp_eq (pc := 110) (tgt := 122) d_Fits_seekTry_110 hr (fun hr => ?_) (fun hr => ?_)
        · exact mJ_weak (ls' := [(2, v0), (2, v1), (0, v2), (0, v3), (9, 0), (0, x3)]) (mwk_s (mwk_s (mwk_s (mwk_s (mwk_d (mwk_s mwk_n)))))) (t_Fits_seekTry_J122 hR43 hr)
        · refine j_iload (pc := 113) d_Fits_seekTry_113 rfl ?_
          refine j_aload_n (pc := 115) d_Fits_seekTry_115 rfl ?_
          refine j_getf (pc := 116) d_Fits_seekTry_116 (fd_Fits_55 rfl) hr (fun hr => ?_)
          refine j_icmp_ge (pc := 119) (tgt := 133) d_Fits_seekTry_119 hr (fun hr => ?_) (fun hr => ?_)
          · exact mJ_weak (ls' := [(2, v0), (2, v1), (0, v2), (0, v3), (9, 0), (9, 0)]) (mwk_s (mwk_s (mwk_s (mwk_s (mwk_d (mwk_d mwk_n)))))) (t_Fits_seekTry_J133 hR43 hr)
          · exact mJ_weak (ls' := [(2, v0), (2, v1), (0, v2), (0, v3), (9, 0), (0, x3)]) (mwk_s (mwk_s (mwk_s (mwk_s (mwk_d (mwk_s mwk_n)))))) (t_Fits_seekTry_J122 hR43 hr)
theorem t_Fits_seekTry {G : mG} (h : mH) (v0 v1 : Int) (r : mR) (hr : f_Fits_seekTry h v0 v1 = some r) : mJM G M_Fits_seekTry [(2, v0), (2, v1)] h r := by
  refine mJM_of (L := [(2, v0), (2, v1), (9, 0), (9, 0), (9, 0), (9, 0)]) rfl rfl rfl (Nat.le_of_ble_eq_true rfl) ?_
  unfold f_Fits_seekTry at hr
  refine j_aload_n (pc := 0) d_Fits_seekTry_0 rfl ?_
  refine j_aload_n (pc := 1) d_Fits_seekTry_1 rfl ?_
  obtain ⟨ha, hr⟩ := chk_some hr
  refine j_callG (pc := 2) (stk := [(2, v1), (2, v0)]) (as := [(2, v0), (2, v1)]) (P := (fun v9 => [])) (tg := 3) (My := M_Fits_countHolding) (mRunV (as := [(2, v1)]) (st := []) d_Fits_seekTry_2 (mc_Fits_countHolding (by decide)) rfl (mv_Fits_countHolding tb_ml_Fits_48) rfl (Nat.le_of_ble_eq_true rfl) ha) (fun v => rfl) rfl hr (fun r1 h1 => t_Fits_countHolding _ _ _ _ h1) (fun x2 h1 hr => ?_)
  refine j_aload_n (pc := 5) d_Fits_seekTry_5 rfl ?_
  refine j_iconst (pc := 6) d_Fits_seekTry_6 ?_
  refine j_puti (pc := 7) d_Fits_seekTry_7 (fd_Fits_52 rfl) (⟨_, _, _, rfl, Or.inl rfl, rfl⟩ : mFldW M_Fits_seekTry 52 2 4 .int) hr (fun h3 hr => ?_)
  refine j_aload_n (pc := 10) d_Fits_seekTry_10 rfl ?_
  refine j_iconst (pc := 11) d_Fits_seekTry_11 ?_
  refine j_puti (pc := 12) d_Fits_seekTry_12 (fd_Fits_55 rfl) (⟨_, _, _, rfl, Or.inl rfl, rfl⟩ : mFldW M_Fits_seekTry 55 2 5 .int) hr (fun h4 hr => ?_)
  refine j_iconst (pc := 15) d_Fits_seekTry_15 ?_
  refine j_istore_n (pc := 16) (ls' := [(2, v0), (2, v1), (0, 0), (9, 0), (9, 0), (9, 0)]) d_Fits_seekTry_16 rfl ?_
  refine mJ_weak (ls' := [(2, v0), (2, v1), (0, 0), (9, 0), (9, 0), (9, 0)]) (mwk_s (mwk_s (mwk_s (mwk_s (mwk_s (mwk_s mwk_n)))))) (t_Fits_seekTry_L17 (fun h5  hr => ?_) _ _ _ hr)
  · refine j_aload_n (pc := 36) d_Fits_seekTry_36 rfl ?_
    obtain ⟨ha, hr⟩ := chk_some hr
    refine j_callG (pc := 37) (stk := [(2, v1)]) (as := [(2, v1)]) (P := (fun v9 => ((0 : Nat), v9) :: [])) (tg := 0) (My := M_Box_standCount) (mRunV (as := []) (st := []) d_Fits_seekTry_37 (mc_Box_standCount (by decide)) rfl (mv_Box_standCount tb_ml_Fits_58) rfl (Nat.le_of_ble_eq_true rfl) ha) (fun v => rfl) rfl hr (fun r1 h1 => t_Box_standCount _ _ _ h1) (fun x7 h6 hr => ?_)
    refine j_istore_n (pc := 40) (ls' := [(2, v0), (2, v1), (0, x7), (9, 0), (9, 0), (9, 0)]) d_Fits_seekTry_40 rfl ?_
    refine j_iconst (pc := 41) d_Fits_seekTry_41 ?_
    refine j_istore_n (pc := 42) (ls' := [(2, v0), (2, v1), (0, x7), (0, 0), (9, 0), (9, 0)]) d_Fits_seekTry_42 rfl ?_
    refine mJ_weak (ls' := [(2, v0), (2, v1), (0, x7), (0, 0), (9, 0), (9, 0)]) (mwk_s (mwk_s (mwk_s (mwk_s (mwk_s (mwk_s mwk_n)))))) (t_Fits_seekTry_L43  _ _ _ hr)
def M_Nb_tries : mM := ("NineBars", ⟨"NineBars", "tries", "(III)I"⟩, prog_1_method_36_code, 4, some .int, [], 9)
theorem tb_co_Nb_tries : mTB (Cond.code ⟨"NineBars", "tries", "(III)I"⟩ prog_1_method_36_code 4 (some .int)) := tbq6 64 (by decide +kernel) rfl
theorem mc_Nb_tries {M : mM} (hd : 9 < mDp M) : mCal M M_Nb_tries 3 := ⟨tb_co_Nb_tries, tb_in_NineBars, ⟨by decide +kernel, by decide +kernel⟩, by decide +kernel, hd, by decide⟩
theorem d_Nb_tries_0 : decode prog_1_method_36_code 0 = .ok (.aload_n 0, 1) := by decide +kernel
theorem d_Nb_tries_1 : decode prog_1_method_36_code 1 = .ok (.iload_n 1, 1) := by decide +kernel
theorem d_Nb_tries_2 : decode prog_1_method_36_code 2 = .ok (.iload_n 2, 1) := by decide +kernel
theorem d_Nb_tries_3 : decode prog_1_method_36_code 3 = .ok (.invokevirtual 365, 3) := by decide +kernel
theorem d_Nb_tries_6 : decode prog_1_method_36_code 6 = .ok (.iload_n 3, 1) := by decide +kernel
theorem d_Nb_tries_7 : decode prog_1_method_36_code 7 = .ok (.ifCond .eq 19, 3) := by decide +kernel
theorem d_Nb_tries_26 : decode prog_1_method_36_code 26 = .ok (.aload_n 0, 1) := by decide +kernel
theorem d_Nb_tries_27 : decode prog_1_method_36_code 27 = .ok (.getfield 98, 3) := by decide +kernel
theorem d_Nb_tries_30 : decode prog_1_method_36_code 30 = .ok (.getfield 368, 3) := by decide +kernel
theorem d_Nb_tries_33 : decode prog_1_method_36_code 33 = .ok (.iconst 2, 1) := by decide +kernel
theorem d_Nb_tries_34 : decode prog_1_method_36_code 34 = .ok (.if_icmp .ge 5, 3) := by decide +kernel
theorem d_Nb_tries_39 : decode prog_1_method_36_code 39 = .ok (.aload_n 0, 1) := by decide +kernel
theorem d_Nb_tries_40 : decode prog_1_method_36_code 40 = .ok (.getfield 98, 3) := by decide +kernel
theorem d_Nb_tries_43 : decode prog_1_method_36_code 43 = .ok (.aload_n 0, 1) := by decide +kernel
theorem d_Nb_tries_44 : decode prog_1_method_36_code 44 = .ok (.getfield 27, 3) := by decide +kernel
theorem d_Nb_tries_47 : decode prog_1_method_36_code 47 = .ok (.invokevirtual 372, 3) := by decide +kernel
theorem tb_ml_Nb_372 : mTB (Cond.methodLink "NineBars" 372 ⟨"NineBars$Fits", "seekTry", "(LNineBars$Box;)V"⟩) := tbq6 65 (by decide +kernel) rfl
theorem tb_im_Fits_seekTry : mTB (Cond.instanceMethod ⟨"NineBars$Fits", "seekTry", "(LNineBars$Box;)V"⟩) := tbq6 66 (by decide +kernel) rfl
theorem tb_se_Fits_seekTry : mTB (Cond.selects "NineBars$Fits" ⟨"NineBars$Fits", "seekTry", "(LNineBars$Box;)V"⟩ ⟨"NineBars$Fits", "seekTry", "(LNineBars$Box;)V"⟩) := tbq6 67 (by decide +kernel) rfl
theorem mv_Fits_seekTry {M : mM} {idx : Nat} (h : mTB (Cond.methodLink (mO M) idx ⟨"NineBars$Fits", "seekTry", "(LNineBars$Box;)V"⟩)) : mCaV M M_Fits_seekTry idx 2 := ⟨h, tb_im_Fits_seekTry, tb_se_Fits_seekTry, by decide, TX2, 6, rfl⟩
theorem d_Nb_tries_50 : decode prog_1_method_36_code 50 = .ok (.iload_n 3, 1) := by decide +kernel
theorem d_Nb_tries_51 : decode prog_1_method_36_code 51 = .ok (.ifCond .ne 13, 3) := by decide +kernel
theorem d_Nb_tries_64 : decode prog_1_method_36_code 64 = .ok (.aload_n 0, 1) := by decide +kernel
theorem d_Nb_tries_65 : decode prog_1_method_36_code 65 = .ok (.getfield 98, 3) := by decide +kernel
theorem tb_fl_Nb_378 : mTN (Cond.fieldLinkNest "NineBars" 378 "NineBars$Fits" "tryLeft" "I" "NineBars") := tbqn2 143 (by decide +kernel) rfl
theorem fd_Nb_378 {M : mM} (h : mO M = "NineBars") : mFld M 378 2 5 0 := ⟨_, _, _, tyX2, rfl, by decide, by decide, rfl, uw_2, tyX2_ok, nmX2, by rw [h]; exact Or.inr ⟨_, tb_fl_Nb_378⟩⟩
theorem d_Nb_tries_68 : decode prog_1_method_36_code 68 = .ok (.getfield 378, 3) := by decide +kernel
theorem d_Nb_tries_71 : decode prog_1_method_36_code 71 = .ok (.ireturn, 1) := by decide +kernel
theorem d_Nb_tries_54 : decode prog_1_method_36_code 54 = .ok (.aload_n 0, 1) := by decide +kernel
theorem d_Nb_tries_55 : decode prog_1_method_36_code 55 = .ok (.getfield 98, 3) := by decide +kernel
theorem tb_fl_Nb_375 : mTN (Cond.fieldLinkNest "NineBars" 375 "NineBars$Fits" "tryStand" "I" "NineBars") := tbqn2 141 (by decide +kernel) rfl
theorem fd_Nb_375 {M : mM} (h : mO M = "NineBars") : mFld M 375 2 4 0 := ⟨_, _, _, tyX2, rfl, by decide, by decide, rfl, uw_2, tyX2_ok, nmX2, by rw [h]; exact Or.inr ⟨_, tb_fl_Nb_375⟩⟩
theorem d_Nb_tries_58 : decode prog_1_method_36_code 58 = .ok (.getfield 375, 3) := by decide +kernel
theorem d_Nb_tries_61 : decode prog_1_method_36_code 61 = .ok (.goto 10, 3) := by decide +kernel
theorem d_Nb_tries_37 : decode prog_1_method_36_code 37 = .ok (.iconst (-1), 1) := by decide +kernel
theorem d_Nb_tries_38 : decode prog_1_method_36_code 38 = .ok (.ireturn, 1) := by decide +kernel
theorem d_Nb_tries_10 : decode prog_1_method_36_code 10 = .ok (.iload_n 3, 1) := by decide +kernel
theorem d_Nb_tries_11 : decode prog_1_method_36_code 11 = .ok (.iconst 1, 1) := by decide +kernel
theorem d_Nb_tries_12 : decode prog_1_method_36_code 12 = .ok (.if_icmp .eq 14, 3) := by decide +kernel
theorem d_Nb_tries_15 : decode prog_1_method_36_code 15 = .ok (.new 109, 3) := by decide +kernel
theorem d_Nb_tries_18 : decode prog_1_method_36_code 18 = .ok (.dup, 1) := by decide +kernel
theorem d_Nb_tries_19 : decode prog_1_method_36_code 19 = .ok (.ldc_w 281, 3) := by decide +kernel
theorem d_Nb_tries_22 : decode prog_1_method_36_code 22 = .ok (.invokespecial 113, 3) := by decide +kernel
theorem d_Nb_tries_25 : decode prog_1_method_36_code 25 = .ok (.athrow, 1) := by decide +kernel
theorem t_Nb_tries_J26 {G : mG} {r : mR} {v0 v3 : Int} {h : mH}  (hr : f_Nb_tries_J26 v0 v3 h = some r) : mJ G M_Nb_tries 26 [(2, v0), (9, 0), (9, 0), (0, v3)] [] h r := by
  unfold f_Nb_tries_J26 at hr
  refine j_aload_n (pc := 26) d_Nb_tries_26 rfl ?_
  refine j_getf (pc := 27) d_Nb_tries_27 (fd_Nb_98 rfl) hr (fun hr => ?_)
  refine j_getf (pc := 30) d_Nb_tries_30 (fd_Nb_368 rfl) hr (fun hr => ?_)
  refine j_iconst (pc := 33) d_Nb_tries_33 ?_
  refine j_icmp_ge (pc := 34) (tgt := 39) d_Nb_tries_34 hr (fun hr => ?_) (fun hr => ?_)
  · refine j_aload_n (pc := 39) d_Nb_tries_39 rfl ?_
    refine j_getf (pc := 40) d_Nb_tries_40 (fd_Nb_98 rfl) hr (fun hr => ?_)
    refine j_aload_n (pc := 43) d_Nb_tries_43 rfl ?_
    refine j_getf (pc := 44) d_Nb_tries_44 (fd_Nb_27 rfl) hr (fun hr => ?_)
    obtain ⟨ha, hr⟩ := chk_some hr
    refine j_callG (pc := 47) (stk := [(2, hpV h v0 6), (2, hpV h v0 18)]) (as := [(2, hpV h v0 18), (2, hpV h v0 6)]) (P := (fun v9 => [])) (tg := 3) (My := M_Fits_seekTry) (mRunV (as := [(2, hpV h v0 6)]) (st := []) d_Nb_tries_47 (mc_Fits_seekTry (by decide)) rfl (mv_Fits_seekTry tb_ml_Nb_372) rfl (Nat.le_of_ble_eq_true rfl) ha) (fun v => rfl) rfl hr (fun r1 h1 => t_Fits_seekTry _ _ _ _ h1) (fun x2 h1 hr => ?_)
    refine j_iload_n (pc := 50) d_Nb_tries_50 rfl ?_
    refine j_if_ne (pc := 51) (tgt := 64) d_Nb_tries_51 hr (fun hr => ?_) (fun hr => ?_)
    · refine j_aload_n (pc := 64) d_Nb_tries_64 rfl ?_
      refine j_getf (pc := 65) d_Nb_tries_65 (fd_Nb_98 rfl) hr (fun hr => ?_)
      refine j_getf (pc := 68) d_Nb_tries_68 (fd_Nb_378 rfl) hr (fun hr => ?_)
      exact j_iret (pc := 71) d_Nb_tries_71 rfl hr
    · refine j_aload_n (pc := 54) d_Nb_tries_54 rfl ?_
      refine j_getf (pc := 55) d_Nb_tries_55 (fd_Nb_98 rfl) hr (fun hr => ?_)
      refine j_getf (pc := 58) d_Nb_tries_58 (fd_Nb_375 rfl) hr (fun hr => ?_)
      refine j_goto (pc := 61) (tgt := 71) d_Nb_tries_61 ?_
      exact j_iret (pc := 71) d_Nb_tries_71 rfl hr
  · refine j_iconst (pc := 37) d_Nb_tries_37 ?_
    exact j_iret (pc := 38) d_Nb_tries_38 rfl hr
theorem t_Nb_tries {G : mG} (h : mH) (v0 v1 v2 v3 : Int) (r : mR) (hr : f_Nb_tries h v0 v1 v2 v3 = some r) : mJM G M_Nb_tries [(2, v0), (0, v1), (0, v2), (0, v3)] h r := by
  refine mJM_of (L := [(2, v0), (0, v1), (0, v2), (0, v3)]) rfl rfl rfl (Nat.le_of_ble_eq_true rfl) ?_
  unfold f_Nb_tries at hr
  refine j_aload_n (pc := 0) d_Nb_tries_0 rfl ?_
  refine j_iload_n (pc := 1) d_Nb_tries_1 rfl ?_
  refine j_iload_n (pc := 2) d_Nb_tries_2 rfl ?_
  obtain ⟨ha, hr⟩ := chk_some hr
  refine j_callG (pc := 3) (stk := [(0, v2), (0, v1), (2, v0)]) (as := [(2, v0), (0, v1), (0, v2)]) (P := (fun v9 => [])) (tg := 3) (My := M_Nb_findFits) (mRunV (as := [(0, v1), (0, v2)]) (st := []) d_Nb_tries_3 (mc_Nb_findFits (by decide)) rfl (mv_Nb_findFits tb_ml_Nb_365) rfl (Nat.le_of_ble_eq_true rfl) ha) (fun v => rfl) rfl hr (fun r1 h1 => t_Nb_findFits _ _ _ _ _ h1) (fun x2 h1 hr => ?_)
  refine j_iload_n (pc := 6) d_Nb_tries_6 rfl ?_
  refine j_if_eq (pc := 7) (tgt := 26) d_Nb_tries_7 hr (fun hr => ?_) (fun hr => ?_)
  · exact mJ_weak (ls' := [(2, v0), (9, 0), (9, 0), (0, v3)]) (mwk_s (mwk_d (mwk_d (mwk_s mwk_n)))) (t_Nb_tries_J26  hr)
  · refine j_iload_n (pc := 10) d_Nb_tries_10 rfl ?_
    refine j_iconst (pc := 11) d_Nb_tries_11 ?_
    refine j_icmp_eq (pc := 12) (tgt := 26) d_Nb_tries_12 hr (fun hr => ?_) (fun hr => ?_)
    · exact mJ_weak (ls' := [(2, v0), (9, 0), (9, 0), (0, v3)]) (mwk_s (mwk_d (mwk_d (mwk_s mwk_n)))) (t_Nb_tries_J26  hr)
    · exact j_throwW (pc := 15) (x9 := 7) (text := "what is 0 or 1") (k := 22) d_Nb_tries_15 d_Nb_tries_18 d_Nb_tries_19 d_Nb_tries_22 d_Nb_tries_25 rfl (by decide +kernel) tb_cl_Nb_109 tb_in_java_lang_IllegalArgumentException (by decide +kernel) rfl (Nat.le_of_ble_eq_true rfl) hr
def M_Counter_rowsFrom : mM := ("NineBars$Counter", ⟨"NineBars$Counter", "rowsFrom", "(LNineBars$Graph;III)J"⟩, prog_3_method_4_code, 8, some .long, [], 5)
theorem tb_co_Counter_rowsFrom : mTB (Cond.code ⟨"NineBars$Counter", "rowsFrom", "(LNineBars$Graph;III)J"⟩ prog_3_method_4_code 8 (some .long)) := tbq6 88 (by decide +kernel) rfl
theorem mc_Counter_rowsFrom {M : mM} (hd : 5 < mDp M) : mCal M M_Counter_rowsFrom 4 := ⟨tb_co_Counter_rowsFrom, tb_in_NineBars_Counter, ⟨by decide +kernel, by decide +kernel⟩, by decide +kernel, hd, by decide⟩
theorem d_Counter_rowsFrom_0 : decode prog_3_method_4_code 0 = .ok (.iload_n 2, 1) := by decide +kernel
theorem d_Counter_rowsFrom_1 : decode prog_3_method_4_code 1 = .ok (.iload 4, 2) := by decide +kernel
theorem d_Counter_rowsFrom_3 : decode prog_3_method_4_code 3 = .ok (.if_icmp .ne 5, 3) := by decide +kernel
theorem d_Counter_rowsFrom_8 : decode prog_3_method_4_code 8 = .ok (.aload_n 0, 1) := by decide +kernel
theorem d_Counter_rowsFrom_9 : decode prog_3_method_4_code 9 = .ok (.aload_n 1, 1) := by decide +kernel
theorem d_Counter_rowsFrom_10 : decode prog_3_method_4_code 10 = .ok (.iload_n 2, 1) := by decide +kernel
theorem d_Counter_rowsFrom_11 : decode prog_3_method_4_code 11 = .ok (.invokevirtual 39, 3) := by decide +kernel
theorem d_Counter_rowsFrom_14 : decode prog_3_method_4_code 14 = .ok (.iconst 0, 1) := by decide +kernel
theorem d_Counter_rowsFrom_15 : decode prog_3_method_4_code 15 = .ok (.istore 5, 2) := by decide +kernel
theorem d_Counter_rowsFrom_17 : decode prog_3_method_4_code 17 = .ok (.iload 5, 2) := by decide +kernel
theorem d_Counter_rowsFrom_19 : decode prog_3_method_4_code 19 = .ok (.iload_n 3, 1) := by decide +kernel
theorem d_Counter_rowsFrom_20 : decode prog_3_method_4_code 20 = .ok (.if_icmp .ge 18, 3) := by decide +kernel
theorem d_Counter_rowsFrom_23 : decode prog_3_method_4_code 23 = .ok (.aload_n 0, 1) := by decide +kernel
theorem d_Counter_rowsFrom_24 : decode prog_3_method_4_code 24 = .ok (.aload_n 1, 1) := by decide +kernel
theorem d_Counter_rowsFrom_25 : decode prog_3_method_4_code 25 = .ok (.ldc 43, 2) := by decide +kernel
theorem d_Counter_rowsFrom_27 : decode prog_3_method_4_code 27 = .ok (.iload 4, 2) := by decide +kernel
theorem d_Counter_rowsFrom_29 : decode prog_3_method_4_code 29 = .ok (.invokevirtual 44, 3) := by decide +kernel
theorem d_Counter_rowsFrom_32 : decode prog_3_method_4_code 32 = .ok (.iinc 5 1, 3) := by decide +kernel
theorem d_Counter_rowsFrom_35 : decode prog_3_method_4_code 35 = .ok (.goto (-18), 3) := by decide +kernel
theorem d_Counter_rowsFrom_38 : decode prog_3_method_4_code 38 = .ok (.lconst 0, 1) := by decide +kernel
theorem d_Counter_rowsFrom_39 : decode prog_3_method_4_code 39 = .ok (.lstore 5, 2) := by decide +kernel
theorem d_Counter_rowsFrom_41 : decode prog_3_method_4_code 41 = .ok (.iconst 0, 1) := by decide +kernel
theorem d_Counter_rowsFrom_42 : decode prog_3_method_4_code 42 = .ok (.istore 7, 2) := by decide +kernel
theorem d_Counter_rowsFrom_44 : decode prog_3_method_4_code 44 = .ok (.iload 7, 2) := by decide +kernel
theorem d_Counter_rowsFrom_46 : decode prog_3_method_4_code 46 = .ok (.aload_n 1, 1) := by decide +kernel
theorem d_Counter_rowsFrom_47 : decode prog_3_method_4_code 47 = .ok (.getfield 18, 3) := by decide +kernel
theorem d_Counter_rowsFrom_50 : decode prog_3_method_4_code 50 = .ok (.if_icmp .ge 31, 3) := by decide +kernel
theorem d_Counter_rowsFrom_81 : decode prog_3_method_4_code 81 = .ok (.lload 5, 2) := by decide +kernel
theorem d_Counter_rowsFrom_83 : decode prog_3_method_4_code 83 = .ok (.lreturn, 1) := by decide +kernel
theorem d_Counter_rowsFrom_53 : decode prog_3_method_4_code 53 = .ok (.iload 7, 2) := by decide +kernel
theorem d_Counter_rowsFrom_55 : decode prog_3_method_4_code 55 = .ok (.aload_n 0, 1) := by decide +kernel
theorem d_Counter_rowsFrom_56 : decode prog_3_method_4_code 56 = .ok (.getfield 9, 3) := by decide +kernel
theorem d_Counter_rowsFrom_59 : decode prog_3_method_4_code 59 = .ok (.arraylength, 1) := by decide +kernel
theorem d_Counter_rowsFrom_60 : decode prog_3_method_4_code 60 = .ok (.if_icmp .ge 21, 3) := by decide +kernel
theorem d_Counter_rowsFrom_63 : decode prog_3_method_4_code 63 = .ok (.lload 5, 2) := by decide +kernel
theorem d_Counter_rowsFrom_65 : decode prog_3_method_4_code 65 = .ok (.aload_n 0, 1) := by decide +kernel
theorem d_Counter_rowsFrom_66 : decode prog_3_method_4_code 66 = .ok (.getfield 9, 3) := by decide +kernel
theorem d_Counter_rowsFrom_69 : decode prog_3_method_4_code 69 = .ok (.iload 7, 2) := by decide +kernel
theorem d_Counter_rowsFrom_71 : decode prog_3_method_4_code 71 = .ok (.laload, 1) := by decide +kernel
theorem d_Counter_rowsFrom_72 : decode prog_3_method_4_code 72 = .ok (.ladd, 1) := by decide +kernel
theorem d_Counter_rowsFrom_73 : decode prog_3_method_4_code 73 = .ok (.lstore 5, 2) := by decide +kernel
theorem d_Counter_rowsFrom_75 : decode prog_3_method_4_code 75 = .ok (.iinc 7 1, 3) := by decide +kernel
theorem d_Counter_rowsFrom_78 : decode prog_3_method_4_code 78 = .ok (.goto (-34), 3) := by decide +kernel
theorem d_Counter_rowsFrom_6 : decode prog_3_method_4_code 6 = .ok (.lconst 0, 1) := by decide +kernel
theorem d_Counter_rowsFrom_7 : decode prog_3_method_4_code 7 = .ok (.lreturn, 1) := by decide +kernel
theorem t_Counter_rowsFrom_L17 {G : mG} {r : mR} {v0 v1 v3 v4 : Int} {K38 : mH → Option mR} (hK38 : ∀ (h : mH) , K38 h  = some r → mJ G M_Counter_rowsFrom 38 [(2, v0), (2, v1), (9, 0), (9, 0), (9, 0), (9, 0), (9, 0), (9, 0)] [] h r) : ∀ (n : Nat) (h : mH) (v5 : Int), f_Counter_rowsFrom_L17 K38 v0 v1 v3 v4 n h v5 = some r → mJ G M_Counter_rowsFrom 17 [(2, v0), (2, v1), (9, 0), (0, v3), (0, v4), (0, v5), (9, 0), (9, 0)] [] h r := by
  intro n
  induction n with
  | zero =>
    intro h v5 hr
    rw [f_Counter_rowsFrom_L17] at hr
    cases hr
  | succ n hR17 =>
    intro h v5 hr
    rw [f_Counter_rowsFrom_L17] at hr
    refine j_iload (pc := 17) d_Counter_rowsFrom_17 rfl ?_
    refine j_iload_n (pc := 19) d_Counter_rowsFrom_19 rfl ?_
    refine j_icmp_ge (pc := 20) (tgt := 38) d_Counter_rowsFrom_20 hr (fun hr => ?_) (fun hr => ?_)
    · exact mJ_weak (ls' := [(2, v0), (2, v1), (9, 0), (9, 0), (9, 0), (9, 0), (9, 0), (9, 0)]) (mwk_s (mwk_s (mwk_s (mwk_d (mwk_d (mwk_d (mwk_s (mwk_s mwk_n)))))))) (hK38 h  hr)
    · refine j_aload_n (pc := 23) d_Counter_rowsFrom_23 rfl ?_
      refine j_aload_n (pc := 24) d_Counter_rowsFrom_24 rfl ?_
      refine j_ldc (pc := 25) (z := 262143) d_Counter_rowsFrom_25 tb_ci_Counter_43 rfl ?_
      refine j_iload (pc := 27) d_Counter_rowsFrom_27 rfl ?_
      obtain ⟨ha, hr⟩ := chk_some hr
      refine j_callG (pc := 29) (stk := [(0, v4), (0, 262143), (2, v1), (2, v0)]) (as := [(2, v0), (2, v1), (0, 262143), (0, v4)]) (P := (fun v9 => [])) (tg := 3) (My := M_Counter_leadOn) (mRunV (as := [(2, v1), (0, 262143), (0, v4)]) (st := []) d_Counter_rowsFrom_29 (mc_Counter_leadOn (by decide)) rfl (mv_Counter_leadOn tb_ml_Counter_44) rfl (Nat.le_of_ble_eq_true rfl) ha) (fun v => rfl) rfl hr (fun r1 h1 => t_Counter_leadOn _ _ _ _ _ _ h1) (fun x2 h1 hr => ?_)
      refine j_iincW (pc := 32) (L := fun x3 => [(2, v0), (2, v1), (9, 0), (0, v3), (0, v4), (0, x3), (9, 0), (9, 0)]) d_Counter_rowsFrom_32 rfl (fun _ => rfl) hr (fun x3 hr => ?_)
      refine j_goto (pc := 35) (tgt := 17) d_Counter_rowsFrom_35 ?_
      exact mJ_weak (ls' := [(2, v0), (2, v1), (9, 0), (0, v3), (0, v4), (0, x3), (9, 0), (9, 0)]) (mwk_s (mwk_s (mwk_s (mwk_s (mwk_s (mwk_s (mwk_s (mwk_s mwk_n)))))))) (hR17 h1 _ hr)
theorem t_Counter_rowsFrom_L44 {G : mG} {r : mR} {v0 v1 : Int}  : ∀ (n : Nat) (h : mH) (v5 v7 : Int), f_Counter_rowsFrom_L44 v0 v1 n h v5 v7 = some r → mJ G M_Counter_rowsFrom 44 [(2, v0), (2, v1), (9, 0), (9, 0), (9, 0), (1, v5), (9, 0), (0, v7)] [] h r := by
  intro n
  induction n with
  | zero =>
    intro h v5 v7 hr
    rw [f_Counter_rowsFrom_L44] at hr
    cases hr
  | succ n hR44 =>
    intro h v5 v7 hr
    rw [f_Counter_rowsFrom_L44] at hr
    refine j_iload (pc := 44) d_Counter_rowsFrom_44 rfl ?_
    refine j_aload_n (pc := 46) d_Counter_rowsFrom_46 rfl ?_
    refine j_getf (pc := 47) d_Counter_rowsFrom_47 (fd_Counter_18 rfl) hr (fun hr => ?_)
    refine j_icmp_ge (pc := 50) (tgt := 81) d_Counter_rowsFrom_50 hr (fun hr => ?_) (fun hr => ?_)
    · refine j_lload (pc := 81) d_Counter_rowsFrom_81 rfl ?_
      exact j_lret (pc := 83) d_Counter_rowsFrom_83 rfl hr
    · refine j_iload (pc := 53) d_Counter_rowsFrom_53 rfl ?_
      refine j_aload_n (pc := 55) d_Counter_rowsFrom_55 rfl ?_
      refine j_getf (pc := 56) d_Counter_rowsFrom_56 (fd_Counter_9 rfl) hr (fun hr => ?_)
      refine j_alen (pc := 59) d_Counter_rowsFrom_59 hr (fun hr => ?_)
      refine j_icmp_ge (pc := 60) (tgt := 81) d_Counter_rowsFrom_60 hr (fun hr => ?_) (fun hr => ?_)
      · refine j_lload (pc := 81) d_Counter_rowsFrom_81 rfl ?_
        exact j_lret (pc := 83) d_Counter_rowsFrom_83 rfl hr
      · refine j_lload (pc := 63) d_Counter_rowsFrom_63 rfl ?_
        refine j_aload_n (pc := 65) d_Counter_rowsFrom_65 rfl ?_
        refine j_getf (pc := 66) d_Counter_rowsFrom_66 (fd_Counter_9 rfl) hr (fun hr => ?_)
        refine j_iload (pc := 69) d_Counter_rowsFrom_69 rfl ?_
        refine j_laload (pc := 71) d_Counter_rowsFrom_71 hr (fun hr => ?_)
        refine j_ladd (pc := 72) d_Counter_rowsFrom_72 ?_
        refine j_lstoreW (pc := 73) (L := fun x1 => [(2, v0), (2, v1), (9, 0), (9, 0), (9, 0), (1, x1), (9, 0), (0, v7)]) d_Counter_rowsFrom_73 (fun _ => rfl) hr (fun x1 hr => ?_)
        refine j_iincW (pc := 75) (L := fun x2 => [(2, v0), (2, v1), (9, 0), (9, 0), (9, 0), (1, x1), (9, 0), (0, x2)]) d_Counter_rowsFrom_75 rfl (fun _ => rfl) hr (fun x2 hr => ?_)
        refine j_goto (pc := 78) (tgt := 44) d_Counter_rowsFrom_78 ?_
        exact mJ_weak (ls' := [(2, v0), (2, v1), (9, 0), (9, 0), (9, 0), (1, x1), (9, 0), (0, x2)]) (mwk_s (mwk_s (mwk_s (mwk_s (mwk_s (mwk_s (mwk_s (mwk_s mwk_n)))))))) (hR44 h _ _ hr)
theorem t_Counter_rowsFrom {G : mG} (h : mH) (v0 v1 v2 v3 v4 : Int) (r : mR) (hr : f_Counter_rowsFrom h v0 v1 v2 v3 v4 = some r) : mJM G M_Counter_rowsFrom [(2, v0), (2, v1), (0, v2), (0, v3), (0, v4)] h r := by
  refine mJM_of (L := [(2, v0), (2, v1), (0, v2), (0, v3), (0, v4), (9, 0), (9, 0), (9, 0)]) rfl rfl rfl (Nat.le_of_ble_eq_true rfl) ?_
  unfold f_Counter_rowsFrom at hr
  refine j_iload_n (pc := 0) d_Counter_rowsFrom_0 rfl ?_
  refine j_iload (pc := 1) d_Counter_rowsFrom_1 rfl ?_
  refine j_icmp_ne (pc := 3) (tgt := 8) d_Counter_rowsFrom_3 hr (fun hr => ?_) (fun hr => ?_)
  · refine j_aload_n (pc := 8) d_Counter_rowsFrom_8 rfl ?_
    refine j_aload_n (pc := 9) d_Counter_rowsFrom_9 rfl ?_
    refine j_iload_n (pc := 10) d_Counter_rowsFrom_10 rfl ?_
    obtain ⟨ha, hr⟩ := chk_some hr
    refine j_callG (pc := 11) (stk := [(0, v2), (2, v1), (2, v0)]) (as := [(2, v0), (2, v1), (0, v2)]) (P := (fun v9 => [])) (tg := 3) (My := M_Counter_begin) (mRunV (as := [(2, v1), (0, v2)]) (st := []) d_Counter_rowsFrom_11 (mc_Counter_begin (by decide)) rfl (mv_Counter_begin tb_ml_Counter_39) rfl (Nat.le_of_ble_eq_true rfl) ha) (fun v => rfl) rfl hr (fun r1 h1 => t_Counter_begin _ _ _ _ _ h1) (fun x2 h1 hr => ?_)
    refine j_iconst (pc := 14) d_Counter_rowsFrom_14 ?_
    refine j_istore (pc := 15) (ls' := [(2, v0), (2, v1), (0, v2), (0, v3), (0, v4), (0, 0), (9, 0), (9, 0)]) d_Counter_rowsFrom_15 rfl ?_
    refine mJ_weak (ls' := [(2, v0), (2, v1), (9, 0), (0, v3), (0, v4), (0, 0), (9, 0), (9, 0)]) (mwk_s (mwk_s (mwk_d (mwk_s (mwk_s (mwk_s (mwk_s (mwk_s mwk_n)))))))) (t_Counter_rowsFrom_L17 (fun h3  hr => ?_) _ _ _ hr)
    · refine j_lconst (pc := 38) (z := 0) d_Counter_rowsFrom_38 ?_
      refine j_lstore (pc := 39) (ls' := [(2, v0), (2, v1), (9, 0), (9, 0), (9, 0), (1, 0), (9, 0), (9, 0)]) d_Counter_rowsFrom_39 rfl ?_
      refine j_iconst (pc := 41) d_Counter_rowsFrom_41 ?_
      refine j_istore (pc := 42) (ls' := [(2, v0), (2, v1), (9, 0), (9, 0), (9, 0), (1, 0), (9, 0), (0, 0)]) d_Counter_rowsFrom_42 rfl ?_
      refine mJ_weak (ls' := [(2, v0), (2, v1), (9, 0), (9, 0), (9, 0), (1, 0), (9, 0), (0, 0)]) (mwk_s (mwk_s (mwk_s (mwk_s (mwk_s (mwk_s (mwk_s (mwk_s mwk_n)))))))) (t_Counter_rowsFrom_L44  _ _ _ _ hr)
  · refine j_lconst (pc := 6) (z := 0) d_Counter_rowsFrom_6 ?_
    exact j_lret (pc := 7) d_Counter_rowsFrom_7 rfl hr
def M_Nb_rows : mM := ("NineBars", ⟨"NineBars", "rows", "(IZ)J"⟩, prog_1_method_37_code, 6, some .long, [], 13)
theorem tb_co_Nb_rows : mTB (Cond.code ⟨"NineBars", "rows", "(IZ)J"⟩ prog_1_method_37_code 6 (some .long)) := tbq6 83 (by decide +kernel) rfl
theorem mc_Nb_rows {M : mM} (hd : 13 < mDp M) : mCal M M_Nb_rows 2 := ⟨tb_co_Nb_rows, tb_in_NineBars, ⟨by decide +kernel, by decide +kernel⟩, by decide +kernel, hd, by decide⟩
theorem d_Nb_rows_0 : decode prog_1_method_37_code 0 = .ok (.iload_n 1, 1) := by decide +kernel
theorem d_Nb_rows_1 : decode prog_1_method_37_code 1 = .ok (.ifCond .lt 9, 3) := by decide +kernel
theorem d_Nb_rows_10 : decode prog_1_method_37_code 10 = .ok (.new 109, 3) := by decide +kernel
theorem d_Nb_rows_13 : decode prog_1_method_37_code 13 = .ok (.dup, 1) := by decide +kernel
theorem d_Nb_rows_14 : decode prog_1_method_37_code 14 = .ok (.ldc_w 381, 3) := by decide +kernel
theorem d_Nb_rows_17 : decode prog_1_method_37_code 17 = .ok (.invokespecial 113, 3) := by decide +kernel
theorem d_Nb_rows_20 : decode prog_1_method_37_code 20 = .ok (.athrow, 1) := by decide +kernel
theorem d_Nb_rows_4 : decode prog_1_method_37_code 4 = .ok (.iload_n 1, 1) := by decide +kernel
theorem d_Nb_rows_5 : decode prog_1_method_37_code 5 = .ok (.bipush 20, 2) := by decide +kernel
theorem d_Nb_rows_7 : decode prog_1_method_37_code 7 = .ok (.if_icmp .le 14, 3) := by decide +kernel
theorem d_Nb_rows_21 : decode prog_1_method_37_code 21 = .ok (.aload_n 0, 1) := by decide +kernel
theorem d_Nb_rows_22 : decode prog_1_method_37_code 22 = .ok (.invokevirtual 260, 3) := by decide +kernel
theorem d_Nb_rows_25 : decode prog_1_method_37_code 25 = .ok (.aload_n 0, 1) := by decide +kernel
theorem d_Nb_rows_26 : decode prog_1_method_37_code 26 = .ok (.getfield 27, 3) := by decide +kernel
theorem d_Nb_rows_29 : decode prog_1_method_37_code 29 = .ok (.aload_n 0, 1) := by decide +kernel
theorem d_Nb_rows_30 : decode prog_1_method_37_code 30 = .ok (.getfield 27, 3) := by decide +kernel
theorem d_Nb_rows_33 : decode prog_1_method_37_code 33 = .ok (.getfield 149, 3) := by decide +kernel
theorem d_Nb_rows_36 : decode prog_1_method_37_code 36 = .ok (.invokevirtual 198, 3) := by decide +kernel
theorem d_Nb_rows_39 : decode prog_1_method_37_code 39 = .ok (.istore_n 3, 1) := by decide +kernel
theorem d_Nb_rows_40 : decode prog_1_method_37_code 40 = .ok (.aload_n 0, 1) := by decide +kernel
theorem d_Nb_rows_41 : decode prog_1_method_37_code 41 = .ok (.getfield 70, 3) := by decide +kernel
theorem d_Nb_rows_44 : decode prog_1_method_37_code 44 = .ok (.aload_n 0, 1) := by decide +kernel
theorem d_Nb_rows_45 : decode prog_1_method_37_code 45 = .ok (.getfield 48, 3) := by decide +kernel
theorem d_Nb_rows_48 : decode prog_1_method_37_code 48 = .ok (.iload_n 3, 1) := by decide +kernel
theorem d_Nb_rows_49 : decode prog_1_method_37_code 49 = .ok (.iload_n 1, 1) := by decide +kernel
theorem d_Nb_rows_50 : decode prog_1_method_37_code 50 = .ok (.iconst (-1), 1) := by decide +kernel
theorem d_Nb_rows_51 : decode prog_1_method_37_code 51 = .ok (.invokevirtual 383, 3) := by decide +kernel
theorem tb_ml_Nb_383 : mTB (Cond.methodLink "NineBars" 383 ⟨"NineBars$Counter", "rowsFrom", "(LNineBars$Graph;III)J"⟩) := tbq6 85 (by decide +kernel) rfl
theorem tb_im_Counter_rowsFrom : mTB (Cond.instanceMethod ⟨"NineBars$Counter", "rowsFrom", "(LNineBars$Graph;III)J"⟩) := tbq6 86 (by decide +kernel) rfl
theorem tb_se_Counter_rowsFrom : mTB (Cond.selects "NineBars$Counter" ⟨"NineBars$Counter", "rowsFrom", "(LNineBars$Graph;III)J"⟩ ⟨"NineBars$Counter", "rowsFrom", "(LNineBars$Graph;III)J"⟩) := tbq6 87 (by decide +kernel) rfl
theorem mv_Counter_rowsFrom {M : mM} {idx : Nat} (h : mTB (Cond.methodLink (mO M) idx ⟨"NineBars$Counter", "rowsFrom", "(LNineBars$Graph;III)J"⟩)) : mCaV M M_Counter_rowsFrom idx 1 := ⟨h, tb_im_Counter_rowsFrom, tb_se_Counter_rowsFrom, by decide, TX1, 2, rfl⟩
theorem d_Nb_rows_54 : decode prog_1_method_37_code 54 = .ok (.lstore 4, 2) := by decide +kernel
theorem d_Nb_rows_56 : decode prog_1_method_37_code 56 = .ok (.iload_n 2, 1) := by decide +kernel
theorem d_Nb_rows_57 : decode prog_1_method_37_code 57 = .ok (.ifCond .eq 29, 3) := by decide +kernel
theorem d_Nb_rows_86 : decode prog_1_method_37_code 86 = .ok (.lload 4, 2) := by decide +kernel
theorem d_Nb_rows_88 : decode prog_1_method_37_code 88 = .ok (.lreturn, 1) := by decide +kernel
theorem d_Nb_rows_60 : decode prog_1_method_37_code 60 = .ok (.lload 4, 2) := by decide +kernel
theorem d_Nb_rows_62 : decode prog_1_method_37_code 62 = .ok (.aload_n 0, 1) := by decide +kernel
theorem d_Nb_rows_63 : decode prog_1_method_37_code 63 = .ok (.getfield 70, 3) := by decide +kernel
theorem d_Nb_rows_66 : decode prog_1_method_37_code 66 = .ok (.aload_n 0, 1) := by decide +kernel
theorem d_Nb_rows_67 : decode prog_1_method_37_code 67 = .ok (.getfield 48, 3) := by decide +kernel
theorem d_Nb_rows_70 : decode prog_1_method_37_code 70 = .ok (.iload_n 3, 1) := by decide +kernel
theorem d_Nb_rows_71 : decode prog_1_method_37_code 71 = .ok (.iload_n 1, 1) := by decide +kernel
theorem d_Nb_rows_72 : decode prog_1_method_37_code 72 = .ok (.aload_n 0, 1) := by decide +kernel
theorem d_Nb_rows_73 : decode prog_1_method_37_code 73 = .ok (.getfield 48, 3) := by decide +kernel
theorem d_Nb_rows_76 : decode prog_1_method_37_code 76 = .ok (.getfield 387, 3) := by decide +kernel
theorem d_Nb_rows_79 : decode prog_1_method_37_code 79 = .ok (.invokevirtual 383, 3) := by decide +kernel
theorem d_Nb_rows_82 : decode prog_1_method_37_code 82 = .ok (.lsub, 1) := by decide +kernel
theorem d_Nb_rows_83 : decode prog_1_method_37_code 83 = .ok (.goto 5, 3) := by decide +kernel
theorem t_Nb_rows {G : mG} (h : mH) (v0 v1 v2 : Int) (r : mR) (hr : f_Nb_rows h v0 v1 v2 = some r) : mJM G M_Nb_rows [(2, v0), (0, v1), (0, v2)] h r := by
  refine mJM_of (L := [(2, v0), (0, v1), (0, v2), (9, 0), (9, 0), (9, 0)]) rfl rfl rfl (Nat.le_of_ble_eq_true rfl) ?_
  unfold f_Nb_rows at hr
  refine j_iload_n (pc := 0) d_Nb_rows_0 rfl ?_
  refine j_if_lt (pc := 1) (tgt := 10) d_Nb_rows_1 hr (fun hr => ?_) (fun hr => ?_)
  · exact j_throwW (pc := 10) (x9 := 7) (text := "n is 0 to 20") (k := 31) d_Nb_rows_10 d_Nb_rows_13 d_Nb_rows_14 d_Nb_rows_17 d_Nb_rows_20 rfl (by decide +kernel) tb_cl_Nb_109 tb_in_java_lang_IllegalArgumentException (by decide +kernel) rfl (Nat.le_of_ble_eq_true rfl) hr
  · refine j_iload_n (pc := 4) d_Nb_rows_4 rfl ?_
    refine j_bipush (pc := 5) d_Nb_rows_5 ?_
    refine j_icmp_le (pc := 7) (tgt := 21) d_Nb_rows_7 hr (fun hr => ?_) (fun hr => ?_)
    · refine j_aload_n (pc := 21) d_Nb_rows_21 rfl ?_
      obtain ⟨ha, hr⟩ := chk_some hr
      refine j_callG (pc := 22) (stk := [(2, v0)]) (as := [(2, v0)]) (P := (fun v9 => [])) (tg := 3) (My := M_Nb_needGraph) (mRunV (as := []) (st := []) d_Nb_rows_22 (mc_Nb_needGraph (by decide)) rfl (mv_Nb_needGraph tb_ml_Nb_260) rfl (Nat.le_of_ble_eq_true rfl) ha) (fun v => rfl) rfl hr (fun r1 h1 => t_Nb_needGraph _ _ _ h1) (fun x2 h1 hr => ?_)
      refine j_aload_n (pc := 25) d_Nb_rows_25 rfl ?_
      refine j_getf (pc := 26) d_Nb_rows_26 (fd_Nb_27 rfl) hr (fun hr => ?_)
      refine j_aload_n (pc := 29) d_Nb_rows_29 rfl ?_
      refine j_getf (pc := 30) d_Nb_rows_30 (fd_Nb_27 rfl) hr (fun hr => ?_)
      refine j_getf (pc := 33) d_Nb_rows_33 (fd_Nb_149 rfl) hr (fun hr => ?_)
      obtain ⟨ha, hr⟩ := chk_some hr
      refine j_callG (pc := 36) (stk := [(2, hpV h1 (hpV h1 v0 6) 9), (2, hpV h1 v0 6)]) (as := [(2, hpV h1 v0 6), (2, hpV h1 (hpV h1 v0 6) 9)]) (P := (fun v9 => ((0 : Nat), v9) :: [])) (tg := 0) (My := M_Box_standOf) (mRunV (as := [(2, hpV h1 (hpV h1 v0 6) 9)]) (st := []) d_Nb_rows_36 (mc_Box_standOf (by decide)) rfl (mv_Box_standOf tb_ml_Nb_198) rfl (Nat.le_of_ble_eq_true rfl) ha) (fun v => rfl) rfl hr (fun r1 h1 => t_Box_standOf _ _ _ _ h1) (fun x4 h3 hr => ?_)
      refine j_istore_n (pc := 39) (ls' := [(2, v0), (0, v1), (0, v2), (0, x4), (9, 0), (9, 0)]) d_Nb_rows_39 rfl ?_
      refine j_aload_n (pc := 40) d_Nb_rows_40 rfl ?_
      refine j_getf (pc := 41) d_Nb_rows_41 (fd_Nb_70 rfl) hr (fun hr => ?_)
      refine j_aload_n (pc := 44) d_Nb_rows_44 rfl ?_
      refine j_getf (pc := 45) d_Nb_rows_45 (fd_Nb_48 rfl) hr (fun hr => ?_)
      refine j_iload_n (pc := 48) d_Nb_rows_48 rfl ?_
      refine j_iload_n (pc := 49) d_Nb_rows_49 rfl ?_
      refine j_iconst (pc := 50) d_Nb_rows_50 ?_
      obtain ⟨ha, hr⟩ := chk_some hr
      refine j_callG (pc := 51) (stk := [(0, (-1)), (0, v1), (0, x4), (2, hpV h3 v0 10), (2, hpV h3 v0 14)]) (as := [(2, hpV h3 v0 14), (2, hpV h3 v0 10), (0, x4), (0, v1), (0, (-1))]) (P := (fun v9 => ((1 : Nat), v9) :: [])) (tg := 1) (My := M_Counter_rowsFrom) (mRunV (as := [(2, hpV h3 v0 10), (0, x4), (0, v1), (0, (-1))]) (st := []) d_Nb_rows_51 (mc_Counter_rowsFrom (by decide)) rfl (mv_Counter_rowsFrom tb_ml_Nb_383) rfl (Nat.le_of_ble_eq_true rfl) ha) (fun v => rfl) rfl hr (fun r1 h1 => t_Counter_rowsFrom _ _ _ _ _ _ _ h1) (fun x6 h5 hr => ?_)
      refine j_lstore (pc := 54) (ls' := [(2, v0), (0, v1), (0, v2), (0, x4), (1, x6), (9, 0)]) d_Nb_rows_54 rfl ?_
      refine j_iload_n (pc := 56) d_Nb_rows_56 rfl ?_
      refine j_if_eq (pc := 57) (tgt := 86) d_Nb_rows_57 hr (fun hr => ?_) (fun hr => ?_)
      · refine j_lload (pc := 86) d_Nb_rows_86 rfl ?_
        exact j_lret (pc := 88) d_Nb_rows_88 rfl hr
      · refine j_lload (pc := 60) d_Nb_rows_60 rfl ?_
        refine j_aload_n (pc := 62) d_Nb_rows_62 rfl ?_
        refine j_getf (pc := 63) d_Nb_rows_63 (fd_Nb_70 rfl) hr (fun hr => ?_)
        refine j_aload_n (pc := 66) d_Nb_rows_66 rfl ?_
        refine j_getf (pc := 67) d_Nb_rows_67 (fd_Nb_48 rfl) hr (fun hr => ?_)
        refine j_iload_n (pc := 70) d_Nb_rows_70 rfl ?_
        refine j_iload_n (pc := 71) d_Nb_rows_71 rfl ?_
        refine j_aload_n (pc := 72) d_Nb_rows_72 rfl ?_
        refine j_getf (pc := 73) d_Nb_rows_73 (fd_Nb_48 rfl) hr (fun hr => ?_)
        refine j_getf (pc := 76) d_Nb_rows_76 (fd_Nb_387 rfl) hr (fun hr => ?_)
        obtain ⟨ha, hr⟩ := chk_some hr
        refine j_callG (pc := 79) (stk := [(0, hpV h5 (hpV h5 v0 10) 4), (0, v1), (0, x4), (2, hpV h5 v0 10), (2, hpV h5 v0 14), (1, x6)]) (as := [(2, hpV h5 v0 14), (2, hpV h5 v0 10), (0, x4), (0, v1), (0, hpV h5 (hpV h5 v0 10) 4)]) (P := (fun v9 => ((1 : Nat), v9) :: [(1, x6)])) (tg := 1) (My := M_Counter_rowsFrom) (mRunV (as := [(2, hpV h5 v0 10), (0, x4), (0, v1), (0, hpV h5 (hpV h5 v0 10) 4)]) (st := [(1, x6)]) d_Nb_rows_79 (mc_Counter_rowsFrom (by decide)) rfl (mv_Counter_rowsFrom tb_ml_Nb_383) rfl (Nat.le_of_ble_eq_true rfl) ha) (fun v => rfl) rfl hr (fun r1 h1 => t_Counter_rowsFrom _ _ _ _ _ _ _ h1) (fun x8 h7 hr => ?_)
        refine j_lsub (pc := 82) d_Nb_rows_82 ?_
        refine j_goto (pc := 83) (tgt := 88) d_Nb_rows_83 ?_
        exact j_lret (pc := 88) d_Nb_rows_88 rfl hr
    · exact j_throwW (pc := 10) (x9 := 7) (text := "n is 0 to 20") (k := 31) d_Nb_rows_10 d_Nb_rows_13 d_Nb_rows_14 d_Nb_rows_17 d_Nb_rows_20 rfl (by decide +kernel) tb_cl_Nb_109 tb_in_java_lang_IllegalArgumentException (by decide +kernel) rfl (Nat.le_of_ble_eq_true rfl) hr
def M_Ig_bitCount : mM := ("java/lang/Integer", ⟨"java/lang/Integer", "bitCount", "(I)I"⟩, prog_21_method_49_code, 1, some .int, [], 1)
theorem tb_co_Ig_bitCount : mTB (Cond.code ⟨"java/lang/Integer", "bitCount", "(I)I"⟩ prog_21_method_49_code 1 (some .int)) := tbq6 109 (by decide +kernel) rfl
theorem mc_Ig_bitCount {M : mM} (hd : 1 < mDp M) : mCal M M_Ig_bitCount 1 := ⟨tb_co_Ig_bitCount, tb_in_java_lang_Integer, ⟨by decide +kernel, by decide +kernel⟩, by decide +kernel, hd, by decide⟩
theorem d_Ig_bitCount_0 : decode prog_21_method_49_code 0 = .ok (.iload_n 0, 1) := by decide +kernel
theorem d_Ig_bitCount_1 : decode prog_21_method_49_code 1 = .ok (.iload_n 0, 1) := by decide +kernel
theorem d_Ig_bitCount_2 : decode prog_21_method_49_code 2 = .ok (.iconst 1, 1) := by decide +kernel
theorem d_Ig_bitCount_3 : decode prog_21_method_49_code 3 = .ok (.iushr, 1) := by decide +kernel
theorem tb_ci_Ig_265 : mTB (Cond.constant "java/lang/Integer" 265 1431655765) := tbq6 110 (by decide +kernel) rfl
theorem d_Ig_bitCount_4 : decode prog_21_method_49_code 4 = .ok (.ldc_w 265, 3) := by decide +kernel
theorem d_Ig_bitCount_7 : decode prog_21_method_49_code 7 = .ok (.iand, 1) := by decide +kernel
theorem d_Ig_bitCount_8 : decode prog_21_method_49_code 8 = .ok (.isub, 1) := by decide +kernel
theorem d_Ig_bitCount_9 : decode prog_21_method_49_code 9 = .ok (.istore_n 0, 1) := by decide +kernel
theorem d_Ig_bitCount_10 : decode prog_21_method_49_code 10 = .ok (.iload_n 0, 1) := by decide +kernel
theorem tb_ci_Ig_266 : mTB (Cond.constant "java/lang/Integer" 266 858993459) := tbq6 111 (by decide +kernel) rfl
theorem d_Ig_bitCount_11 : decode prog_21_method_49_code 11 = .ok (.ldc_w 266, 3) := by decide +kernel
theorem d_Ig_bitCount_14 : decode prog_21_method_49_code 14 = .ok (.iand, 1) := by decide +kernel
theorem d_Ig_bitCount_15 : decode prog_21_method_49_code 15 = .ok (.iload_n 0, 1) := by decide +kernel
theorem d_Ig_bitCount_16 : decode prog_21_method_49_code 16 = .ok (.iconst 2, 1) := by decide +kernel
theorem d_Ig_bitCount_17 : decode prog_21_method_49_code 17 = .ok (.iushr, 1) := by decide +kernel
theorem d_Ig_bitCount_18 : decode prog_21_method_49_code 18 = .ok (.ldc_w 266, 3) := by decide +kernel
theorem d_Ig_bitCount_21 : decode prog_21_method_49_code 21 = .ok (.iand, 1) := by decide +kernel
theorem d_Ig_bitCount_22 : decode prog_21_method_49_code 22 = .ok (.iadd, 1) := by decide +kernel
theorem d_Ig_bitCount_23 : decode prog_21_method_49_code 23 = .ok (.istore_n 0, 1) := by decide +kernel
theorem d_Ig_bitCount_24 : decode prog_21_method_49_code 24 = .ok (.iload_n 0, 1) := by decide +kernel
theorem d_Ig_bitCount_25 : decode prog_21_method_49_code 25 = .ok (.iload_n 0, 1) := by decide +kernel
theorem d_Ig_bitCount_26 : decode prog_21_method_49_code 26 = .ok (.iconst 4, 1) := by decide +kernel
theorem d_Ig_bitCount_27 : decode prog_21_method_49_code 27 = .ok (.iushr, 1) := by decide +kernel
theorem d_Ig_bitCount_28 : decode prog_21_method_49_code 28 = .ok (.iadd, 1) := by decide +kernel
theorem tb_ci_Ig_267 : mTB (Cond.constant "java/lang/Integer" 267 252645135) := tbq6 112 (by decide +kernel) rfl
theorem d_Ig_bitCount_29 : decode prog_21_method_49_code 29 = .ok (.ldc_w 267, 3) := by decide +kernel
theorem d_Ig_bitCount_32 : decode prog_21_method_49_code 32 = .ok (.iand, 1) := by decide +kernel
theorem d_Ig_bitCount_33 : decode prog_21_method_49_code 33 = .ok (.istore_n 0, 1) := by decide +kernel
theorem d_Ig_bitCount_34 : decode prog_21_method_49_code 34 = .ok (.iload_n 0, 1) := by decide +kernel
theorem d_Ig_bitCount_35 : decode prog_21_method_49_code 35 = .ok (.iload_n 0, 1) := by decide +kernel
theorem d_Ig_bitCount_36 : decode prog_21_method_49_code 36 = .ok (.bipush 8, 2) := by decide +kernel
theorem d_Ig_bitCount_38 : decode prog_21_method_49_code 38 = .ok (.iushr, 1) := by decide +kernel
theorem d_Ig_bitCount_39 : decode prog_21_method_49_code 39 = .ok (.iadd, 1) := by decide +kernel
theorem d_Ig_bitCount_40 : decode prog_21_method_49_code 40 = .ok (.istore_n 0, 1) := by decide +kernel
theorem d_Ig_bitCount_41 : decode prog_21_method_49_code 41 = .ok (.iload_n 0, 1) := by decide +kernel
theorem d_Ig_bitCount_42 : decode prog_21_method_49_code 42 = .ok (.iload_n 0, 1) := by decide +kernel
theorem d_Ig_bitCount_43 : decode prog_21_method_49_code 43 = .ok (.bipush 16, 2) := by decide +kernel
theorem d_Ig_bitCount_45 : decode prog_21_method_49_code 45 = .ok (.iushr, 1) := by decide +kernel
theorem d_Ig_bitCount_46 : decode prog_21_method_49_code 46 = .ok (.iadd, 1) := by decide +kernel
theorem d_Ig_bitCount_47 : decode prog_21_method_49_code 47 = .ok (.istore_n 0, 1) := by decide +kernel
theorem d_Ig_bitCount_48 : decode prog_21_method_49_code 48 = .ok (.iload_n 0, 1) := by decide +kernel
theorem d_Ig_bitCount_49 : decode prog_21_method_49_code 49 = .ok (.bipush 63, 2) := by decide +kernel
theorem d_Ig_bitCount_51 : decode prog_21_method_49_code 51 = .ok (.iand, 1) := by decide +kernel
theorem d_Ig_bitCount_52 : decode prog_21_method_49_code 52 = .ok (.ireturn, 1) := by decide +kernel
theorem t_Ig_bitCount {G : mG} (h : mH) (v0 : Int) (r : mR) (hr : f_Ig_bitCount h v0 = some r) : mJM G M_Ig_bitCount [(0, v0)] h r := by
  refine mJM_of (L := [(0, v0)]) rfl rfl rfl (Nat.le_of_ble_eq_true rfl) ?_
  unfold f_Ig_bitCount at hr
  refine j_iload_n (pc := 0) d_Ig_bitCount_0 rfl ?_
  refine j_iload_n (pc := 1) d_Ig_bitCount_1 rfl ?_
  refine j_iconst (pc := 2) d_Ig_bitCount_2 ?_
  refine j_iushr (pc := 3) d_Ig_bitCount_3 ?_
  refine j_ldcw (pc := 4) (z := 1431655765) d_Ig_bitCount_4 tb_ci_Ig_265 rfl ?_
  refine j_iand (pc := 7) d_Ig_bitCount_7 ?_
  refine j_isub (pc := 8) d_Ig_bitCount_8 ?_
  refine j_istoreW_n (pc := 9) (L := fun x1 => [(0, x1)]) d_Ig_bitCount_9 (fun _ => rfl) hr (fun x1 hr => ?_)
  refine j_iload_n (pc := 10) d_Ig_bitCount_10 rfl ?_
  refine j_ldcw (pc := 11) (z := 858993459) d_Ig_bitCount_11 tb_ci_Ig_266 rfl ?_
  refine j_iand (pc := 14) d_Ig_bitCount_14 ?_
  refine j_iload_n (pc := 15) d_Ig_bitCount_15 rfl ?_
  refine j_iconst (pc := 16) d_Ig_bitCount_16 ?_
  refine j_iushr (pc := 17) d_Ig_bitCount_17 ?_
  refine j_ldcw (pc := 18) (z := 858993459) d_Ig_bitCount_18 tb_ci_Ig_266 rfl ?_
  refine j_iand (pc := 21) d_Ig_bitCount_21 ?_
  refine j_iadd (pc := 22) d_Ig_bitCount_22 ?_
  refine j_istoreW_n (pc := 23) (L := fun x2 => [(0, x2)]) d_Ig_bitCount_23 (fun _ => rfl) hr (fun x2 hr => ?_)
  refine j_iload_n (pc := 24) d_Ig_bitCount_24 rfl ?_
  refine j_iload_n (pc := 25) d_Ig_bitCount_25 rfl ?_
  refine j_iconst (pc := 26) d_Ig_bitCount_26 ?_
  refine j_iushr (pc := 27) d_Ig_bitCount_27 ?_
  refine j_iadd (pc := 28) d_Ig_bitCount_28 ?_
  refine j_ldcw (pc := 29) (z := 252645135) d_Ig_bitCount_29 tb_ci_Ig_267 rfl ?_
  refine j_iand (pc := 32) d_Ig_bitCount_32 ?_
  refine j_istoreW_n (pc := 33) (L := fun x3 => [(0, x3)]) d_Ig_bitCount_33 (fun _ => rfl) hr (fun x3 hr => ?_)
  refine j_iload_n (pc := 34) d_Ig_bitCount_34 rfl ?_
  refine j_iload_n (pc := 35) d_Ig_bitCount_35 rfl ?_
  refine j_bipush (pc := 36) d_Ig_bitCount_36 ?_
  refine j_iushr (pc := 38) d_Ig_bitCount_38 ?_
  refine j_iadd (pc := 39) d_Ig_bitCount_39 ?_
  refine j_istoreW_n (pc := 40) (L := fun x4 => [(0, x4)]) d_Ig_bitCount_40 (fun _ => rfl) hr (fun x4 hr => ?_)
  refine j_iload_n (pc := 41) d_Ig_bitCount_41 rfl ?_
  refine j_iload_n (pc := 42) d_Ig_bitCount_42 rfl ?_
  refine j_bipush (pc := 43) d_Ig_bitCount_43 ?_
  refine j_iushr (pc := 45) d_Ig_bitCount_45 ?_
  refine j_iadd (pc := 46) d_Ig_bitCount_46 ?_
  refine j_istoreW_n (pc := 47) (L := fun x5 => [(0, x5)]) d_Ig_bitCount_47 (fun _ => rfl) hr (fun x5 hr => ?_)
  refine j_iload_n (pc := 48) d_Ig_bitCount_48 rfl ?_
  refine j_bipush (pc := 49) d_Ig_bitCount_49 ?_
  refine j_iand (pc := 51) d_Ig_bitCount_51 ?_
  exact j_iret (pc := 52) d_Ig_bitCount_52 rfl hr
def M_Game_begin : mM := ("NineBars$Game", ⟨"NineBars$Game", "begin", "(LNineBars$Graph;)V"⟩, prog_5_method_3_code, 3, none, [], 3)
theorem tb_co_Game_begin : mTB (Cond.code ⟨"NineBars$Game", "begin", "(LNineBars$Graph;)V"⟩ prog_5_method_3_code 3 (none)) := tbq6 103 (by decide +kernel) rfl
theorem mc_Game_begin {M : mM} (hd : 3 < mDp M) : mCal M M_Game_begin 1 := ⟨tb_co_Game_begin, tb_in_NineBars_Game, ⟨by decide +kernel, by decide +kernel⟩, by decide +kernel, hd, by decide⟩
theorem d_Game_begin_0 : decode prog_5_method_3_code 0 = .ok (.aload_n 0, 1) := by decide +kernel
theorem d_Game_begin_1 : decode prog_5_method_3_code 1 = .ok (.aload_n 0, 1) := by decide +kernel
theorem d_Game_begin_2 : decode prog_5_method_3_code 2 = .ok (.getfield 9, 3) := by decide +kernel
theorem d_Game_begin_5 : decode prog_5_method_3_code 5 = .ok (.iconst 2, 1) := by decide +kernel
theorem d_Game_begin_6 : decode prog_5_method_3_code 6 = .ok (.aload_n 1, 1) := by decide +kernel
theorem tb_fl_Game_46 : mTN (Cond.fieldLinkNest "NineBars$Game" 46 "NineBars$Graph" "stands" "I" "NineBars") := tbqn1 199 (by decide +kernel) rfl
theorem fd_Game_46 {M : mM} (h : mO M = "NineBars$Game") : mFld M 46 4 2 0 := ⟨_, _, _, tyX4, rfl, by decide, by decide, rfl, uw_4, tyX4_ok, nmX4, by rw [h]; exact Or.inr ⟨_, tb_fl_Game_46⟩⟩
theorem d_Game_begin_7 : decode prog_5_method_3_code 7 = .ok (.getfield 46, 3) := by decide +kernel
theorem d_Game_begin_10 : decode prog_5_method_3_code 10 = .ok (.imul, 1) := by decide +kernel
theorem tb_ci_Game_49 : mTB (Cond.constant "NineBars$Game" 49 40000) := tbq6 104 (by decide +kernel) rfl
theorem d_Game_begin_11 : decode prog_5_method_3_code 11 = .ok (.ldc 49, 2) := by decide +kernel
theorem d_Game_begin_13 : decode prog_5_method_3_code 13 = .ok (.invokestatic 50, 3) := by decide +kernel
theorem tb_mn_Game_50 : mTN (Cond.methodLinkNest "NineBars$Game" 50 ⟨"NineBars", "grown", "([III)[I"⟩ "NineBars") := tbqn6 105 (by decide +kernel) rfl
theorem d_Game_begin_16 : decode prog_5_method_3_code 16 = .ok (.putfield 9, 3) := by decide +kernel
theorem d_Game_begin_19 : decode prog_5_method_3_code 19 = .ok (.aload_n 0, 1) := by decide +kernel
theorem d_Game_begin_20 : decode prog_5_method_3_code 20 = .ok (.aload_n 0, 1) := by decide +kernel
theorem d_Game_begin_21 : decode prog_5_method_3_code 21 = .ok (.getfield 15, 3) := by decide +kernel
theorem d_Game_begin_24 : decode prog_5_method_3_code 24 = .ok (.aload_n 1, 1) := by decide +kernel
theorem d_Game_begin_25 : decode prog_5_method_3_code 25 = .ok (.getfield 46, 3) := by decide +kernel
theorem d_Game_begin_28 : decode prog_5_method_3_code 28 = .ok (.sipush 20000, 3) := by decide +kernel
theorem d_Game_begin_31 : decode prog_5_method_3_code 31 = .ok (.invokestatic 50, 3) := by decide +kernel
theorem d_Game_begin_34 : decode prog_5_method_3_code 34 = .ok (.putfield 15, 3) := by decide +kernel
theorem d_Game_begin_37 : decode prog_5_method_3_code 37 = .ok (.aload_n 0, 1) := by decide +kernel
theorem d_Game_begin_38 : decode prog_5_method_3_code 38 = .ok (.aload_n 0, 1) := by decide +kernel
theorem d_Game_begin_39 : decode prog_5_method_3_code 39 = .ok (.getfield 18, 3) := by decide +kernel
theorem d_Game_begin_42 : decode prog_5_method_3_code 42 = .ok (.iconst 2, 1) := by decide +kernel
theorem d_Game_begin_43 : decode prog_5_method_3_code 43 = .ok (.aload_n 1, 1) := by decide +kernel
theorem d_Game_begin_44 : decode prog_5_method_3_code 44 = .ok (.getfield 46, 3) := by decide +kernel
theorem d_Game_begin_47 : decode prog_5_method_3_code 47 = .ok (.imul, 1) := by decide +kernel
theorem d_Game_begin_48 : decode prog_5_method_3_code 48 = .ok (.ldc 49, 2) := by decide +kernel
theorem d_Game_begin_50 : decode prog_5_method_3_code 50 = .ok (.invokestatic 50, 3) := by decide +kernel
theorem d_Game_begin_53 : decode prog_5_method_3_code 53 = .ok (.putfield 18, 3) := by decide +kernel
theorem d_Game_begin_56 : decode prog_5_method_3_code 56 = .ok (.aload_n 0, 1) := by decide +kernel
theorem d_Game_begin_57 : decode prog_5_method_3_code 57 = .ok (.iconst 0, 1) := by decide +kernel
theorem tb_fl_Game_35 : mTB (Cond.fieldLink "NineBars$Game" 35 "NineBars$Game" "many" "I") := tbq2 61 (by decide +kernel) rfl
theorem fd_Game_35 {M : mM} (h : mO M = "NineBars$Game") : mFld M 35 3 3 0 := ⟨_, _, _, tyX3, rfl, by decide, by decide, rfl, uw_3, tyX3_ok, nmX3, by rw [h]; exact Or.inl tb_fl_Game_35⟩
theorem d_Game_begin_58 : decode prog_5_method_3_code 58 = .ok (.putfield 35, 3) := by decide +kernel
theorem d_Game_begin_61 : decode prog_5_method_3_code 61 = .ok (.iconst 0, 1) := by decide +kernel
theorem d_Game_begin_62 : decode prog_5_method_3_code 62 = .ok (.istore_n 2, 1) := by decide +kernel
theorem d_Game_begin_63 : decode prog_5_method_3_code 63 = .ok (.iload_n 2, 1) := by decide +kernel
theorem d_Game_begin_64 : decode prog_5_method_3_code 64 = .ok (.aload_n 1, 1) := by decide +kernel
theorem d_Game_begin_65 : decode prog_5_method_3_code 65 = .ok (.getfield 46, 3) := by decide +kernel
theorem d_Game_begin_68 : decode prog_5_method_3_code 68 = .ok (.if_icmp .ge 32, 3) := by decide +kernel
theorem d_Game_begin_71 : decode prog_5_method_3_code 71 = .ok (.iload_n 2, 1) := by decide +kernel
theorem d_Game_begin_72 : decode prog_5_method_3_code 72 = .ok (.aload_n 0, 1) := by decide +kernel
theorem d_Game_begin_73 : decode prog_5_method_3_code 73 = .ok (.getfield 15, 3) := by decide +kernel
theorem d_Game_begin_76 : decode prog_5_method_3_code 76 = .ok (.arraylength, 1) := by decide +kernel
theorem d_Game_begin_77 : decode prog_5_method_3_code 77 = .ok (.if_icmp .ge 23, 3) := by decide +kernel
theorem d_Game_begin_80 : decode prog_5_method_3_code 80 = .ok (.aload_n 0, 1) := by decide +kernel
theorem d_Game_begin_81 : decode prog_5_method_3_code 81 = .ok (.getfield 15, 3) := by decide +kernel
theorem d_Game_begin_84 : decode prog_5_method_3_code 84 = .ok (.iload_n 2, 1) := by decide +kernel
theorem d_Game_begin_85 : decode prog_5_method_3_code 85 = .ok (.aload_n 1, 1) := by decide +kernel
theorem d_Game_begin_86 : decode prog_5_method_3_code 86 = .ok (.iload_n 2, 1) := by decide +kernel
theorem d_Game_begin_87 : decode prog_5_method_3_code 87 = .ok (.invokevirtual 54, 3) := by decide +kernel
theorem tb_ml_Game_54 : mTB (Cond.methodLink "NineBars$Game" 54 ⟨"NineBars$Graph", "stepsFrom", "(I)I"⟩) := tbq6 106 (by decide +kernel) rfl
theorem d_Game_begin_90 : decode prog_5_method_3_code 90 = .ok (.invokestatic 57, 3) := by decide +kernel
theorem tb_ml_Game_57 : mTB (Cond.methodLink "NineBars$Game" 57 ⟨"java/lang/Integer", "bitCount", "(I)I"⟩) := tbq6 107 (by decide +kernel) rfl
theorem tb_sm_Ig_bitCount : mTB (Cond.static ⟨"java/lang/Integer", "bitCount", "(I)I"⟩) := tbq6 108 (by decide +kernel) rfl
theorem d_Game_begin_93 : decode prog_5_method_3_code 93 = .ok (.iastore, 1) := by decide +kernel
theorem d_Game_begin_94 : decode prog_5_method_3_code 94 = .ok (.iinc 2 1, 3) := by decide +kernel
theorem d_Game_begin_97 : decode prog_5_method_3_code 97 = .ok (.goto (-34), 3) := by decide +kernel
theorem d_Game_begin_100 : decode prog_5_method_3_code 100 = .ok (.iconst 0, 1) := by decide +kernel
theorem d_Game_begin_101 : decode prog_5_method_3_code 101 = .ok (.istore_n 2, 1) := by decide +kernel
theorem d_Game_begin_102 : decode prog_5_method_3_code 102 = .ok (.iload_n 2, 1) := by decide +kernel
theorem d_Game_begin_103 : decode prog_5_method_3_code 103 = .ok (.iconst 2, 1) := by decide +kernel
theorem d_Game_begin_104 : decode prog_5_method_3_code 104 = .ok (.aload_n 1, 1) := by decide +kernel
theorem d_Game_begin_105 : decode prog_5_method_3_code 105 = .ok (.getfield 46, 3) := by decide +kernel
theorem d_Game_begin_108 : decode prog_5_method_3_code 108 = .ok (.imul, 1) := by decide +kernel
theorem d_Game_begin_109 : decode prog_5_method_3_code 109 = .ok (.if_icmp .ge 25, 3) := by decide +kernel
theorem d_Game_begin_134 : decode prog_5_method_3_code 134 = .ok (.return_, 1) := by decide +kernel
theorem d_Game_begin_112 : decode prog_5_method_3_code 112 = .ok (.iload_n 2, 1) := by decide +kernel
theorem d_Game_begin_113 : decode prog_5_method_3_code 113 = .ok (.aload_n 0, 1) := by decide +kernel
theorem d_Game_begin_114 : decode prog_5_method_3_code 114 = .ok (.getfield 9, 3) := by decide +kernel
theorem d_Game_begin_117 : decode prog_5_method_3_code 117 = .ok (.arraylength, 1) := by decide +kernel
theorem d_Game_begin_118 : decode prog_5_method_3_code 118 = .ok (.if_icmp .ge 16, 3) := by decide +kernel
theorem d_Game_begin_121 : decode prog_5_method_3_code 121 = .ok (.aload_n 0, 1) := by decide +kernel
theorem d_Game_begin_122 : decode prog_5_method_3_code 122 = .ok (.getfield 9, 3) := by decide +kernel
theorem d_Game_begin_125 : decode prog_5_method_3_code 125 = .ok (.iload_n 2, 1) := by decide +kernel
theorem d_Game_begin_126 : decode prog_5_method_3_code 126 = .ok (.iconst (-1), 1) := by decide +kernel
theorem d_Game_begin_127 : decode prog_5_method_3_code 127 = .ok (.iastore, 1) := by decide +kernel
theorem d_Game_begin_128 : decode prog_5_method_3_code 128 = .ok (.iinc 2 1, 3) := by decide +kernel
theorem d_Game_begin_131 : decode prog_5_method_3_code 131 = .ok (.goto (-29), 3) := by decide +kernel
theorem t_Game_begin_L63 {G : mG} {r : mR} {v0 v1 : Int} {K100 : mH → Option mR} (hK100 : ∀ (h : mH) , K100 h  = some r → mJ G M_Game_begin 100 [(2, v0), (2, v1), (9, 0)] [] h r) : ∀ (n : Nat) (h : mH) (v2 : Int), f_Game_begin_L63 K100 v0 v1 n h v2 = some r → mJ G M_Game_begin 63 [(2, v0), (2, v1), (0, v2)] [] h r := by
  intro n
  induction n with
  | zero =>
    intro h v2 hr
    rw [f_Game_begin_L63] at hr
    cases hr
  | succ n hR63 =>
    intro h v2 hr
    rw [f_Game_begin_L63] at hr
    refine j_iload_n (pc := 63) d_Game_begin_63 rfl ?_
    refine j_aload_n (pc := 64) d_Game_begin_64 rfl ?_
    refine j_getf (pc := 65) d_Game_begin_65 (fd_Game_46 rfl) hr (fun hr => ?_)
    refine j_icmp_ge (pc := 68) (tgt := 100) d_Game_begin_68 hr (fun hr => ?_) (fun hr => ?_)
    · exact mJ_weak (ls' := [(2, v0), (2, v1), (9, 0)]) (mwk_s (mwk_s (mwk_d mwk_n))) (hK100 h  hr)
    · refine j_iload_n (pc := 71) d_Game_begin_71 rfl ?_
      refine j_aload_n (pc := 72) d_Game_begin_72 rfl ?_
      refine j_getf (pc := 73) d_Game_begin_73 (fd_Game_15 rfl) hr (fun hr => ?_)
      refine j_alen (pc := 76) d_Game_begin_76 hr (fun hr => ?_)
      refine j_icmp_ge (pc := 77) (tgt := 100) d_Game_begin_77 hr (fun hr => ?_) (fun hr => ?_)
      · exact mJ_weak (ls' := [(2, v0), (2, v1), (9, 0)]) (mwk_s (mwk_s (mwk_d mwk_n))) (hK100 h  hr)
      · refine j_aload_n (pc := 80) d_Game_begin_80 rfl ?_
        refine j_getf (pc := 81) d_Game_begin_81 (fd_Game_15 rfl) hr (fun hr => ?_)
        refine j_iload_n (pc := 84) d_Game_begin_84 rfl ?_
        refine j_aload_n (pc := 85) d_Game_begin_85 rfl ?_
        refine j_iload_n (pc := 86) d_Game_begin_86 rfl ?_
        obtain ⟨ha, hr⟩ := chk_some hr
        refine j_callG (pc := 87) (stk := [(0, v2), (2, v1), (0, v2), (2, hpV h v0 1)]) (as := [(2, v1), (0, v2)]) (P := (fun v9 => ((0 : Nat), v9) :: [(0, v2), (2, hpV h v0 1)])) (tg := 0) (My := M_Graph_stepsFrom) (mRunV (as := [(0, v2)]) (st := [(0, v2), (2, hpV h v0 1)]) d_Game_begin_87 (mc_Graph_stepsFrom (by decide)) rfl (mv_Graph_stepsFrom tb_ml_Game_54) rfl (Nat.le_of_ble_eq_true rfl) ha) (fun v => rfl) rfl hr (fun r1 h1 => t_Graph_stepsFrom _ _ _ _ h1) (fun x2 h1 hr => ?_)
        refine j_callG (pc := 90) (stk := [(0, x2), (0, v2), (2, hpV h v0 1)]) (as := [(0, x2)]) (P := (fun v9 => ((0 : Nat), v9) :: [(0, v2), (2, hpV h v0 1)])) (tg := 0) (My := M_Ig_bitCount) (mRunS (as := [(0, x2)]) (st := [(0, v2), (2, hpV h v0 1)]) d_Game_begin_90 (mc_Ig_bitCount (by decide)) rfl ⟨tb_ml_Game_57, tb_sm_Ig_bitCount⟩ rfl (Nat.le_of_ble_eq_true rfl)) (fun v => rfl) rfl hr (fun r1 h1 => t_Ig_bitCount _ _ _ h1) (fun x4 h3 hr => ?_)
        refine j_iastore (pc := 93) d_Game_begin_93 hr (fun h5 hr => ?_)
        refine j_iincW (pc := 94) (L := fun x6 => [(2, v0), (2, v1), (0, x6)]) d_Game_begin_94 rfl (fun _ => rfl) hr (fun x6 hr => ?_)
        refine j_goto (pc := 97) (tgt := 63) d_Game_begin_97 ?_
        exact mJ_weak (ls' := [(2, v0), (2, v1), (0, x6)]) (mwk_s (mwk_s (mwk_s mwk_n))) (hR63 h5 _ hr)
theorem t_Game_begin_L102 {G : mG} {r : mR} {v0 v1 : Int}  : ∀ (n : Nat) (h : mH) (v2 : Int), f_Game_begin_L102 v0 v1 n h v2 = some r → mJ G M_Game_begin 102 [(2, v0), (2, v1), (0, v2)] [] h r := by
  intro n
  induction n with
  | zero =>
    intro h v2 hr
    rw [f_Game_begin_L102] at hr
    cases hr
  | succ n hR102 =>
    intro h v2 hr
    rw [f_Game_begin_L102] at hr
    refine j_iload_n (pc := 102) d_Game_begin_102 rfl ?_
    refine j_iconst (pc := 103) d_Game_begin_103 ?_
    refine j_aload_n (pc := 104) d_Game_begin_104 rfl ?_
    refine j_getf (pc := 105) d_Game_begin_105 (fd_Game_46 rfl) hr (fun hr => ?_)
    refine j_imul (pc := 108) d_Game_begin_108 ?_
    refine j_icmp_ge (pc := 109) (tgt := 134) d_Game_begin_109 hr (fun hr => ?_) (fun hr => ?_)
    · exact j_vret (pc := 134) d_Game_begin_134 rfl hr
    · refine j_iload_n (pc := 112) d_Game_begin_112 rfl ?_
      refine j_aload_n (pc := 113) d_Game_begin_113 rfl ?_
      refine j_getf (pc := 114) d_Game_begin_114 (fd_Game_9 rfl) hr (fun hr => ?_)
      refine j_alen (pc := 117) d_Game_begin_117 hr (fun hr => ?_)
      refine j_icmp_ge (pc := 118) (tgt := 134) d_Game_begin_118 hr (fun hr => ?_) (fun hr => ?_)
      · exact j_vret (pc := 134) d_Game_begin_134 rfl hr
      · refine j_aload_n (pc := 121) d_Game_begin_121 rfl ?_
        refine j_getf (pc := 122) d_Game_begin_122 (fd_Game_9 rfl) hr (fun hr => ?_)
        refine j_iload_n (pc := 125) d_Game_begin_125 rfl ?_
        refine j_iconst (pc := 126) d_Game_begin_126 ?_
        refine j_iastore (pc := 127) d_Game_begin_127 hr (fun h1 hr => ?_)
        refine j_iincW (pc := 128) (L := fun x2 => [(2, v0), (2, v1), (0, x2)]) d_Game_begin_128 rfl (fun _ => rfl) hr (fun x2 hr => ?_)
        refine j_goto (pc := 131) (tgt := 102) d_Game_begin_131 ?_
        exact mJ_weak (ls' := [(2, v0), (2, v1), (0, x2)]) (mwk_s (mwk_s (mwk_s mwk_n))) (hR102 h1 _ hr)
theorem t_Game_begin_J100 {G : mG} {r : mR} {v0 v1 : Int} {h : mH}  (hr : f_Game_begin_J100 v0 v1 h = some r) : mJ G M_Game_begin 100 [(2, v0), (2, v1), (9, 0)] [] h r := by
  unfold f_Game_begin_J100 at hr
  refine j_iconst (pc := 100) d_Game_begin_100 ?_
  refine j_istore_n (pc := 101) (ls' := [(2, v0), (2, v1), (0, 0)]) d_Game_begin_101 rfl ?_
  refine mJ_weak (ls' := [(2, v0), (2, v1), (0, 0)]) (mwk_s (mwk_s (mwk_s mwk_n))) (t_Game_begin_L102  _ _ _ hr)
theorem t_Game_begin {G : mG} (h : mH) (v0 v1 : Int) (r : mR) (hr : f_Game_begin h v0 v1 = some r) : mJM G M_Game_begin [(2, v0), (2, v1)] h r := by
  refine mJM_of (L := [(2, v0), (2, v1), (9, 0)]) rfl rfl rfl (Nat.le_of_ble_eq_true rfl) ?_
  unfold f_Game_begin at hr
  refine j_aload_n (pc := 0) d_Game_begin_0 rfl ?_
  refine j_aload_n (pc := 1) d_Game_begin_1 rfl ?_
  refine j_getf (pc := 2) d_Game_begin_2 (fd_Game_9 rfl) hr (fun hr => ?_)
  refine j_iconst (pc := 5) d_Game_begin_5 ?_
  refine j_aload_n (pc := 6) d_Game_begin_6 rfl ?_
  refine j_getf (pc := 7) d_Game_begin_7 (fd_Game_46 rfl) hr (fun hr => ?_)
  refine j_imul (pc := 10) d_Game_begin_10 ?_
  refine j_ldc (pc := 11) (z := 40000) d_Game_begin_11 tb_ci_Game_49 rfl ?_
  refine j_callR (pc := 13) (stk := [(0, 40000), (0, w32 (2 * (hpV h v1 2))), (2, hpV h v0 0), (2, v0)]) (as := [(2, hpV h v0 0), (0, w32 (2 * (hpV h v1 2))), (0, 40000)]) (P := (fun v9 => ((2 : Nat), v9) :: [(2, v0)])) (tg := 2) (My := M_Nb_grown) (by decide) (mRunN (as := [(2, hpV h v0 0), (0, w32 (2 * (hpV h v1 2))), (0, 40000)]) (st := [(2, v0)]) d_Game_begin_13 (mc_Nb_grown (by decide)) rfl ⟨⟨_, tb_mn_Game_50⟩, tb_sm_Nb_grown⟩ rfl (Nat.le_of_ble_eq_true rfl)) (fun v => rfl) hr (fun r1 h1 => t_Nb_grown _ _ _ _ _ h1) (fun x2 h1 hr => ?_)
  refine j_puta (pc := 16) d_Game_begin_16 (fd_Game_9 rfl) (⟨_, _, _, rfl, Or.inl rfl, rfl⟩ : mFldW M_Game_begin 9 3 0 (.array .int)) (Or.inr ⟨_, rfl⟩) hr (fun h3 hr => ?_)
  refine j_aload_n (pc := 19) d_Game_begin_19 rfl ?_
  refine j_aload_n (pc := 20) d_Game_begin_20 rfl ?_
  refine j_getf (pc := 21) d_Game_begin_21 (fd_Game_15 rfl) hr (fun hr => ?_)
  refine j_aload_n (pc := 24) d_Game_begin_24 rfl ?_
  refine j_getf (pc := 25) d_Game_begin_25 (fd_Game_46 rfl) hr (fun hr => ?_)
  refine j_sipush (pc := 28) d_Game_begin_28 ?_
  refine j_callR (pc := 31) (stk := [(0, 20000), (0, hpV h3 v1 2), (2, hpV h3 v0 1), (2, v0)]) (as := [(2, hpV h3 v0 1), (0, hpV h3 v1 2), (0, 20000)]) (P := (fun v9 => ((2 : Nat), v9) :: [(2, v0)])) (tg := 2) (My := M_Nb_grown) (by decide) (mRunN (as := [(2, hpV h3 v0 1), (0, hpV h3 v1 2), (0, 20000)]) (st := [(2, v0)]) d_Game_begin_31 (mc_Nb_grown (by decide)) rfl ⟨⟨_, tb_mn_Game_50⟩, tb_sm_Nb_grown⟩ rfl (Nat.le_of_ble_eq_true rfl)) (fun v => rfl) hr (fun r1 h1 => t_Nb_grown _ _ _ _ _ h1) (fun x5 h4 hr => ?_)
  refine j_puta (pc := 34) d_Game_begin_34 (fd_Game_15 rfl) (⟨_, _, _, rfl, Or.inl rfl, rfl⟩ : mFldW M_Game_begin 15 3 1 (.array .int)) (Or.inr ⟨_, rfl⟩) hr (fun h6 hr => ?_)
  refine j_aload_n (pc := 37) d_Game_begin_37 rfl ?_
  refine j_aload_n (pc := 38) d_Game_begin_38 rfl ?_
  refine j_getf (pc := 39) d_Game_begin_39 (fd_Game_18 rfl) hr (fun hr => ?_)
  refine j_iconst (pc := 42) d_Game_begin_42 ?_
  refine j_aload_n (pc := 43) d_Game_begin_43 rfl ?_
  refine j_getf (pc := 44) d_Game_begin_44 (fd_Game_46 rfl) hr (fun hr => ?_)
  refine j_imul (pc := 47) d_Game_begin_47 ?_
  refine j_ldc (pc := 48) (z := 40000) d_Game_begin_48 tb_ci_Game_49 rfl ?_
  refine j_callR (pc := 50) (stk := [(0, 40000), (0, w32 (2 * (hpV h6 v1 2))), (2, hpV h6 v0 2), (2, v0)]) (as := [(2, hpV h6 v0 2), (0, w32 (2 * (hpV h6 v1 2))), (0, 40000)]) (P := (fun v9 => ((2 : Nat), v9) :: [(2, v0)])) (tg := 2) (My := M_Nb_grown) (by decide) (mRunN (as := [(2, hpV h6 v0 2), (0, w32 (2 * (hpV h6 v1 2))), (0, 40000)]) (st := [(2, v0)]) d_Game_begin_50 (mc_Nb_grown (by decide)) rfl ⟨⟨_, tb_mn_Game_50⟩, tb_sm_Nb_grown⟩ rfl (Nat.le_of_ble_eq_true rfl)) (fun v => rfl) hr (fun r1 h1 => t_Nb_grown _ _ _ _ _ h1) (fun x8 h7 hr => ?_)
  refine j_puta (pc := 53) d_Game_begin_53 (fd_Game_18 rfl) (⟨_, _, _, rfl, Or.inl rfl, rfl⟩ : mFldW M_Game_begin 18 3 2 (.array .int)) (Or.inr ⟨_, rfl⟩) hr (fun h9 hr => ?_)
  refine j_aload_n (pc := 56) d_Game_begin_56 rfl ?_
  refine j_iconst (pc := 57) d_Game_begin_57 ?_
  refine j_puti (pc := 58) d_Game_begin_58 (fd_Game_35 rfl) (⟨_, _, _, rfl, Or.inl rfl, rfl⟩ : mFldW M_Game_begin 35 3 3 .int) hr (fun h10 hr => ?_)
  refine j_iconst (pc := 61) d_Game_begin_61 ?_
  refine j_istore_n (pc := 62) (ls' := [(2, v0), (2, v1), (0, 0)]) d_Game_begin_62 rfl ?_
  refine mJ_weak (ls' := [(2, v0), (2, v1), (0, 0)]) (mwk_s (mwk_s (mwk_s mwk_n))) (t_Game_begin_L63 (fun h11  hr => ?_) _ _ _ hr)
  · exact mJ_weak (ls' := [(2, v0), (2, v1), (9, 0)]) (mwk_s (mwk_s (mwk_s mwk_n))) (t_Game_begin_J100  hr)
