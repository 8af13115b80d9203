def M_Md_farthest : mM := ("NineBarsModel", ⟨"NineBarsModel", "farthest", "(I)I"⟩, prog_13_method_74_code, 4, some .int, [], 11)
theorem tb_co_Md_farthest : mTB (Cond.code ⟨"NineBarsModel", "farthest", "(I)I"⟩ prog_13_method_74_code 4 (some .int)) := tbq8 156 (by decide +kernel) rfl
theorem mc_Md_farthest {M : mM} (hd : 11 < mDp M) : mCal M M_Md_farthest 1 := ⟨tb_co_Md_farthest, tb_in_NineBarsModel, ⟨by decide +kernel, by decide +kernel⟩, by decide +kernel, hd, by decide⟩
theorem d_Md_farthest_0 : decode prog_13_method_74_code 0 = .ok (.aload_n 0, 1) := by decide +kernel
theorem d_Md_farthest_1 : decode prog_13_method_74_code 1 = .ok (.aload_n 0, 1) := by decide +kernel
theorem d_Md_farthest_2 : decode prog_13_method_74_code 2 = .ok (.invokevirtual 261, 3) := by decide +kernel
theorem d_Md_farthest_5 : decode prog_13_method_74_code 5 = .ok (.ifCond .eq 7, 3) := by decide +kernel
theorem d_Md_farthest_12 : decode prog_13_method_74_code 12 = .ok (.iload_n 1, 1) := by decide +kernel
theorem d_Md_farthest_13 : decode prog_13_method_74_code 13 = .ok (.i2l, 1) := by decide +kernel
theorem d_Md_farthest_14 : decode prog_13_method_74_code 14 = .ok (.lconst 0, 1) := by decide +kernel
theorem d_Md_farthest_15 : decode prog_13_method_74_code 15 = .ok (.lconst 1, 1) := by decide +kernel
theorem d_Md_farthest_16 : decode prog_13_method_74_code 16 = .ok (.invokestatic 147, 3) := by decide +kernel
theorem d_Md_farthest_19 : decode prog_13_method_74_code 19 = .ok (.ifCond .eq 7, 3) := by decide +kernel
theorem d_Md_farthest_26 : decode prog_13_method_74_code 26 = .ok (.iconst 2, 1) := by decide +kernel
theorem d_Md_farthest_27 : decode prog_13_method_74_code 27 = .ok (.putfield 86, 3) := by decide +kernel
theorem d_Md_farthest_30 : decode prog_13_method_74_code 30 = .ok (.aload_n 0, 1) := by decide +kernel
theorem d_Md_farthest_31 : decode prog_13_method_74_code 31 = .ok (.getfield 86, 3) := by decide +kernel
theorem d_Md_farthest_34 : decode prog_13_method_74_code 34 = .ok (.ifCond .le 5, 3) := by decide +kernel
theorem d_Md_farthest_39 : decode prog_13_method_74_code 39 = .ok (.aload_n 0, 1) := by decide +kernel
theorem d_Md_farthest_40 : decode prog_13_method_74_code 40 = .ok (.aload_n 0, 1) := by decide +kernel
theorem d_Md_farthest_41 : decode prog_13_method_74_code 41 = .ok (.invokevirtual 265, 3) := by decide +kernel
theorem d_Md_farthest_44 : decode prog_13_method_74_code 44 = .ok (.aload_n 0, 1) := by decide +kernel
theorem d_Md_farthest_45 : decode prog_13_method_74_code 45 = .ok (.invokevirtual 244, 3) := by decide +kernel
theorem d_Md_farthest_48 : decode prog_13_method_74_code 48 = .ok (.invokevirtual 329, 3) := by decide +kernel
theorem d_Md_farthest_51 : decode prog_13_method_74_code 51 = .ok (.aload_n 0, 1) := by decide +kernel
theorem d_Md_farthest_52 : decode prog_13_method_74_code 52 = .ok (.invokevirtual 265, 3) := by decide +kernel
theorem d_Md_farthest_55 : decode prog_13_method_74_code 55 = .ok (.istore_n 2, 1) := by decide +kernel
theorem d_Md_farthest_56 : decode prog_13_method_74_code 56 = .ok (.iconst 0, 1) := by decide +kernel
theorem d_Md_farthest_57 : decode prog_13_method_74_code 57 = .ok (.istore_n 3, 1) := by decide +kernel
theorem d_Md_farthest_58 : decode prog_13_method_74_code 58 = .ok (.iload_n 3, 1) := by decide +kernel
theorem d_Md_farthest_59 : decode prog_13_method_74_code 59 = .ok (.aload_n 0, 1) := by decide +kernel
theorem d_Md_farthest_60 : decode prog_13_method_74_code 60 = .ok (.invokevirtual 219, 3) := by decide +kernel
theorem d_Md_farthest_63 : decode prog_13_method_74_code 63 = .ok (.if_icmp .ge 46, 3) := by decide +kernel
theorem d_Md_farthest_66 : decode prog_13_method_74_code 66 = .ok (.aload_n 0, 1) := by decide +kernel
theorem d_Md_farthest_67 : decode prog_13_method_74_code 67 = .ok (.getfield 39, 3) := by decide +kernel
theorem d_Md_farthest_70 : decode prog_13_method_74_code 70 = .ok (.iload_n 3, 1) := by decide +kernel
theorem d_Md_farthest_71 : decode prog_13_method_74_code 71 = .ok (.iaload, 1) := by decide +kernel
theorem d_Md_farthest_72 : decode prog_13_method_74_code 72 = .ok (.aload_n 0, 1) := by decide +kernel
theorem d_Md_farthest_73 : decode prog_13_method_74_code 73 = .ok (.getfield 39, 3) := by decide +kernel
theorem d_Md_farthest_76 : decode prog_13_method_74_code 76 = .ok (.iload_n 2, 1) := by decide +kernel
theorem d_Md_farthest_77 : decode prog_13_method_74_code 77 = .ok (.iaload, 1) := by decide +kernel
theorem d_Md_farthest_78 : decode prog_13_method_74_code 78 = .ok (.if_icmp .gt 23, 3) := by decide +kernel
theorem d_Md_farthest_101 : decode prog_13_method_74_code 101 = .ok (.iload_n 3, 1) := by decide +kernel
theorem d_Md_farthest_102 : decode prog_13_method_74_code 102 = .ok (.istore_n 2, 1) := by decide +kernel
theorem d_Md_farthest_103 : decode prog_13_method_74_code 103 = .ok (.iinc 3 1, 3) := by decide +kernel
theorem d_Md_farthest_106 : decode prog_13_method_74_code 106 = .ok (.goto (-48), 3) := by decide +kernel
theorem d_Md_farthest_81 : decode prog_13_method_74_code 81 = .ok (.aload_n 0, 1) := by decide +kernel
theorem d_Md_farthest_82 : decode prog_13_method_74_code 82 = .ok (.getfield 39, 3) := by decide +kernel
theorem d_Md_farthest_85 : decode prog_13_method_74_code 85 = .ok (.iload_n 3, 1) := by decide +kernel
theorem d_Md_farthest_86 : decode prog_13_method_74_code 86 = .ok (.iaload, 1) := by decide +kernel
theorem d_Md_farthest_87 : decode prog_13_method_74_code 87 = .ok (.aload_n 0, 1) := by decide +kernel
theorem d_Md_farthest_88 : decode prog_13_method_74_code 88 = .ok (.getfield 39, 3) := by decide +kernel
theorem d_Md_farthest_91 : decode prog_13_method_74_code 91 = .ok (.iload_n 2, 1) := by decide +kernel
theorem d_Md_farthest_92 : decode prog_13_method_74_code 92 = .ok (.iaload, 1) := by decide +kernel
theorem d_Md_farthest_93 : decode prog_13_method_74_code 93 = .ok (.if_icmp .ne 10, 3) := by decide +kernel
theorem d_Md_farthest_96 : decode prog_13_method_74_code 96 = .ok (.iload_n 3, 1) := by decide +kernel
theorem d_Md_farthest_97 : decode prog_13_method_74_code 97 = .ok (.iload_n 2, 1) := by decide +kernel
theorem d_Md_farthest_98 : decode prog_13_method_74_code 98 = .ok (.if_icmp .ge 5, 3) := by decide +kernel
theorem d_Md_farthest_109 : decode prog_13_method_74_code 109 = .ok (.iload_n 1, 1) := by decide +kernel
theorem d_Md_farthest_110 : decode prog_13_method_74_code 110 = .ok (.ifCond .ne 12, 3) := by decide +kernel
theorem d_Md_farthest_122 : decode prog_13_method_74_code 122 = .ok (.iload_n 2, 1) := by decide +kernel
theorem d_Md_farthest_123 : decode prog_13_method_74_code 123 = .ok (.ireturn, 1) := by decide +kernel
theorem d_Md_farthest_113 : decode prog_13_method_74_code 113 = .ok (.aload_n 0, 1) := by decide +kernel
theorem d_Md_farthest_114 : decode prog_13_method_74_code 114 = .ok (.getfield 39, 3) := by decide +kernel
theorem d_Md_farthest_117 : decode prog_13_method_74_code 117 = .ok (.iload_n 2, 1) := by decide +kernel
theorem d_Md_farthest_118 : decode prog_13_method_74_code 118 = .ok (.iaload, 1) := by decide +kernel
theorem d_Md_farthest_119 : decode prog_13_method_74_code 119 = .ok (.goto 4, 3) := by decide +kernel
theorem d_Md_farthest_37 : decode prog_13_method_74_code 37 = .ok (.iconst 0, 1) := by decide +kernel
theorem d_Md_farthest_38 : decode prog_13_method_74_code 38 = .ok (.ireturn, 1) := by decide +kernel
theorem d_Md_farthest_22 : decode prog_13_method_74_code 22 = .ok (.iconst 0, 1) := by decide +kernel
theorem d_Md_farthest_23 : decode prog_13_method_74_code 23 = .ok (.goto 4, 3) := by decide +kernel
theorem d_Md_farthest_8 : decode prog_13_method_74_code 8 = .ok (.iconst 1, 1) := by decide +kernel
theorem d_Md_farthest_9 : decode prog_13_method_74_code 9 = .ok (.goto 18, 3) := by decide +kernel
theorem t_Md_farthest_J103 {G : mG} {r : mR} {v0 v1 v2 v3 : Int} {h : mH} {R58 : mH → Int → Int → Option mR} (hR58 : ∀ (h : mH) (w2 w3 : Int) , R58 h w2 w3 = some r → mJ G M_Md_farthest 58 [(2, v0), (0, v1), (0, w2), (0, w3)] [] h r) (hr : f_Md_farthest_J103 R58 v2 v3 h = some r) : mJ G M_Md_farthest 103 [(2, v0), (0, v1), (0, v2), (0, v3)] [] h r := by
  unfold f_Md_farthest_J103 at hr
  refine j_iincW (pc := 103) (L := fun x1 => [(2, v0), (0, v1), (0, v2), (0, x1)]) d_Md_farthest_103 rfl (fun _ => rfl) hr (fun x1 hr => ?_)
  refine j_goto (pc := 106) (tgt := 58) d_Md_farthest_106 ?_
  exact mJ_weak (ls' := [(2, v0), (0, v1), (0, v2), (0, x1)]) (mwk_s (mwk_s (mwk_s (mwk_s mwk_n)))) (hR58 h _ _ hr)
theorem t_Md_farthest_J101 {G : mG} {r : mR} {v0 v1 v3 : Int} {h : mH} {R58 : mH → Int → Int → Option mR} (hR58 : ∀ (h : mH) (w2 w3 : Int) , R58 h w2 w3 = some r → mJ G M_Md_farthest 58 [(2, v0), (0, v1), (0, w2), (0, w3)] [] h r) (hr : f_Md_farthest_J101 R58 v3 h = some r) : mJ G M_Md_farthest 101 [(2, v0), (0, v1), (9, 0), (0, v3)] [] h r := by
  unfold f_Md_farthest_J101 at hr
  refine j_iload_n (pc := 101) d_Md_farthest_101 rfl ?_
  refine j_istore_n (pc := 102) (ls' := [(2, v0), (0, v1), (0, v3), (0, v3)]) d_Md_farthest_102 rfl ?_
  exact mJ_weak (ls' := [(2, v0), (0, v1), (0, v3), (0, v3)]) (mwk_s (mwk_s (mwk_s (mwk_s mwk_n)))) (t_Md_farthest_J103 hR58 hr)
theorem t_Md_farthest_L58 {G : mG} {r : mR} {v0 v1 : Int} {K109 : mH → Int → Option mR} (hK109 : ∀ (h : mH) (w2 : Int) , K109 h w2 = some r → mJ G M_Md_farthest 109 [(2, v0), (0, v1), (0, w2), (9, 0)] [] h r) : ∀ (n : Nat) (h : mH) (v2 v3 : Int), f_Md_farthest_L58 K109 v0 n h v2 v3 = some r → mJ G M_Md_farthest 58 [(2, v0), (0, v1), (0, v2), (0, v3)] [] h r := by
  intro n
  induction n with
  | zero =>
    intro h v2 v3 hr
    rw [f_Md_farthest_L58] at hr
    cases hr
  | succ n hR58 =>
    intro h v2 v3 hr
    rw [f_Md_farthest_L58] at hr
    refine j_iload_n (pc := 58) d_Md_farthest_58 rfl ?_
    refine j_aload_n (pc := 59) d_Md_farthest_59 rfl ?_
    obtain ⟨ha, hr⟩ := chk_some hr
    refine j_callG (pc := 60) (stk := [(2, v0), (0, v3)]) (as := [(2, v0)]) (P := (fun v9 => ((0 : Nat), v9) :: [(0, v3)])) (tg := 0) (My := M_Md_stands) (mRunV (as := []) (st := [(0, v3)]) d_Md_farthest_60 (mc_Md_stands (by decide)) rfl (mv_Md_stands tb_ml_Md_219) rfl (Nat.le_of_ble_eq_true rfl) ha) (fun v => rfl) rfl hr (fun r1 h1 => t_Md_stands _ _ _ h1) (fun x2 h1 hr => ?_)
    refine j_icmp_ge (pc := 63) (tgt := 109) d_Md_farthest_63 hr (fun hr => ?_) (fun hr => ?_)
    · exact mJ_weak (ls' := [(2, v0), (0, v1), (0, v2), (9, 0)]) (mwk_s (mwk_s (mwk_s (mwk_d mwk_n)))) (hK109 h1 _ hr)
    · refine j_aload_n (pc := 66) d_Md_farthest_66 rfl ?_
      refine j_getf (pc := 67) d_Md_farthest_67 (fd_Md_39 rfl) hr (fun hr => ?_)
      refine j_iload_n (pc := 70) d_Md_farthest_70 rfl ?_
      refine j_iaload (pc := 71) d_Md_farthest_71 hr (fun hr => ?_)
      refine j_aload_n (pc := 72) d_Md_farthest_72 rfl ?_
      refine j_getf (pc := 73) d_Md_farthest_73 (fd_Md_39 rfl) hr (fun hr => ?_)
      refine j_iload_n (pc := 76) d_Md_farthest_76 rfl ?_
      refine j_iaload (pc := 77) d_Md_farthest_77 hr (fun hr => ?_)
      refine j_icmp_gt (pc := 78) (tgt := 101) d_Md_farthest_78 hr (fun hr => ?_) (fun hr => ?_)
      · exact mJ_weak (ls' := [(2, v0), (0, v1), (9, 0), (0, v3)]) (mwk_s (mwk_s (mwk_d (mwk_s mwk_n)))) (t_Md_farthest_J101 hR58 hr)
      · refine j_aload_n (pc := 81) d_Md_farthest_81 rfl ?_
        refine j_getf (pc := 82) d_Md_farthest_82 (fd_Md_39 rfl) hr (fun hr => ?_)
        refine j_iload_n (pc := 85) d_Md_farthest_85 rfl ?_
        refine j_iaload (pc := 86) d_Md_farthest_86 hr (fun hr => ?_)
        refine j_aload_n (pc := 87) d_Md_farthest_87 rfl ?_
        refine j_getf (pc := 88) d_Md_farthest_88 (fd_Md_39 rfl) hr (fun hr => ?_)
        refine j_iload_n (pc := 91) d_Md_farthest_91 rfl ?_
        refine j_iaload (pc := 92) d_Md_farthest_92 hr (fun hr => ?_)
        refine j_icmp_ne (pc := 93) (tgt := 103) d_Md_farthest_93 hr (fun hr => ?_) (fun hr => ?_)
        · exact mJ_weak (ls' := [(2, v0), (0, v1), (0, v2), (0, v3)]) (mwk_s (mwk_s (mwk_s (mwk_s mwk_n)))) (t_Md_farthest_J103 hR58 hr)
        · refine j_iload_n (pc := 96) d_Md_farthest_96 rfl ?_
          refine j_iload_n (pc := 97) d_Md_farthest_97 rfl ?_
          refine j_icmp_ge (pc := 98) (tgt := 103) d_Md_farthest_98 hr (fun hr => ?_) (fun hr => ?_)
          · exact mJ_weak (ls' := [(2, v0), (0, v1), (0, v2), (0, v3)]) (mwk_s (mwk_s (mwk_s (mwk_s mwk_n)))) (t_Md_farthest_J103 hR58 hr)
          · exact mJ_weak (ls' := [(2, v0), (0, v1), (9, 0), (0, v3)]) (mwk_s (mwk_s (mwk_d (mwk_s mwk_n)))) (t_Md_farthest_J101 hR58 hr)
theorem t_Md_farthest_J27 {G : mG} {r : mR} {v0 v1 s0 s1 : Int} {h : mH}  (hr : f_Md_farthest_J27 v0 v1 s0 s1 h = some r) : mJ G M_Md_farthest 27 [(2, v0), (0, v1), (9, 0), (9, 0)] [(0, s1), (2, s0)] h r := by
  unfold f_Md_farthest_J27 at hr
  refine j_puti (pc := 27) d_Md_farthest_27 (fd_Md_86 rfl) (⟨_, _, _, rfl, Or.inl rfl, rfl⟩ : mFldW M_Md_farthest 86 11 5 .int) hr (fun h1 hr => ?_)
  refine j_aload_n (pc := 30) d_Md_farthest_30 rfl ?_
  refine j_getf (pc := 31) d_Md_farthest_31 (fd_Md_86 rfl) hr (fun hr => ?_)
  refine j_if_le (pc := 34) (tgt := 39) d_Md_farthest_34 hr (fun hr => ?_) (fun hr => ?_)
  · refine j_aload_n (pc := 39) d_Md_farthest_39 rfl ?_
    refine j_aload_n (pc := 40) d_Md_farthest_40 rfl ?_
    obtain ⟨ha, hr⟩ := chk_some hr
    refine j_callG (pc := 41) (stk := [(2, v0), (2, v0)]) (as := [(2, v0)]) (P := (fun v9 => ((0 : Nat), v9) :: [(2, v0)])) (tg := 0) (My := M_Md_standNow) (mRunV (as := []) (st := [(2, v0)]) d_Md_farthest_41 (mc_Md_standNow (by decide)) rfl (mv_Md_standNow tb_ml_Md_265) rfl (Nat.le_of_ble_eq_true rfl) ha) (fun v => rfl) rfl hr (fun r1 h1 => t_Md_standNow _ _ _ h1) (fun x3 h2 hr => ?_)
    refine j_aload_n (pc := 44) d_Md_farthest_44 rfl ?_
    obtain ⟨ha, hr⟩ := chk_some hr
    refine j_callG (pc := 45) (stk := [(2, v0), (0, x3), (2, v0)]) (as := [(2, v0)]) (P := (fun v9 => ((0 : Nat), v9) :: [(0, x3), (2, v0)])) (tg := 0) (My := M_Md_worn) (mRunV (as := []) (st := [(0, x3), (2, v0)]) d_Md_farthest_45 (mc_Md_worn (by decide)) rfl (mv_Md_worn tb_ml_Md_244) rfl (Nat.le_of_ble_eq_true rfl) ha) (fun v => rfl) rfl hr (fun r1 h1 => t_Md_worn _ _ _ h1) (fun x5 h4 hr => ?_)
    obtain ⟨ha, hr⟩ := chk_some hr
    refine j_callG (pc := 48) (stk := [(0, x5), (0, x3), (2, v0)]) (as := [(2, v0), (0, x3), (0, x5)]) (P := (fun v9 => [])) (tg := 3) (My := M_Md_laysFrom) (mRunV (as := [(0, x3), (0, x5)]) (st := []) d_Md_farthest_48 (mc_Md_laysFrom (by decide)) rfl (mv_Md_laysFrom tb_ml_Md_329) rfl (Nat.le_of_ble_eq_true rfl) ha) (fun v => rfl) rfl hr (fun r1 h1 => t_Md_laysFrom _ _ _ _ _ h1) (fun x7 h6 hr => ?_)
    refine j_aload_n (pc := 51) d_Md_farthest_51 rfl ?_
    obtain ⟨ha, hr⟩ := chk_some hr
    refine j_callG (pc := 52) (stk := [(2, v0)]) (as := [(2, v0)]) (P := (fun v9 => ((0 : Nat), v9) :: [])) (tg := 0) (My := M_Md_standNow) (mRunV (as := []) (st := []) d_Md_farthest_52 (mc_Md_standNow (by decide)) rfl (mv_Md_standNow tb_ml_Md_265) rfl (Nat.le_of_ble_eq_true rfl) ha) (fun v => rfl) rfl hr (fun r1 h1 => t_Md_standNow _ _ _ h1) (fun x9 h8 hr => ?_)
    refine j_istore_n (pc := 55) (ls' := [(2, v0), (0, v1), (0, x9), (9, 0)]) d_Md_farthest_55 rfl ?_
    refine j_iconst (pc := 56) d_Md_farthest_56 ?_
    refine j_istore_n (pc := 57) (ls' := [(2, v0), (0, v1), (0, x9), (0, 0)]) d_Md_farthest_57 rfl ?_
    refine mJ_weak (ls' := [(2, v0), (0, v1), (0, x9), (0, 0)]) (mwk_s (mwk_s (mwk_s (mwk_s mwk_n)))) (t_Md_farthest_L58 (fun h10 x11 hr => ?_) _ _ _ _ hr)
    · refine j_iload_n (pc := 109) d_Md_farthest_109 rfl ?_
      refine j_if_ne (pc := 110) (tgt := 122) d_Md_farthest_110 hr (fun hr => ?_) (fun hr => ?_)
      · refine j_iload_n (pc := 122) d_Md_farthest_122 rfl ?_
        exact j_iret (pc := 123) d_Md_farthest_123 rfl hr
      · refine j_aload_n (pc := 113) d_Md_farthest_113 rfl ?_
        refine j_getf (pc := 114) d_Md_farthest_114 (fd_Md_39 rfl) hr (fun hr => ?_)
        refine j_iload_n (pc := 117) d_Md_farthest_117 rfl ?_
        refine j_iaload (pc := 118) d_Md_farthest_118 hr (fun hr => ?_)
        refine j_goto (pc := 119) (tgt := 123) d_Md_farthest_119 ?_
        exact j_iret (pc := 123) d_Md_farthest_123 rfl hr
  · refine j_iconst (pc := 37) d_Md_farthest_37 ?_
    exact j_iret (pc := 38) d_Md_farthest_38 rfl hr
theorem t_Md_farthest {G : mG} (h : mH) (v0 v1 : Int) (r : mR) (hr : f_Md_farthest h v0 v1 = some r) : mJM G M_Md_farthest [(2, v0), (0, v1)] h r := by
  refine mJM_of (L := [(2, v0), (0, v1), (9, 0), (9, 0)]) rfl rfl rfl (Nat.le_of_ble_eq_true rfl) ?_
  unfold f_Md_farthest at hr
  refine j_aload_n (pc := 0) d_Md_farthest_0 rfl ?_
  refine j_aload_n (pc := 1) d_Md_farthest_1 rfl ?_
  obtain ⟨ha, hr⟩ := chk_some hr
  refine j_callG (pc := 2) (stk := [(2, v0), (2, v0)]) (as := [(2, v0)]) (P := (fun v9 => ((0 : Nat), v9) :: [(2, v0)])) (tg := 0) (My := M_Md_isSpent) (mRunV (as := []) (st := [(2, v0)]) d_Md_farthest_2 (mc_Md_isSpent (by decide)) rfl (mv_Md_isSpent tb_ml_Md_261) rfl (Nat.le_of_ble_eq_true rfl) ha) (fun v => rfl) rfl hr (fun r1 h1 => t_Md_isSpent _ _ _ h1) (fun x2 h1 hr => ?_)
  refine j_if_eq (pc := 5) (tgt := 12) d_Md_farthest_5 hr (fun hr => ?_) (fun hr => ?_)
  · refine j_iload_n (pc := 12) d_Md_farthest_12 rfl ?_
    refine j_i2l (pc := 13) d_Md_farthest_13 ?_
    refine j_lconst (pc := 14) (z := 0) d_Md_farthest_14 ?_
    refine j_lconst (pc := 15) (z := 1) d_Md_farthest_15 ?_
    refine j_callG (pc := 16) (stk := [(1, 1), (1, 0), (1, v1), (2, v0)]) (as := [(1, v1), (1, 0), (1, 1)]) (P := (fun v9 => ((0 : Nat), v9) :: [(2, v0)])) (tg := 0) (My := M_Md_amid) (mRunS (as := [(1, v1), (1, 0), (1, 1)]) (st := [(2, v0)]) d_Md_farthest_16 (mc_Md_amid (by decide)) rfl ⟨tb_ml_Md_147, tb_sm_Md_amid⟩ rfl (Nat.le_of_ble_eq_true rfl)) (fun v => rfl) rfl hr (fun r1 h1 => t_Md_amid _ _ _ _ _ h1) (fun x4 h3 hr => ?_)
    refine j_if_eq (pc := 19) (tgt := 26) d_Md_farthest_19 hr (fun hr => ?_) (fun hr => ?_)
    · refine j_iconst (pc := 26) d_Md_farthest_26 ?_
      exact mJ_weak (ls' := [(2, v0), (0, v1), (9, 0), (9, 0)]) (mwk_s (mwk_s (mwk_s (mwk_s mwk_n)))) (t_Md_farthest_J27  hr)
    · refine j_iconst (pc := 22) d_Md_farthest_22 ?_
      refine j_goto (pc := 23) (tgt := 27) d_Md_farthest_23 ?_
      exact mJ_weak (ls' := [(2, v0), (0, v1), (9, 0), (9, 0)]) (mwk_s (mwk_s (mwk_s (mwk_s mwk_n)))) (t_Md_farthest_J27  hr)
  · refine j_iconst (pc := 8) d_Md_farthest_8 ?_
    refine j_goto (pc := 9) (tgt := 27) d_Md_farthest_9 ?_
    exact mJ_weak (ls' := [(2, v0), (0, v1), (9, 0), (9, 0)]) (mwk_s (mwk_s (mwk_s (mwk_s mwk_n)))) (t_Md_farthest_J27  hr)
def M_Md_within : mM := ("NineBarsModel", ⟨"NineBarsModel", "within", "(I)I"⟩, prog_13_method_75_code, 4, some .int, [], 11)
theorem tb_co_Md_within : mTB (Cond.code ⟨"NineBarsModel", "within", "(I)I"⟩ prog_13_method_75_code 4 (some .int)) := tbq8 160 (by decide +kernel) rfl
theorem mc_Md_within {M : mM} (hd : 11 < mDp M) : mCal M M_Md_within 1 := ⟨tb_co_Md_within, tb_in_NineBarsModel, ⟨by decide +kernel, by decide +kernel⟩, by decide +kernel, hd, by decide⟩
theorem d_Md_within_0 : decode prog_13_method_75_code 0 = .ok (.aload_n 0, 1) := by decide +kernel
theorem d_Md_within_1 : decode prog_13_method_75_code 1 = .ok (.aload_n 0, 1) := by decide +kernel
theorem d_Md_within_2 : decode prog_13_method_75_code 2 = .ok (.invokevirtual 261, 3) := by decide +kernel
theorem d_Md_within_5 : decode prog_13_method_75_code 5 = .ok (.ifCond .eq 7, 3) := by decide +kernel
theorem d_Md_within_12 : decode prog_13_method_75_code 12 = .ok (.iload_n 1, 1) := by decide +kernel
theorem d_Md_within_13 : decode prog_13_method_75_code 13 = .ok (.i2l, 1) := by decide +kernel
theorem d_Md_within_14 : decode prog_13_method_75_code 14 = .ok (.lconst 0, 1) := by decide +kernel
theorem tb_cj_Md_344 : mTB (Cond.constantLong "NineBarsModel" 344 999) := tbq8 161 (by decide +kernel) rfl
theorem d_Md_within_15 : decode prog_13_method_75_code 15 = .ok (.ldc2_w 344, 3) := by decide +kernel
theorem d_Md_within_18 : decode prog_13_method_75_code 18 = .ok (.invokestatic 147, 3) := by decide +kernel
theorem d_Md_within_21 : decode prog_13_method_75_code 21 = .ok (.ifCond .eq 7, 3) := by decide +kernel
theorem d_Md_within_28 : decode prog_13_method_75_code 28 = .ok (.iconst 2, 1) := by decide +kernel
theorem d_Md_within_29 : decode prog_13_method_75_code 29 = .ok (.putfield 86, 3) := by decide +kernel
theorem d_Md_within_32 : decode prog_13_method_75_code 32 = .ok (.aload_n 0, 1) := by decide +kernel
theorem d_Md_within_33 : decode prog_13_method_75_code 33 = .ok (.getfield 86, 3) := by decide +kernel
theorem d_Md_within_36 : decode prog_13_method_75_code 36 = .ok (.ifCond .le 5, 3) := by decide +kernel
theorem d_Md_within_41 : decode prog_13_method_75_code 41 = .ok (.aload_n 0, 1) := by decide +kernel
theorem d_Md_within_42 : decode prog_13_method_75_code 42 = .ok (.aload_n 0, 1) := by decide +kernel
theorem d_Md_within_43 : decode prog_13_method_75_code 43 = .ok (.invokevirtual 265, 3) := by decide +kernel
theorem d_Md_within_46 : decode prog_13_method_75_code 46 = .ok (.aload_n 0, 1) := by decide +kernel
theorem d_Md_within_47 : decode prog_13_method_75_code 47 = .ok (.invokevirtual 244, 3) := by decide +kernel
theorem d_Md_within_50 : decode prog_13_method_75_code 50 = .ok (.invokevirtual 329, 3) := by decide +kernel
theorem d_Md_within_53 : decode prog_13_method_75_code 53 = .ok (.iconst 0, 1) := by decide +kernel
theorem d_Md_within_54 : decode prog_13_method_75_code 54 = .ok (.istore_n 2, 1) := by decide +kernel
theorem d_Md_within_55 : decode prog_13_method_75_code 55 = .ok (.iconst 0, 1) := by decide +kernel
theorem d_Md_within_56 : decode prog_13_method_75_code 56 = .ok (.istore_n 3, 1) := by decide +kernel
theorem d_Md_within_57 : decode prog_13_method_75_code 57 = .ok (.iload_n 3, 1) := by decide +kernel
theorem d_Md_within_58 : decode prog_13_method_75_code 58 = .ok (.aload_n 0, 1) := by decide +kernel
theorem d_Md_within_59 : decode prog_13_method_75_code 59 = .ok (.getfield 313, 3) := by decide +kernel
theorem d_Md_within_62 : decode prog_13_method_75_code 62 = .ok (.if_icmp .ge 32, 3) := by decide +kernel
theorem d_Md_within_94 : decode prog_13_method_75_code 94 = .ok (.iload_n 2, 1) := by decide +kernel
theorem d_Md_within_95 : decode prog_13_method_75_code 95 = .ok (.ireturn, 1) := by decide +kernel
theorem d_Md_within_65 : decode prog_13_method_75_code 65 = .ok (.iload_n 2, 1) := by decide +kernel
theorem d_Md_within_66 : decode prog_13_method_75_code 66 = .ok (.aload_n 0, 1) := by decide +kernel
theorem d_Md_within_67 : decode prog_13_method_75_code 67 = .ok (.getfield 39, 3) := by decide +kernel
theorem d_Md_within_70 : decode prog_13_method_75_code 70 = .ok (.aload_n 0, 1) := by decide +kernel
theorem d_Md_within_71 : decode prog_13_method_75_code 71 = .ok (.getfield 42, 3) := by decide +kernel
theorem d_Md_within_74 : decode prog_13_method_75_code 74 = .ok (.iload_n 3, 1) := by decide +kernel
theorem d_Md_within_75 : decode prog_13_method_75_code 75 = .ok (.iaload, 1) := by decide +kernel
theorem d_Md_within_76 : decode prog_13_method_75_code 76 = .ok (.iaload, 1) := by decide +kernel
theorem d_Md_within_77 : decode prog_13_method_75_code 77 = .ok (.iload_n 1, 1) := by decide +kernel
theorem d_Md_within_78 : decode prog_13_method_75_code 78 = .ok (.if_icmp .gt 7, 3) := by decide +kernel
theorem d_Md_within_85 : decode prog_13_method_75_code 85 = .ok (.iconst 0, 1) := by decide +kernel
theorem d_Md_within_86 : decode prog_13_method_75_code 86 = .ok (.iadd, 1) := by decide +kernel
theorem d_Md_within_87 : decode prog_13_method_75_code 87 = .ok (.istore_n 2, 1) := by decide +kernel
theorem d_Md_within_88 : decode prog_13_method_75_code 88 = .ok (.iinc 3 1, 3) := by decide +kernel
theorem d_Md_within_91 : decode prog_13_method_75_code 91 = .ok (.goto (-34), 3) := by decide +kernel
theorem d_Md_within_81 : decode prog_13_method_75_code 81 = .ok (.iconst 1, 1) := by decide +kernel
theorem d_Md_within_82 : decode prog_13_method_75_code 82 = .ok (.goto 4, 3) := by decide +kernel
theorem d_Md_within_39 : decode prog_13_method_75_code 39 = .ok (.iconst 0, 1) := by decide +kernel
theorem d_Md_within_40 : decode prog_13_method_75_code 40 = .ok (.ireturn, 1) := by decide +kernel
theorem d_Md_within_24 : decode prog_13_method_75_code 24 = .ok (.iconst 0, 1) := by decide +kernel
theorem d_Md_within_25 : decode prog_13_method_75_code 25 = .ok (.goto 4, 3) := by decide +kernel
theorem d_Md_within_8 : decode prog_13_method_75_code 8 = .ok (.iconst 1, 1) := by decide +kernel
theorem d_Md_within_9 : decode prog_13_method_75_code 9 = .ok (.goto 20, 3) := by decide +kernel
theorem t_Md_within_J86 {G : mG} {r : mR} {v0 v1 v3 s0 s1 : Int} {h : mH} {R57 : mH → Int → Int → Option mR} (hR57 : ∀ (h : mH) (w2 w3 : Int) , R57 h w2 w3 = some r → mJ G M_Md_within 57 [(2, v0), (0, v1), (0, w2), (0, w3)] [] h r) (hr : f_Md_within_J86 R57 v3 s0 s1 h = some r) : mJ G M_Md_within 86 [(2, v0), (0, v1), (9, 0), (0, v3)] [(0, s1), (0, s0)] h r := by
  unfold f_Md_within_J86 at hr
  refine j_iadd (pc := 86) d_Md_within_86 ?_
  refine j_istoreW_n (pc := 87) (L := fun x1 => [(2, v0), (0, v1), (0, x1), (0, v3)]) d_Md_within_87 (fun _ => rfl) hr (fun x1 hr => ?_)
  refine j_iincW (pc := 88) (L := fun x2 => [(2, v0), (0, v1), (0, x1), (0, x2)]) d_Md_within_88 rfl (fun _ => rfl) hr (fun x2 hr => ?_)
  refine j_goto (pc := 91) (tgt := 57) d_Md_within_91 ?_
  exact mJ_weak (ls' := [(2, v0), (0, v1), (0, x1), (0, x2)]) (mwk_s (mwk_s (mwk_s (mwk_s mwk_n)))) (hR57 h _ _ hr)
theorem t_Md_within_L57 {G : mG} {r : mR} {v0 v1 : Int}  : ∀ (n : Nat) (h : mH) (v2 v3 : Int), f_Md_within_L57 v0 v1 n h v2 v3 = some r → mJ G M_Md_within 57 [(2, v0), (0, v1), (0, v2), (0, v3)] [] h r := by
  intro n
  induction n with
  | zero =>
    intro h v2 v3 hr
    rw [f_Md_within_L57] at hr
    cases hr
  | succ n hR57 =>
    intro h v2 v3 hr
    rw [f_Md_within_L57] at hr
    refine j_iload_n (pc := 57) d_Md_within_57 rfl ?_
    refine j_aload_n (pc := 58) d_Md_within_58 rfl ?_
    refine j_getf (pc := 59) d_Md_within_59 (fd_Md_313 rfl) hr (fun hr => ?_)
    refine j_icmp_ge (pc := 62) (tgt := 94) d_Md_within_62 hr (fun hr => ?_) (fun hr => ?_)
    · refine j_iload_n (pc := 94) d_Md_within_94 rfl ?_
      exact j_iret (pc := 95) d_Md_within_95 rfl hr
    · refine j_iload_n (pc := 65) d_Md_within_65 rfl ?_
      refine j_aload_n (pc := 66) d_Md_within_66 rfl ?_
      refine j_getf (pc := 67) d_Md_within_67 (fd_Md_39 rfl) hr (fun hr => ?_)
      refine j_aload_n (pc := 70) d_Md_within_70 rfl ?_
      refine j_getf (pc := 71) d_Md_within_71 (fd_Md_42 rfl) hr (fun hr => ?_)
      refine j_iload_n (pc := 74) d_Md_within_74 rfl ?_
      refine j_iaload (pc := 75) d_Md_within_75 hr (fun hr => ?_)
      refine j_iaload (pc := 76) d_Md_within_76 hr (fun hr => ?_)
      refine j_iload_n (pc := 77) d_Md_within_77 rfl ?_
      refine j_icmp_gt (pc := 78) (tgt := 85) d_Md_within_78 hr (fun hr => ?_) (fun hr => ?_)
      · refine j_iconst (pc := 85) d_Md_within_85 ?_
        exact mJ_weak (ls' := [(2, v0), (0, v1), (9, 0), (0, v3)]) (mwk_s (mwk_s (mwk_d (mwk_s mwk_n)))) (t_Md_within_J86 hR57 hr)
      · refine j_iconst (pc := 81) d_Md_within_81 ?_
        refine j_goto (pc := 82) (tgt := 86) d_Md_within_82 ?_
        exact mJ_weak (ls' := [(2, v0), (0, v1), (9, 0), (0, v3)]) (mwk_s (mwk_s (mwk_d (mwk_s mwk_n)))) (t_Md_within_J86 hR57 hr)
theorem t_Md_within_J29 {G : mG} {r : mR} {v0 v1 s0 s1 : Int} {h : mH}  (hr : f_Md_within_J29 v0 v1 s0 s1 h = some r) : mJ G M_Md_within 29 [(2, v0), (0, v1), (9, 0), (9, 0)] [(0, s1), (2, s0)] h r := by
  unfold f_Md_within_J29 at hr
  refine j_puti (pc := 29) d_Md_within_29 (fd_Md_86 rfl) (⟨_, _, _, rfl, Or.inl rfl, rfl⟩ : mFldW M_Md_within 86 11 5 .int) hr (fun h1 hr => ?_)
  refine j_aload_n (pc := 32) d_Md_within_32 rfl ?_
  refine j_getf (pc := 33) d_Md_within_33 (fd_Md_86 rfl) hr (fun hr => ?_)
  refine j_if_le (pc := 36) (tgt := 41) d_Md_within_36 hr (fun hr => ?_) (fun hr => ?_)
  · refine j_aload_n (pc := 41) d_Md_within_41 rfl ?_
    refine j_aload_n (pc := 42) d_Md_within_42 rfl ?_
    obtain ⟨ha, hr⟩ := chk_some hr
    refine j_callG (pc := 43) (stk := [(2, v0), (2, v0)]) (as := [(2, v0)]) (P := (fun v9 => ((0 : Nat), v9) :: [(2, v0)])) (tg := 0) (My := M_Md_standNow) (mRunV (as := []) (st := [(2, v0)]) d_Md_within_43 (mc_Md_standNow (by decide)) rfl (mv_Md_standNow tb_ml_Md_265) rfl (Nat.le_of_ble_eq_true rfl) ha) (fun v => rfl) rfl hr (fun r1 h1 => t_Md_standNow _ _ _ h1) (fun x3 h2 hr => ?_)
    refine j_aload_n (pc := 46) d_Md_within_46 rfl ?_
    obtain ⟨ha, hr⟩ := chk_some hr
    refine j_callG (pc := 47) (stk := [(2, v0), (0, x3), (2, v0)]) (as := [(2, v0)]) (P := (fun v9 => ((0 : Nat), v9) :: [(0, x3), (2, v0)])) (tg := 0) (My := M_Md_worn) (mRunV (as := []) (st := [(0, x3), (2, v0)]) d_Md_within_47 (mc_Md_worn (by decide)) rfl (mv_Md_worn tb_ml_Md_244) rfl (Nat.le_of_ble_eq_true rfl) ha) (fun v => rfl) rfl hr (fun r1 h1 => t_Md_worn _ _ _ h1) (fun x5 h4 hr => ?_)
    obtain ⟨ha, hr⟩ := chk_some hr
    refine j_callG (pc := 50) (stk := [(0, x5), (0, x3), (2, v0)]) (as := [(2, v0), (0, x3), (0, x5)]) (P := (fun v9 => [])) (tg := 3) (My := M_Md_laysFrom) (mRunV (as := [(0, x3), (0, x5)]) (st := []) d_Md_within_50 (mc_Md_laysFrom (by decide)) rfl (mv_Md_laysFrom tb_ml_Md_329) rfl (Nat.le_of_ble_eq_true rfl) ha) (fun v => rfl) rfl hr (fun r1 h1 => t_Md_laysFrom _ _ _ _ _ h1) (fun x7 h6 hr => ?_)
    refine j_iconst (pc := 53) d_Md_within_53 ?_
    refine j_istore_n (pc := 54) (ls' := [(2, v0), (0, v1), (0, 0), (9, 0)]) d_Md_within_54 rfl ?_
    refine j_iconst (pc := 55) d_Md_within_55 ?_
    refine j_istore_n (pc := 56) (ls' := [(2, v0), (0, v1), (0, 0), (0, 0)]) d_Md_within_56 rfl ?_
    refine mJ_weak (ls' := [(2, v0), (0, v1), (0, 0), (0, 0)]) (mwk_s (mwk_s (mwk_s (mwk_s mwk_n)))) (t_Md_within_L57  _ _ _ _ hr)
  · refine j_iconst (pc := 39) d_Md_within_39 ?_
    exact j_iret (pc := 40) d_Md_within_40 rfl hr
theorem t_Md_within {G : mG} (h : mH) (v0 v1 : Int) (r : mR) (hr : f_Md_within h v0 v1 = some r) : mJM G M_Md_within [(2, v0), (0, v1)] h r := by
  refine mJM_of (L := [(2, v0), (0, v1), (9, 0), (9, 0)]) rfl rfl rfl (Nat.le_of_ble_eq_true rfl) ?_
  unfold f_Md_within at hr
  refine j_aload_n (pc := 0) d_Md_within_0 rfl ?_
  refine j_aload_n (pc := 1) d_Md_within_1 rfl ?_
  obtain ⟨ha, hr⟩ := chk_some hr
  refine j_callG (pc := 2) (stk := [(2, v0), (2, v0)]) (as := [(2, v0)]) (P := (fun v9 => ((0 : Nat), v9) :: [(2, v0)])) (tg := 0) (My := M_Md_isSpent) (mRunV (as := []) (st := [(2, v0)]) d_Md_within_2 (mc_Md_isSpent (by decide)) rfl (mv_Md_isSpent tb_ml_Md_261) rfl (Nat.le_of_ble_eq_true rfl) ha) (fun v => rfl) rfl hr (fun r1 h1 => t_Md_isSpent _ _ _ h1) (fun x2 h1 hr => ?_)
  refine j_if_eq (pc := 5) (tgt := 12) d_Md_within_5 hr (fun hr => ?_) (fun hr => ?_)
  · refine j_iload_n (pc := 12) d_Md_within_12 rfl ?_
    refine j_i2l (pc := 13) d_Md_within_13 ?_
    refine j_lconst (pc := 14) (z := 0) d_Md_within_14 ?_
    refine j_ldc2 (pc := 15) (z := 999) d_Md_within_15 tb_cj_Md_344 rfl ?_
    refine j_callG (pc := 18) (stk := [(1, 999), (1, 0), (1, v1), (2, v0)]) (as := [(1, v1), (1, 0), (1, 999)]) (P := (fun v9 => ((0 : Nat), v9) :: [(2, v0)])) (tg := 0) (My := M_Md_amid) (mRunS (as := [(1, v1), (1, 0), (1, 999)]) (st := [(2, v0)]) d_Md_within_18 (mc_Md_amid (by decide)) rfl ⟨tb_ml_Md_147, tb_sm_Md_amid⟩ rfl (Nat.le_of_ble_eq_true rfl)) (fun v => rfl) rfl hr (fun r1 h1 => t_Md_amid _ _ _ _ _ h1) (fun x4 h3 hr => ?_)
    refine j_if_eq (pc := 21) (tgt := 28) d_Md_within_21 hr (fun hr => ?_) (fun hr => ?_)
    · refine j_iconst (pc := 28) d_Md_within_28 ?_
      exact mJ_weak (ls' := [(2, v0), (0, v1), (9, 0), (9, 0)]) (mwk_s (mwk_s (mwk_s (mwk_s mwk_n)))) (t_Md_within_J29  hr)
    · refine j_iconst (pc := 24) d_Md_within_24 ?_
      refine j_goto (pc := 25) (tgt := 29) d_Md_within_25 ?_
      exact mJ_weak (ls' := [(2, v0), (0, v1), (9, 0), (9, 0)]) (mwk_s (mwk_s (mwk_s (mwk_s mwk_n)))) (t_Md_within_J29  hr)
  · refine j_iconst (pc := 8) d_Md_within_8 ?_
    refine j_goto (pc := 9) (tgt := 29) d_Md_within_9 ?_
    exact mJ_weak (ls' := [(2, v0), (0, v1), (9, 0), (9, 0)]) (mwk_s (mwk_s (mwk_s (mwk_s mwk_n)))) (t_Md_within_J29  hr)
def M_Md_fromStart : mM := ("NineBarsModel", ⟨"NineBarsModel", "fromStart", "(I)Z"⟩, prog_13_method_76_code, 4, some .boolean, [], 11)
theorem tb_co_Md_fromStart : mTB (Cond.code ⟨"NineBarsModel", "fromStart", "(I)Z"⟩ prog_13_method_76_code 4 (some .boolean)) := tbq8 165 (by decide +kernel) rfl
theorem mc_Md_fromStart {M : mM} (hd : 11 < mDp M) : mCal M M_Md_fromStart 1 := ⟨tb_co_Md_fromStart, tb_in_NineBarsModel, ⟨by decide +kernel, by decide +kernel⟩, by decide +kernel, hd, by decide⟩
theorem d_Md_fromStart_0 : decode prog_13_method_76_code 0 = .ok (.aload_n 0, 1) := by decide +kernel
theorem d_Md_fromStart_1 : decode prog_13_method_76_code 1 = .ok (.aload_n 0, 1) := by decide +kernel
theorem d_Md_fromStart_2 : decode prog_13_method_76_code 2 = .ok (.iload_n 1, 1) := by decide +kernel
theorem d_Md_fromStart_3 : decode prog_13_method_76_code 3 = .ok (.invokevirtual 268, 3) := by decide +kernel
theorem d_Md_fromStart_6 : decode prog_13_method_76_code 6 = .ok (.ifCond .ne 7, 3) := by decide +kernel
theorem d_Md_fromStart_13 : decode prog_13_method_76_code 13 = .ok (.aload_n 0, 1) := by decide +kernel
theorem d_Md_fromStart_14 : decode prog_13_method_76_code 14 = .ok (.invokevirtual 261, 3) := by decide +kernel
theorem d_Md_fromStart_17 : decode prog_13_method_76_code 17 = .ok (.ifCond .eq 7, 3) := by decide +kernel
theorem d_Md_fromStart_24 : decode prog_13_method_76_code 24 = .ok (.iconst 0, 1) := by decide +kernel
theorem d_Md_fromStart_25 : decode prog_13_method_76_code 25 = .ok (.putfield 86, 3) := by decide +kernel
theorem d_Md_fromStart_28 : decode prog_13_method_76_code 28 = .ok (.aload_n 0, 1) := by decide +kernel
theorem d_Md_fromStart_29 : decode prog_13_method_76_code 29 = .ok (.getfield 86, 3) := by decide +kernel
theorem d_Md_fromStart_32 : decode prog_13_method_76_code 32 = .ok (.ifCond .le 5, 3) := by decide +kernel
theorem d_Md_fromStart_37 : decode prog_13_method_76_code 37 = .ok (.iconst 0, 1) := by decide +kernel
theorem d_Md_fromStart_38 : decode prog_13_method_76_code 38 = .ok (.istore_n 2, 1) := by decide +kernel
theorem d_Md_fromStart_39 : decode prog_13_method_76_code 39 = .ok (.aload_n 0, 1) := by decide +kernel
theorem d_Md_fromStart_40 : decode prog_13_method_76_code 40 = .ok (.invokevirtual 210, 3) := by decide +kernel
theorem d_Md_fromStart_43 : decode prog_13_method_76_code 43 = .ok (.iconst 1, 1) := by decide +kernel
theorem d_Md_fromStart_44 : decode prog_13_method_76_code 44 = .ok (.isub, 1) := by decide +kernel
theorem d_Md_fromStart_45 : decode prog_13_method_76_code 45 = .ok (.istore_n 3, 1) := by decide +kernel
theorem d_Md_fromStart_46 : decode prog_13_method_76_code 46 = .ok (.iload_n 3, 1) := by decide +kernel
theorem d_Md_fromStart_47 : decode prog_13_method_76_code 47 = .ok (.ifCond .lt 29, 3) := by decide +kernel
theorem d_Md_fromStart_50 : decode prog_13_method_76_code 50 = .ok (.iload_n 2, 1) := by decide +kernel
theorem d_Md_fromStart_51 : decode prog_13_method_76_code 51 = .ok (.aload_n 0, 1) := by decide +kernel
theorem d_Md_fromStart_52 : decode prog_13_method_76_code 52 = .ok (.iload_n 3, 1) := by decide +kernel
theorem d_Md_fromStart_53 : decode prog_13_method_76_code 53 = .ok (.iconst 0, 1) := by decide +kernel
theorem d_Md_fromStart_54 : decode prog_13_method_76_code 54 = .ok (.invokevirtual 213, 3) := by decide +kernel
theorem d_Md_fromStart_57 : decode prog_13_method_76_code 57 = .ok (.imul, 1) := by decide +kernel
theorem d_Md_fromStart_58 : decode prog_13_method_76_code 58 = .ok (.aload_n 0, 1) := by decide +kernel
theorem d_Md_fromStart_59 : decode prog_13_method_76_code 59 = .ok (.getfield 9, 3) := by decide +kernel
theorem d_Md_fromStart_62 : decode prog_13_method_76_code 62 = .ok (.sipush 425, 3) := by decide +kernel
theorem d_Md_fromStart_65 : decode prog_13_method_76_code 65 = .ok (.iload_n 3, 1) := by decide +kernel
theorem d_Md_fromStart_66 : decode prog_13_method_76_code 66 = .ok (.iadd, 1) := by decide +kernel
theorem d_Md_fromStart_67 : decode prog_13_method_76_code 67 = .ok (.iaload, 1) := by decide +kernel
theorem d_Md_fromStart_68 : decode prog_13_method_76_code 68 = .ok (.iadd, 1) := by decide +kernel
theorem d_Md_fromStart_69 : decode prog_13_method_76_code 69 = .ok (.istore_n 2, 1) := by decide +kernel
theorem d_Md_fromStart_70 : decode prog_13_method_76_code 70 = .ok (.iinc 3 (-1), 3) := by decide +kernel
theorem d_Md_fromStart_73 : decode prog_13_method_76_code 73 = .ok (.goto (-27), 3) := by decide +kernel
theorem d_Md_fromStart_76 : decode prog_13_method_76_code 76 = .ok (.aload_n 0, 1) := by decide +kernel
theorem d_Md_fromStart_77 : decode prog_13_method_76_code 77 = .ok (.iload_n 2, 1) := by decide +kernel
theorem d_Md_fromStart_78 : decode prog_13_method_76_code 78 = .ok (.aload_n 0, 1) := by decide +kernel
theorem d_Md_fromStart_79 : decode prog_13_method_76_code 79 = .ok (.invokevirtual 244, 3) := by decide +kernel
theorem d_Md_fromStart_82 : decode prog_13_method_76_code 82 = .ok (.invokevirtual 329, 3) := by decide +kernel
theorem d_Md_fromStart_85 : decode prog_13_method_76_code 85 = .ok (.aload_n 0, 1) := by decide +kernel
theorem d_Md_fromStart_86 : decode prog_13_method_76_code 86 = .ok (.getfield 39, 3) := by decide +kernel
theorem d_Md_fromStart_89 : decode prog_13_method_76_code 89 = .ok (.iload_n 1, 1) := by decide +kernel
theorem d_Md_fromStart_90 : decode prog_13_method_76_code 90 = .ok (.iaload, 1) := by decide +kernel
theorem d_Md_fromStart_91 : decode prog_13_method_76_code 91 = .ok (.iconst (-1), 1) := by decide +kernel
theorem d_Md_fromStart_92 : decode prog_13_method_76_code 92 = .ok (.if_icmp .eq 7, 3) := by decide +kernel
theorem d_Md_fromStart_99 : decode prog_13_method_76_code 99 = .ok (.iconst 0, 1) := by decide +kernel
theorem d_Md_fromStart_100 : decode prog_13_method_76_code 100 = .ok (.ireturn, 1) := by decide +kernel
theorem d_Md_fromStart_95 : decode prog_13_method_76_code 95 = .ok (.iconst 1, 1) := by decide +kernel
theorem d_Md_fromStart_96 : decode prog_13_method_76_code 96 = .ok (.goto 4, 3) := by decide +kernel
theorem d_Md_fromStart_35 : decode prog_13_method_76_code 35 = .ok (.iconst 0, 1) := by decide +kernel
theorem d_Md_fromStart_36 : decode prog_13_method_76_code 36 = .ok (.ireturn, 1) := by decide +kernel
theorem d_Md_fromStart_20 : decode prog_13_method_76_code 20 = .ok (.iconst 2, 1) := by decide +kernel
theorem d_Md_fromStart_21 : decode prog_13_method_76_code 21 = .ok (.goto 4, 3) := by decide +kernel
theorem d_Md_fromStart_9 : decode prog_13_method_76_code 9 = .ok (.iconst 1, 1) := by decide +kernel
theorem d_Md_fromStart_10 : decode prog_13_method_76_code 10 = .ok (.goto 15, 3) := by decide +kernel
theorem t_Md_fromStart_L46 {G : mG} {r : mR} {v0 v1 : Int} {K76 : mH → Int → Option mR} (hK76 : ∀ (h : mH) (w2 : Int) , K76 h w2 = some r → mJ G M_Md_fromStart 76 [(2, v0), (0, v1), (0, w2), (9, 0)] [] h r) : ∀ (n : Nat) (h : mH) (v2 v3 : Int), f_Md_fromStart_L46 K76 v0 n h v2 v3 = some r → mJ G M_Md_fromStart 46 [(2, v0), (0, v1), (0, v2), (0, v3)] [] h r := by
  intro n
  induction n with
  | zero =>
    intro h v2 v3 hr
    rw [f_Md_fromStart_L46] at hr
    cases hr
  | succ n hR46 =>
    intro h v2 v3 hr
    rw [f_Md_fromStart_L46] at hr
    refine j_iload_n (pc := 46) d_Md_fromStart_46 rfl ?_
    refine j_if_lt (pc := 47) (tgt := 76) d_Md_fromStart_47 hr (fun hr => ?_) (fun hr => ?_)
    · exact mJ_weak (ls' := [(2, v0), (0, v1), (0, v2), (9, 0)]) (mwk_s (mwk_s (mwk_s (mwk_d mwk_n)))) (hK76 h _ hr)
    · refine j_iload_n (pc := 50) d_Md_fromStart_50 rfl ?_
      refine j_aload_n (pc := 51) d_Md_fromStart_51 rfl ?_
      refine j_iload_n (pc := 52) d_Md_fromStart_52 rfl ?_
      refine j_iconst (pc := 53) d_Md_fromStart_53 ?_
      obtain ⟨ha, hr⟩ := chk_some hr
      refine j_callG (pc := 54) (stk := [(0, 0), (0, v3), (2, v0), (0, v2)]) (as := [(2, v0), (0, v3), (0, 0)]) (P := (fun v9 => ((0 : Nat), v9) :: [(0, v2)])) (tg := 0) (My := M_Md_of) (mRunV (as := [(0, v3), (0, 0)]) (st := [(0, v2)]) d_Md_fromStart_54 (mc_Md_of (by decide)) rfl (mv_Md_of tb_ml_Md_213) rfl (Nat.le_of_ble_eq_true rfl) ha) (fun v => rfl) rfl hr (fun r1 h1 => t_Md_of _ _ _ _ _ h1) (fun x2 h1 hr => ?_)
      refine j_imul (pc := 57) d_Md_fromStart_57 ?_
      refine j_aload_n (pc := 58) d_Md_fromStart_58 rfl ?_
      refine j_getf (pc := 59) d_Md_fromStart_59 (fd_Md_9 rfl) hr (fun hr => ?_)
      refine j_sipush (pc := 62) d_Md_fromStart_62 ?_
      refine j_iload_n (pc := 65) d_Md_fromStart_65 rfl ?_
      refine j_iadd (pc := 66) d_Md_fromStart_66 ?_
      refine j_iaload (pc := 67) d_Md_fromStart_67 hr (fun hr => ?_)
      refine j_iadd (pc := 68) d_Md_fromStart_68 ?_
      refine j_istoreW_n (pc := 69) (L := fun x3 => [(2, v0), (0, v1), (0, x3), (0, v3)]) d_Md_fromStart_69 (fun _ => rfl) hr (fun x3 hr => ?_)
      refine j_iincW (pc := 70) (L := fun x4 => [(2, v0), (0, v1), (0, x3), (0, x4)]) d_Md_fromStart_70 rfl (fun _ => rfl) hr (fun x4 hr => ?_)
      refine j_goto (pc := 73) (tgt := 46) d_Md_fromStart_73 ?_
      exact mJ_weak (ls' := [(2, v0), (0, v1), (0, x3), (0, x4)]) (mwk_s (mwk_s (mwk_s (mwk_s mwk_n)))) (hR46 h1 _ _ hr)
theorem t_Md_fromStart_J25 {G : mG} {r : mR} {v0 v1 s0 s1 : Int} {h : mH}  (hr : f_Md_fromStart_J25 v0 v1 s0 s1 h = some r) : mJ G M_Md_fromStart 25 [(2, v0), (0, v1), (9, 0), (9, 0)] [(0, s1), (2, s0)] h r := by
  unfold f_Md_fromStart_J25 at hr
  refine j_puti (pc := 25) d_Md_fromStart_25 (fd_Md_86 rfl) (⟨_, _, _, rfl, Or.inl rfl, rfl⟩ : mFldW M_Md_fromStart 86 11 5 .int) hr (fun h1 hr => ?_)
  refine j_aload_n (pc := 28) d_Md_fromStart_28 rfl ?_
  refine j_getf (pc := 29) d_Md_fromStart_29 (fd_Md_86 rfl) hr (fun hr => ?_)
  refine j_if_le (pc := 32) (tgt := 37) d_Md_fromStart_32 hr (fun hr => ?_) (fun hr => ?_)
  · refine j_iconst (pc := 37) d_Md_fromStart_37 ?_
    refine j_istore_n (pc := 38) (ls' := [(2, v0), (0, v1), (0, 0), (9, 0)]) d_Md_fromStart_38 rfl ?_
    refine j_aload_n (pc := 39) d_Md_fromStart_39 rfl ?_
    obtain ⟨ha, hr⟩ := chk_some hr
    refine j_callG (pc := 40) (stk := [(2, v0)]) (as := [(2, v0)]) (P := (fun v9 => ((0 : Nat), v9) :: [])) (tg := 0) (My := M_Md_bars) (mRunV (as := []) (st := []) d_Md_fromStart_40 (mc_Md_bars (by decide)) rfl (mv_Md_bars tb_ml_Md_210) rfl (Nat.le_of_ble_eq_true rfl) ha) (fun v => rfl) rfl hr (fun r1 h1 => t_Md_bars _ _ _ h1) (fun x3 h2 hr => ?_)
    refine j_iconst (pc := 43) d_Md_fromStart_43 ?_
    refine j_isub (pc := 44) d_Md_fromStart_44 ?_
    refine j_istoreW_n (pc := 45) (L := fun x4 => [(2, v0), (0, v1), (0, 0), (0, x4)]) d_Md_fromStart_45 (fun _ => rfl) hr (fun x4 hr => ?_)
    refine mJ_weak (ls' := [(2, v0), (0, v1), (0, 0), (0, x4)]) (mwk_s (mwk_s (mwk_s (mwk_s mwk_n)))) (t_Md_fromStart_L46 (fun h5 x6 hr => ?_) _ _ _ _ hr)
    · refine j_aload_n (pc := 76) d_Md_fromStart_76 rfl ?_
      refine j_iload_n (pc := 77) d_Md_fromStart_77 rfl ?_
      refine j_aload_n (pc := 78) d_Md_fromStart_78 rfl ?_
      obtain ⟨ha, hr⟩ := chk_some hr
      refine j_callG (pc := 79) (stk := [(2, v0), (0, x6), (2, v0)]) (as := [(2, v0)]) (P := (fun v9 => ((0 : Nat), v9) :: [(0, x6), (2, v0)])) (tg := 0) (My := M_Md_worn) (mRunV (as := []) (st := [(0, x6), (2, v0)]) d_Md_fromStart_79 (mc_Md_worn (by decide)) rfl (mv_Md_worn tb_ml_Md_244) rfl (Nat.le_of_ble_eq_true rfl) ha) (fun v => rfl) rfl hr (fun r1 h1 => t_Md_worn _ _ _ h1) (fun x8 h7 hr => ?_)
      obtain ⟨ha, hr⟩ := chk_some hr
      refine j_callG (pc := 82) (stk := [(0, x8), (0, x6), (2, v0)]) (as := [(2, v0), (0, x6), (0, x8)]) (P := (fun v9 => [])) (tg := 3) (My := M_Md_laysFrom) (mRunV (as := [(0, x6), (0, x8)]) (st := []) d_Md_fromStart_82 (mc_Md_laysFrom (by decide)) rfl (mv_Md_laysFrom tb_ml_Md_329) rfl (Nat.le_of_ble_eq_true rfl) ha) (fun v => rfl) rfl hr (fun r1 h1 => t_Md_laysFrom _ _ _ _ _ h1) (fun x10 h9 hr => ?_)
      refine j_aload_n (pc := 85) d_Md_fromStart_85 rfl ?_
      refine j_getf (pc := 86) d_Md_fromStart_86 (fd_Md_39 rfl) hr (fun hr => ?_)
      refine j_iload_n (pc := 89) d_Md_fromStart_89 rfl ?_
      refine j_iaload (pc := 90) d_Md_fromStart_90 hr (fun hr => ?_)
      refine j_iconst (pc := 91) d_Md_fromStart_91 ?_
      refine j_icmp_eq (pc := 92) (tgt := 99) d_Md_fromStart_92 hr (fun hr => ?_) (fun hr => ?_)
      · refine j_iconst (pc := 99) d_Md_fromStart_99 ?_
        exact j_zret (pc := 100) d_Md_fromStart_100 rfl hr
      · refine j_iconst (pc := 95) d_Md_fromStart_95 ?_
        refine j_goto (pc := 96) (tgt := 100) d_Md_fromStart_96 ?_
        exact j_zret (pc := 100) d_Md_fromStart_100 rfl hr
  · refine j_iconst (pc := 35) d_Md_fromStart_35 ?_
    exact j_zret (pc := 36) d_Md_fromStart_36 rfl hr
theorem t_Md_fromStart {G : mG} (h : mH) (v0 v1 : Int) (r : mR) (hr : f_Md_fromStart h v0 v1 = some r) : mJM G M_Md_fromStart [(2, v0), (0, v1)] h r := by
  refine mJM_of (L := [(2, v0), (0, v1), (9, 0), (9, 0)]) rfl rfl rfl (Nat.le_of_ble_eq_true rfl) ?_
  unfold f_Md_fromStart at hr
  refine j_aload_n (pc := 0) d_Md_fromStart_0 rfl ?_
  refine j_aload_n (pc := 1) d_Md_fromStart_1 rfl ?_
  refine j_iload_n (pc := 2) d_Md_fromStart_2 rfl ?_
  obtain ⟨ha, hr⟩ := chk_some hr
  refine j_callG (pc := 3) (stk := [(0, v1), (2, v0), (2, v0)]) (as := [(2, v0), (0, v1)]) (P := (fun v9 => ((0 : Nat), v9) :: [(2, v0)])) (tg := 0) (My := M_Md_isStand) (mRunV (as := [(0, v1)]) (st := [(2, v0)]) d_Md_fromStart_3 (mc_Md_isStand (by decide)) rfl (mv_Md_isStand tb_ml_Md_268) rfl (Nat.le_of_ble_eq_true rfl) ha) (fun v => rfl) rfl hr (fun r1 h1 => t_Md_isStand _ _ _ _ h1) (fun x2 h1 hr => ?_)
  refine j_if_ne (pc := 6) (tgt := 13) d_Md_fromStart_6 hr (fun hr => ?_) (fun hr => ?_)
  · refine j_aload_n (pc := 13) d_Md_fromStart_13 rfl ?_
    obtain ⟨ha, hr⟩ := chk_some hr
    refine j_callG (pc := 14) (stk := [(2, v0), (2, v0)]) (as := [(2, v0)]) (P := (fun v9 => ((0 : Nat), v9) :: [(2, v0)])) (tg := 0) (My := M_Md_isSpent) (mRunV (as := []) (st := [(2, v0)]) d_Md_fromStart_14 (mc_Md_isSpent (by decide)) rfl (mv_Md_isSpent tb_ml_Md_261) rfl (Nat.le_of_ble_eq_true rfl) ha) (fun v => rfl) rfl hr (fun r1 h1 => t_Md_isSpent _ _ _ h1) (fun x4 h3 hr => ?_)
    refine j_if_eq (pc := 17) (tgt := 24) d_Md_fromStart_17 hr (fun hr => ?_) (fun hr => ?_)
    · refine j_iconst (pc := 24) d_Md_fromStart_24 ?_
      exact mJ_weak (ls' := [(2, v0), (0, v1), (9, 0), (9, 0)]) (mwk_s (mwk_s (mwk_s (mwk_s mwk_n)))) (t_Md_fromStart_J25  hr)
    · refine j_iconst (pc := 20) d_Md_fromStart_20 ?_
      refine j_goto (pc := 21) (tgt := 25) d_Md_fromStart_21 ?_
      exact mJ_weak (ls' := [(2, v0), (0, v1), (9, 0), (9, 0)]) (mwk_s (mwk_s (mwk_s (mwk_s mwk_n)))) (t_Md_fromStart_J25  hr)
  · refine j_iconst (pc := 9) d_Md_fromStart_9 ?_
    refine j_goto (pc := 10) (tgt := 25) d_Md_fromStart_10 ?_
    exact mJ_weak (ls' := [(2, v0), (0, v1), (9, 0), (9, 0)]) (mwk_s (mwk_s (mwk_s (mwk_s mwk_n)))) (t_Md_fromStart_J25  hr)
def M_Md_laysBoth : mM := ("NineBarsModel", ⟨"NineBarsModel", "laysBoth", "()V"⟩, prog_13_method_77_code, 2, none, [], 11)
theorem tb_co_Md_laysBoth : mTB (Cond.code ⟨"NineBarsModel", "laysBoth", "()V"⟩ prog_13_method_77_code 2 (none)) := tbq8 173 (by decide +kernel) rfl
theorem mc_Md_laysBoth {M : mM} (hd : 11 < mDp M) : mCal M M_Md_laysBoth 0 := ⟨tb_co_Md_laysBoth, tb_in_NineBarsModel, ⟨by decide +kernel, by decide +kernel⟩, by decide +kernel, hd, by decide⟩
theorem d_Md_laysBoth_0 : decode prog_13_method_77_code 0 = .ok (.aload_n 0, 1) := by decide +kernel
theorem d_Md_laysBoth_1 : decode prog_13_method_77_code 1 = .ok (.aload_n 0, 1) := by decide +kernel
theorem d_Md_laysBoth_2 : decode prog_13_method_77_code 2 = .ok (.invokevirtual 341, 3) := by decide +kernel
theorem d_Md_laysBoth_5 : decode prog_13_method_77_code 5 = .ok (.aload_n 0, 1) := by decide +kernel
theorem d_Md_laysBoth_6 : decode prog_13_method_77_code 6 = .ok (.invokevirtual 244, 3) := by decide +kernel
theorem d_Md_laysBoth_9 : decode prog_13_method_77_code 9 = .ok (.invokevirtual 332, 3) := by decide +kernel
theorem d_Md_laysBoth_12 : decode prog_13_method_77_code 12 = .ok (.iconst 0, 1) := by decide +kernel
theorem d_Md_laysBoth_13 : decode prog_13_method_77_code 13 = .ok (.istore_n 1, 1) := by decide +kernel
theorem d_Md_laysBoth_14 : decode prog_13_method_77_code 14 = .ok (.iload_n 1, 1) := by decide +kernel
theorem d_Md_laysBoth_15 : decode prog_13_method_77_code 15 = .ok (.aload_n 0, 1) := by decide +kernel
theorem d_Md_laysBoth_16 : decode prog_13_method_77_code 16 = .ok (.invokevirtual 219, 3) := by decide +kernel
theorem d_Md_laysBoth_19 : decode prog_13_method_77_code 19 = .ok (.if_icmp .ge 21, 3) := by decide +kernel
theorem d_Md_laysBoth_22 : decode prog_13_method_77_code 22 = .ok (.aload_n 0, 1) := by decide +kernel
theorem d_Md_laysBoth_23 : decode prog_13_method_77_code 23 = .ok (.getfield 52, 3) := by decide +kernel
theorem d_Md_laysBoth_26 : decode prog_13_method_77_code 26 = .ok (.iload_n 1, 1) := by decide +kernel
theorem d_Md_laysBoth_27 : decode prog_13_method_77_code 27 = .ok (.aload_n 0, 1) := by decide +kernel
theorem d_Md_laysBoth_28 : decode prog_13_method_77_code 28 = .ok (.getfield 39, 3) := by decide +kernel
theorem d_Md_laysBoth_31 : decode prog_13_method_77_code 31 = .ok (.iload_n 1, 1) := by decide +kernel
theorem d_Md_laysBoth_32 : decode prog_13_method_77_code 32 = .ok (.iaload, 1) := by decide +kernel
theorem d_Md_laysBoth_33 : decode prog_13_method_77_code 33 = .ok (.iastore, 1) := by decide +kernel
theorem d_Md_laysBoth_34 : decode prog_13_method_77_code 34 = .ok (.iinc 1 1, 3) := by decide +kernel
theorem d_Md_laysBoth_37 : decode prog_13_method_77_code 37 = .ok (.goto (-23), 3) := by decide +kernel
theorem d_Md_laysBoth_40 : decode prog_13_method_77_code 40 = .ok (.aload_n 0, 1) := by decide +kernel
theorem d_Md_laysBoth_41 : decode prog_13_method_77_code 41 = .ok (.aload_n 0, 1) := by decide +kernel
theorem d_Md_laysBoth_42 : decode prog_13_method_77_code 42 = .ok (.invokevirtual 265, 3) := by decide +kernel
theorem d_Md_laysBoth_45 : decode prog_13_method_77_code 45 = .ok (.aload_n 0, 1) := by decide +kernel
theorem d_Md_laysBoth_46 : decode prog_13_method_77_code 46 = .ok (.invokevirtual 244, 3) := by decide +kernel
theorem d_Md_laysBoth_49 : decode prog_13_method_77_code 49 = .ok (.invokevirtual 329, 3) := by decide +kernel
theorem d_Md_laysBoth_52 : decode prog_13_method_77_code 52 = .ok (.return_, 1) := by decide +kernel
theorem t_Md_laysBoth_L14 {G : mG} {r : mR} {v0 : Int} {K40 : mH → Option mR} (hK40 : ∀ (h : mH) , K40 h  = some r → mJ G M_Md_laysBoth 40 [(2, v0), (9, 0)] [] h r) : ∀ (n : Nat) (h : mH) (v1 : Int), f_Md_laysBoth_L14 K40 v0 n h v1 = some r → mJ G M_Md_laysBoth 14 [(2, v0), (0, v1)] [] h r := by
  intro n
  induction n with
  | zero =>
    intro h v1 hr
    rw [f_Md_laysBoth_L14] at hr
    cases hr
  | succ n hR14 =>
    intro h v1 hr
    rw [f_Md_laysBoth_L14] at hr
    refine j_iload_n (pc := 14) d_Md_laysBoth_14 rfl ?_
    refine j_aload_n (pc := 15) d_Md_laysBoth_15 rfl ?_
    obtain ⟨ha, hr⟩ := chk_some hr
    refine j_callG (pc := 16) (stk := [(2, v0), (0, v1)]) (as := [(2, v0)]) (P := (fun v9 => ((0 : Nat), v9) :: [(0, v1)])) (tg := 0) (My := M_Md_stands) (mRunV (as := []) (st := [(0, v1)]) d_Md_laysBoth_16 (mc_Md_stands (by decide)) rfl (mv_Md_stands tb_ml_Md_219) rfl (Nat.le_of_ble_eq_true rfl) ha) (fun v => rfl) rfl hr (fun r1 h1 => t_Md_stands _ _ _ h1) (fun x2 h1 hr => ?_)
    refine j_icmp_ge (pc := 19) (tgt := 40) d_Md_laysBoth_19 hr (fun hr => ?_) (fun hr => ?_)
    · exact mJ_weak (ls' := [(2, v0), (9, 0)]) (mwk_s (mwk_d mwk_n)) (hK40 h1  hr)
    · refine j_aload_n (pc := 22) d_Md_laysBoth_22 rfl ?_
      refine j_getf (pc := 23) d_Md_laysBoth_23 (fd_Md_52 rfl) hr (fun hr => ?_)
      refine j_iload_n (pc := 26) d_Md_laysBoth_26 rfl ?_
      refine j_aload_n (pc := 27) d_Md_laysBoth_27 rfl ?_
      refine j_getf (pc := 28) d_Md_laysBoth_28 (fd_Md_39 rfl) hr (fun hr => ?_)
      refine j_iload_n (pc := 31) d_Md_laysBoth_31 rfl ?_
      refine j_iaload (pc := 32) d_Md_laysBoth_32 hr (fun hr => ?_)
      refine j_iastore (pc := 33) d_Md_laysBoth_33 hr (fun h3 hr => ?_)
      refine j_iincW (pc := 34) (L := fun x4 => [(2, v0), (0, x4)]) d_Md_laysBoth_34 rfl (fun _ => rfl) hr (fun x4 hr => ?_)
      refine j_goto (pc := 37) (tgt := 14) d_Md_laysBoth_37 ?_
      exact mJ_weak (ls' := [(2, v0), (0, x4)]) (mwk_s (mwk_s mwk_n)) (hR14 h3 _ hr)
theorem t_Md_laysBoth {G : mG} (h : mH) (v0 : Int) (r : mR) (hr : f_Md_laysBoth h v0 = some r) : mJM G M_Md_laysBoth [(2, v0)] h r := by
  refine mJM_of (L := [(2, v0), (9, 0)]) rfl rfl rfl (Nat.le_of_ble_eq_true rfl) ?_
  unfold f_Md_laysBoth at hr
  refine j_aload_n (pc := 0) d_Md_laysBoth_0 rfl ?_
  refine j_aload_n (pc := 1) d_Md_laysBoth_1 rfl ?_
  obtain ⟨ha, hr⟩ := chk_some hr
  refine j_callG (pc := 2) (stk := [(2, v0), (2, v0)]) (as := [(2, v0)]) (P := (fun v9 => ((0 : Nat), v9) :: [(2, v0)])) (tg := 0) (My := M_Md_openStand) (mRunV (as := []) (st := [(2, v0)]) d_Md_laysBoth_2 (mc_Md_openStand (by decide)) rfl (mv_Md_openStand tb_ml_Md_341) rfl (Nat.le_of_ble_eq_true rfl) ha) (fun v => rfl) rfl hr (fun r1 h1 => t_Md_openStand _ _ _ h1) (fun x2 h1 hr => ?_)
  refine j_aload_n (pc := 5) d_Md_laysBoth_5 rfl ?_
  obtain ⟨ha, hr⟩ := chk_some hr
  refine j_callG (pc := 6) (stk := [(2, v0), (0, x2), (2, v0)]) (as := [(2, v0)]) (P := (fun v9 => ((0 : Nat), v9) :: [(0, x2), (2, v0)])) (tg := 0) (My := M_Md_worn) (mRunV (as := []) (st := [(0, x2), (2, v0)]) d_Md_laysBoth_6 (mc_Md_worn (by decide)) rfl (mv_Md_worn tb_ml_Md_244) rfl (Nat.le_of_ble_eq_true rfl) ha) (fun v => rfl) rfl hr (fun r1 h1 => t_Md_worn _ _ _ h1) (fun x4 h3 hr => ?_)
  obtain ⟨ha, hr⟩ := chk_some hr
  refine j_callG (pc := 9) (stk := [(0, x4), (0, x2), (2, v0)]) (as := [(2, v0), (0, x2), (0, x4)]) (P := (fun v9 => [])) (tg := 3) (My := M_Md_laysTo) (mRunV (as := [(0, x2), (0, x4)]) (st := []) d_Md_laysBoth_9 (mc_Md_laysTo (by decide)) rfl (mv_Md_laysTo tb_ml_Md_332) rfl (Nat.le_of_ble_eq_true rfl) ha) (fun v => rfl) rfl hr (fun r1 h1 => t_Md_laysTo _ _ _ _ _ h1) (fun x6 h5 hr => ?_)
  refine j_iconst (pc := 12) d_Md_laysBoth_12 ?_
  refine j_istore_n (pc := 13) (ls' := [(2, v0), (0, 0)]) d_Md_laysBoth_13 rfl ?_
  refine mJ_weak (ls' := [(2, v0), (0, 0)]) (mwk_s (mwk_s mwk_n)) (t_Md_laysBoth_L14 (fun h7  hr => ?_) _ _ _ hr)
  · refine j_aload_n (pc := 40) d_Md_laysBoth_40 rfl ?_
    refine j_aload_n (pc := 41) d_Md_laysBoth_41 rfl ?_
    obtain ⟨ha, hr⟩ := chk_some hr
    refine j_callG (pc := 42) (stk := [(2, v0), (2, v0)]) (as := [(2, v0)]) (P := (fun v9 => ((0 : Nat), v9) :: [(2, v0)])) (tg := 0) (My := M_Md_standNow) (mRunV (as := []) (st := [(2, v0)]) d_Md_laysBoth_42 (mc_Md_standNow (by decide)) rfl (mv_Md_standNow tb_ml_Md_265) rfl (Nat.le_of_ble_eq_true rfl) ha) (fun v => rfl) rfl hr (fun r1 h1 => t_Md_standNow _ _ _ h1) (fun x9 h8 hr => ?_)
    refine j_aload_n (pc := 45) d_Md_laysBoth_45 rfl ?_
    obtain ⟨ha, hr⟩ := chk_some hr
    refine j_callG (pc := 46) (stk := [(2, v0), (0, x9), (2, v0)]) (as := [(2, v0)]) (P := (fun v9 => ((0 : Nat), v9) :: [(0, x9), (2, v0)])) (tg := 0) (My := M_Md_worn) (mRunV (as := []) (st := [(0, x9), (2, v0)]) d_Md_laysBoth_46 (mc_Md_worn (by decide)) rfl (mv_Md_worn tb_ml_Md_244) rfl (Nat.le_of_ble_eq_true rfl) ha) (fun v => rfl) rfl hr (fun r1 h1 => t_Md_worn _ _ _ h1) (fun x11 h10 hr => ?_)
    obtain ⟨ha, hr⟩ := chk_some hr
    refine j_callG (pc := 49) (stk := [(0, x11), (0, x9), (2, v0)]) (as := [(2, v0), (0, x9), (0, x11)]) (P := (fun v9 => [])) (tg := 3) (My := M_Md_laysFrom) (mRunV (as := [(0, x9), (0, x11)]) (st := []) d_Md_laysBoth_49 (mc_Md_laysFrom (by decide)) rfl (mv_Md_laysFrom tb_ml_Md_329) rfl (Nat.le_of_ble_eq_true rfl) ha) (fun v => rfl) rfl hr (fun r1 h1 => t_Md_laysFrom _ _ _ _ _ h1) (fun x13 h12 hr => ?_)
    exact j_vret (pc := 52) d_Md_laysBoth_52 rfl hr
def M_Md_dead : mM := ("NineBarsModel", ⟨"NineBarsModel", "dead", "(I)I"⟩, prog_13_method_78_code, 5, some .int, [], 13)
theorem tb_co_Md_dead : mTB (Cond.code ⟨"NineBarsModel", "dead", "(I)I"⟩ prog_13_method_78_code 5 (some .int)) := tbq8 169 (by decide +kernel) rfl
theorem mc_Md_dead {M : mM} (hd : 13 < mDp M) : mCal M M_Md_dead 1 := ⟨tb_co_Md_dead, tb_in_NineBarsModel, ⟨by decide +kernel, by decide +kernel⟩, by decide +kernel, hd, by decide⟩
theorem d_Md_dead_0 : decode prog_13_method_78_code 0 = .ok (.aload_n 0, 1) := by decide +kernel
theorem d_Md_dead_1 : decode prog_13_method_78_code 1 = .ok (.aload_n 0, 1) := by decide +kernel
theorem d_Md_dead_2 : decode prog_13_method_78_code 2 = .ok (.invokevirtual 261, 3) := by decide +kernel
theorem d_Md_dead_5 : decode prog_13_method_78_code 5 = .ok (.ifCond .eq 7, 3) := by decide +kernel
theorem d_Md_dead_12 : decode prog_13_method_78_code 12 = .ok (.iload_n 1, 1) := by decide +kernel
theorem d_Md_dead_13 : decode prog_13_method_78_code 13 = .ok (.i2l, 1) := by decide +kernel
theorem d_Md_dead_14 : decode prog_13_method_78_code 14 = .ok (.lconst 0, 1) := by decide +kernel
theorem d_Md_dead_15 : decode prog_13_method_78_code 15 = .ok (.lconst 1, 1) := by decide +kernel
theorem d_Md_dead_16 : decode prog_13_method_78_code 16 = .ok (.invokestatic 147, 3) := by decide +kernel
theorem d_Md_dead_19 : decode prog_13_method_78_code 19 = .ok (.ifCond .eq 7, 3) := by decide +kernel
theorem d_Md_dead_26 : decode prog_13_method_78_code 26 = .ok (.iconst 2, 1) := by decide +kernel
theorem d_Md_dead_27 : decode prog_13_method_78_code 27 = .ok (.putfield 86, 3) := by decide +kernel
theorem d_Md_dead_30 : decode prog_13_method_78_code 30 = .ok (.aload_n 0, 1) := by decide +kernel
theorem d_Md_dead_31 : decode prog_13_method_78_code 31 = .ok (.getfield 86, 3) := by decide +kernel
theorem d_Md_dead_34 : decode prog_13_method_78_code 34 = .ok (.ifCond .le 5, 3) := by decide +kernel
theorem d_Md_dead_39 : decode prog_13_method_78_code 39 = .ok (.aload_n 0, 1) := by decide +kernel
theorem d_Md_dead_40 : decode prog_13_method_78_code 40 = .ok (.invokevirtual 346, 3) := by decide +kernel
theorem tb_ml_Md_346 : mTB (Cond.methodLink "NineBarsModel" 346 ⟨"NineBarsModel", "laysBoth", "()V"⟩) := tbq8 170 (by decide +kernel) rfl
theorem tb_im_Md_laysBoth : mTB (Cond.instanceMethod ⟨"NineBarsModel", "laysBoth", "()V"⟩) := tbq8 172 (by decide +kernel) rfl
theorem tb_se_Md_laysBoth : mTB (Cond.selects "NineBarsModel" ⟨"NineBarsModel", "laysBoth", "()V"⟩ ⟨"NineBarsModel", "laysBoth", "()V"⟩) := tbqp 92 (by decide +kernel) rfl
theorem mv_Md_laysBoth {M : mM} {idx : Nat} (h : mTB (Cond.methodLink (mO M) idx ⟨"NineBarsModel", "laysBoth", "()V"⟩)) : mCaV M M_Md_laysBoth idx 11 := ⟨h, tb_im_Md_laysBoth, tb_se_Md_laysBoth, by decide, TX11, 40, rfl⟩
theorem d_Md_dead_43 : decode prog_13_method_78_code 43 = .ok (.iconst 0, 1) := by decide +kernel
theorem d_Md_dead_44 : decode prog_13_method_78_code 44 = .ok (.istore_n 2, 1) := by decide +kernel
theorem d_Md_dead_45 : decode prog_13_method_78_code 45 = .ok (.iconst (-1), 1) := by decide +kernel
theorem d_Md_dead_46 : decode prog_13_method_78_code 46 = .ok (.istore_n 3, 1) := by decide +kernel
theorem d_Md_dead_47 : decode prog_13_method_78_code 47 = .ok (.aload_n 0, 1) := by decide +kernel
theorem d_Md_dead_48 : decode prog_13_method_78_code 48 = .ok (.invokevirtual 219, 3) := by decide +kernel
theorem d_Md_dead_51 : decode prog_13_method_78_code 51 = .ok (.iconst 1, 1) := by decide +kernel
theorem d_Md_dead_52 : decode prog_13_method_78_code 52 = .ok (.isub, 1) := by decide +kernel
theorem d_Md_dead_53 : decode prog_13_method_78_code 53 = .ok (.istore 4, 2) := by decide +kernel
theorem d_Md_dead_55 : decode prog_13_method_78_code 55 = .ok (.iload 4, 2) := by decide +kernel
theorem d_Md_dead_57 : decode prog_13_method_78_code 57 = .ok (.ifCond .lt 40, 3) := by decide +kernel
theorem d_Md_dead_60 : decode prog_13_method_78_code 60 = .ok (.aload_n 0, 1) := by decide +kernel
theorem d_Md_dead_61 : decode prog_13_method_78_code 61 = .ok (.getfield 39, 3) := by decide +kernel
theorem d_Md_dead_64 : decode prog_13_method_78_code 64 = .ok (.iload 4, 2) := by decide +kernel
theorem d_Md_dead_66 : decode prog_13_method_78_code 66 = .ok (.iaload, 1) := by decide +kernel
theorem d_Md_dead_67 : decode prog_13_method_78_code 67 = .ok (.iconst (-1), 1) := by decide +kernel
theorem d_Md_dead_68 : decode prog_13_method_78_code 68 = .ok (.if_icmp .eq 23, 3) := by decide +kernel
theorem d_Md_dead_91 : decode prog_13_method_78_code 91 = .ok (.iinc 4 (-1), 3) := by decide +kernel
theorem d_Md_dead_94 : decode prog_13_method_78_code 94 = .ok (.goto (-39), 3) := by decide +kernel
theorem d_Md_dead_71 : decode prog_13_method_78_code 71 = .ok (.aload_n 0, 1) := by decide +kernel
theorem d_Md_dead_72 : decode prog_13_method_78_code 72 = .ok (.getfield 52, 3) := by decide +kernel
theorem d_Md_dead_75 : decode prog_13_method_78_code 75 = .ok (.iload 4, 2) := by decide +kernel
theorem d_Md_dead_77 : decode prog_13_method_78_code 77 = .ok (.iaload, 1) := by decide +kernel
theorem d_Md_dead_78 : decode prog_13_method_78_code 78 = .ok (.iconst (-1), 1) := by decide +kernel
theorem d_Md_dead_79 : decode prog_13_method_78_code 79 = .ok (.if_icmp .eq 6, 3) := by decide +kernel
theorem d_Md_dead_85 : decode prog_13_method_78_code 85 = .ok (.iinc 2 1, 3) := by decide +kernel
theorem d_Md_dead_88 : decode prog_13_method_78_code 88 = .ok (.iload 4, 2) := by decide +kernel
theorem d_Md_dead_90 : decode prog_13_method_78_code 90 = .ok (.istore_n 3, 1) := by decide +kernel
theorem d_Md_dead_82 : decode prog_13_method_78_code 82 = .ok (.goto 9, 3) := by decide +kernel
theorem d_Md_dead_97 : decode prog_13_method_78_code 97 = .ok (.iload_n 1, 1) := by decide +kernel
theorem d_Md_dead_98 : decode prog_13_method_78_code 98 = .ok (.ifCond .ne 7, 3) := by decide +kernel
theorem d_Md_dead_105 : decode prog_13_method_78_code 105 = .ok (.iload_n 3, 1) := by decide +kernel
theorem d_Md_dead_106 : decode prog_13_method_78_code 106 = .ok (.ireturn, 1) := by decide +kernel
theorem d_Md_dead_101 : decode prog_13_method_78_code 101 = .ok (.iload_n 2, 1) := by decide +kernel
theorem d_Md_dead_102 : decode prog_13_method_78_code 102 = .ok (.goto 4, 3) := by decide +kernel
theorem d_Md_dead_37 : decode prog_13_method_78_code 37 = .ok (.iconst 0, 1) := by decide +kernel
theorem d_Md_dead_38 : decode prog_13_method_78_code 38 = .ok (.ireturn, 1) := by decide +kernel
theorem d_Md_dead_22 : decode prog_13_method_78_code 22 = .ok (.iconst 0, 1) := by decide +kernel
theorem d_Md_dead_23 : decode prog_13_method_78_code 23 = .ok (.goto 4, 3) := by decide +kernel
theorem d_Md_dead_8 : decode prog_13_method_78_code 8 = .ok (.iconst 1, 1) := by decide +kernel
theorem d_Md_dead_9 : decode prog_13_method_78_code 9 = .ok (.goto 18, 3) := by decide +kernel
theorem t_Md_dead_J91 {G : mG} {r : mR} {v0 v1 v2 v3 v4 : Int} {h : mH} {R55 : mH → Int → Int → Int → Option mR} (hR55 : ∀ (h : mH) (w2 w3 w4 : Int) , R55 h w2 w3 w4 = some r → mJ G M_Md_dead 55 [(2, v0), (0, v1), (0, w2), (0, w3), (0, w4)] [] h r) (hr : f_Md_dead_J91 R55 v2 v3 v4 h = some r) : mJ G M_Md_dead 91 [(2, v0), (0, v1), (0, v2), (0, v3), (0, v4)] [] h r := by
  unfold f_Md_dead_J91 at hr
  refine j_iincW (pc := 91) (L := fun x1 => [(2, v0), (0, v1), (0, v2), (0, v3), (0, x1)]) d_Md_dead_91 rfl (fun _ => rfl) hr (fun x1 hr => ?_)
  refine j_goto (pc := 94) (tgt := 55) d_Md_dead_94 ?_
  exact mJ_weak (ls' := [(2, v0), (0, v1), (0, v2), (0, v3), (0, x1)]) (mwk_s (mwk_s (mwk_s (mwk_s (mwk_s mwk_n))))) (hR55 h _ _ _ hr)
theorem t_Md_dead_L55 {G : mG} {r : mR} {v0 v1 : Int} {K97 : mH → Int → Int → Option mR} (hK97 : ∀ (h : mH) (w2 w3 : Int) , K97 h w2 w3 = some r → mJ G M_Md_dead 97 [(9, 0), (0, v1), (0, w2), (0, w3), (9, 0)] [] h r) : ∀ (n : Nat) (h : mH) (v2 v3 v4 : Int), f_Md_dead_L55 K97 v0 n h v2 v3 v4 = some r → mJ G M_Md_dead 55 [(2, v0), (0, v1), (0, v2), (0, v3), (0, v4)] [] h r := by
  intro n
  induction n with
  | zero =>
    intro h v2 v3 v4 hr
    rw [f_Md_dead_L55] at hr
    cases hr
  | succ n hR55 =>
    intro h v2 v3 v4 hr
    rw [f_Md_dead_L55] at hr
    refine j_iload (pc := 55) d_Md_dead_55 rfl ?_
    refine j_if_lt (pc := 57) (tgt := 97) d_Md_dead_57 hr (fun hr => ?_) (fun hr => ?_)
    · exact mJ_weak (ls' := [(9, 0), (0, v1), (0, v2), (0, v3), (9, 0)]) (mwk_d (mwk_s (mwk_s (mwk_s (mwk_d mwk_n))))) (hK97 h _ _ hr)
    · refine j_aload_n (pc := 60) d_Md_dead_60 rfl ?_
      refine j_getf (pc := 61) d_Md_dead_61 (fd_Md_39 rfl) hr (fun hr => ?_)
      refine j_iload (pc := 64) d_Md_dead_64 rfl ?_
      refine j_iaload (pc := 66) d_Md_dead_66 hr (fun hr => ?_)
      refine j_iconst (pc := 67) d_Md_dead_67 ?_
      refine j_icmp_eq (pc := 68) (tgt := 91) d_Md_dead_68 hr (fun hr => ?_) (fun hr => ?_)
      · exact mJ_weak (ls' := [(2, v0), (0, v1), (0, v2), (0, v3), (0, v4)]) (mwk_s (mwk_s (mwk_s (mwk_s (mwk_s mwk_n))))) (t_Md_dead_J91 hR55 hr)
      · refine j_aload_n (pc := 71) d_Md_dead_71 rfl ?_
        refine j_getf (pc := 72) d_Md_dead_72 (fd_Md_52 rfl) hr (fun hr => ?_)
        refine j_iload (pc := 75) d_Md_dead_75 rfl ?_
        refine j_iaload (pc := 77) d_Md_dead_77 hr (fun hr => ?_)
        refine j_iconst (pc := 78) d_Md_dead_78 ?_
        refine j_icmp_eq (pc := 79) (tgt := 85) d_Md_dead_79 hr (fun hr => ?_) (fun hr => ?_)
        · refine j_iincW (pc := 85) (L := fun x1 => [(2, v0), (0, v1), (0, x1), (0, v3), (0, v4)]) d_Md_dead_85 rfl (fun _ => rfl) hr (fun x1 hr => ?_)
          refine j_iload (pc := 88) d_Md_dead_88 rfl ?_
          refine j_istore_n (pc := 90) (ls' := [(2, v0), (0, v1), (0, x1), (0, v4), (0, v4)]) d_Md_dead_90 rfl ?_
          exact mJ_weak (ls' := [(2, v0), (0, v1), (0, x1), (0, v4), (0, v4)]) (mwk_s (mwk_s (mwk_s (mwk_s (mwk_s mwk_n))))) (t_Md_dead_J91 hR55 hr)
        · refine j_goto (pc := 82) (tgt := 91) d_Md_dead_82 ?_
          exact mJ_weak (ls' := [(2, v0), (0, v1), (0, v2), (0, v3), (0, v4)]) (mwk_s (mwk_s (mwk_s (mwk_s (mwk_s mwk_n))))) (t_Md_dead_J91 hR55 hr)
theorem t_Md_dead_J27 {G : mG} {r : mR} {v0 v1 s0 s1 : Int} {h : mH}  (hr : f_Md_dead_J27 v0 v1 s0 s1 h = some r) : mJ G M_Md_dead 27 [(2, v0), (0, v1), (9, 0), (9, 0), (9, 0)] [(0, s1), (2, s0)] h r := by
  unfold f_Md_dead_J27 at hr
  refine j_puti (pc := 27) d_Md_dead_27 (fd_Md_86 rfl) (⟨_, _, _, rfl, Or.inl rfl, rfl⟩ : mFldW M_Md_dead 86 11 5 .int) hr (fun h1 hr => ?_)
  refine j_aload_n (pc := 30) d_Md_dead_30 rfl ?_
  refine j_getf (pc := 31) d_Md_dead_31 (fd_Md_86 rfl) hr (fun hr => ?_)
  refine j_if_le (pc := 34) (tgt := 39) d_Md_dead_34 hr (fun hr => ?_) (fun hr => ?_)
  · refine j_aload_n (pc := 39) d_Md_dead_39 rfl ?_
    obtain ⟨ha, hr⟩ := chk_some hr
    refine j_callG (pc := 40) (stk := [(2, v0)]) (as := [(2, v0)]) (P := (fun v9 => [])) (tg := 3) (My := M_Md_laysBoth) (mRunV (as := []) (st := []) d_Md_dead_40 (mc_Md_laysBoth (by decide)) rfl (mv_Md_laysBoth tb_ml_Md_346) rfl (Nat.le_of_ble_eq_true rfl) ha) (fun v => rfl) rfl hr (fun r1 h1 => t_Md_laysBoth _ _ _ h1) (fun x3 h2 hr => ?_)
    refine j_iconst (pc := 43) d_Md_dead_43 ?_
    refine j_istore_n (pc := 44) (ls' := [(2, v0), (0, v1), (0, 0), (9, 0), (9, 0)]) d_Md_dead_44 rfl ?_
    refine j_iconst (pc := 45) d_Md_dead_45 ?_
    refine j_istore_n (pc := 46) (ls' := [(2, v0), (0, v1), (0, 0), (0, (-1)), (9, 0)]) d_Md_dead_46 rfl ?_
    refine j_aload_n (pc := 47) d_Md_dead_47 rfl ?_
    obtain ⟨ha, hr⟩ := chk_some hr
    refine j_callG (pc := 48) (stk := [(2, v0)]) (as := [(2, v0)]) (P := (fun v9 => ((0 : Nat), v9) :: [])) (tg := 0) (My := M_Md_stands) (mRunV (as := []) (st := []) d_Md_dead_48 (mc_Md_stands (by decide)) rfl (mv_Md_stands tb_ml_Md_219) rfl (Nat.le_of_ble_eq_true rfl) ha) (fun v => rfl) rfl hr (fun r1 h1 => t_Md_stands _ _ _ h1) (fun x5 h4 hr => ?_)
    refine j_iconst (pc := 51) d_Md_dead_51 ?_
    refine j_isub (pc := 52) d_Md_dead_52 ?_
    refine j_istoreW (pc := 53) (L := fun x6 => [(2, v0), (0, v1), (0, 0), (0, (-1)), (0, x6)]) d_Md_dead_53 (fun _ => rfl) hr (fun x6 hr => ?_)
    refine mJ_weak (ls' := [(2, v0), (0, v1), (0, 0), (0, (-1)), (0, x6)]) (mwk_s (mwk_s (mwk_s (mwk_s (mwk_s mwk_n))))) (t_Md_dead_L55 (fun h7 x8 x9 hr => ?_) _ _ _ _ _ hr)
    · refine j_iload_n (pc := 97) d_Md_dead_97 rfl ?_
      refine j_if_ne (pc := 98) (tgt := 105) d_Md_dead_98 hr (fun hr => ?_) (fun hr => ?_)
      · refine j_iload_n (pc := 105) d_Md_dead_105 rfl ?_
        exact j_iret (pc := 106) d_Md_dead_106 rfl hr
      · refine j_iload_n (pc := 101) d_Md_dead_101 rfl ?_
        refine j_goto (pc := 102) (tgt := 106) d_Md_dead_102 ?_
        exact j_iret (pc := 106) d_Md_dead_106 rfl hr
  · refine j_iconst (pc := 37) d_Md_dead_37 ?_
    exact j_iret (pc := 38) d_Md_dead_38 rfl hr
theorem t_Md_dead {G : mG} (h : mH) (v0 v1 : Int) (r : mR) (hr : f_Md_dead h v0 v1 = some r) : mJM G M_Md_dead [(2, v0), (0, v1)] h r := by
  refine mJM_of (L := [(2, v0), (0, v1), (9, 0), (9, 0), (9, 0)]) rfl rfl rfl (Nat.le_of_ble_eq_true rfl) ?_
  unfold f_Md_dead at hr
  refine j_aload_n (pc := 0) d_Md_dead_0 rfl ?_
  refine j_aload_n (pc := 1) d_Md_dead_1 rfl ?_
  obtain ⟨ha, hr⟩ := chk_some hr
  refine j_callG (pc := 2) (stk := [(2, v0), (2, v0)]) (as := [(2, v0)]) (P := (fun v9 => ((0 : Nat), v9) :: [(2, v0)])) (tg := 0) (My := M_Md_isSpent) (mRunV (as := []) (st := [(2, v0)]) d_Md_dead_2 (mc_Md_isSpent (by decide)) rfl (mv_Md_isSpent tb_ml_Md_261) rfl (Nat.le_of_ble_eq_true rfl) ha) (fun v => rfl) rfl hr (fun r1 h1 => t_Md_isSpent _ _ _ h1) (fun x2 h1 hr => ?_)
  refine j_if_eq (pc := 5) (tgt := 12) d_Md_dead_5 hr (fun hr => ?_) (fun hr => ?_)
  · refine j_iload_n (pc := 12) d_Md_dead_12 rfl ?_
    refine j_i2l (pc := 13) d_Md_dead_13 ?_
    refine j_lconst (pc := 14) (z := 0) d_Md_dead_14 ?_
    refine j_lconst (pc := 15) (z := 1) d_Md_dead_15 ?_
    refine j_callG (pc := 16) (stk := [(1, 1), (1, 0), (1, v1), (2, v0)]) (as := [(1, v1), (1, 0), (1, 1)]) (P := (fun v9 => ((0 : Nat), v9) :: [(2, v0)])) (tg := 0) (My := M_Md_amid) (mRunS (as := [(1, v1), (1, 0), (1, 1)]) (st := [(2, v0)]) d_Md_dead_16 (mc_Md_amid (by decide)) rfl ⟨tb_ml_Md_147, tb_sm_Md_amid⟩ rfl (Nat.le_of_ble_eq_true rfl)) (fun v => rfl) rfl hr (fun r1 h1 => t_Md_amid _ _ _ _ _ h1) (fun x4 h3 hr => ?_)
    refine j_if_eq (pc := 19) (tgt := 26) d_Md_dead_19 hr (fun hr => ?_) (fun hr => ?_)
    · refine j_iconst (pc := 26) d_Md_dead_26 ?_
      exact mJ_weak (ls' := [(2, v0), (0, v1), (9, 0), (9, 0), (9, 0)]) (mwk_s (mwk_s (mwk_s (mwk_s (mwk_s mwk_n))))) (t_Md_dead_J27  hr)
    · refine j_iconst (pc := 22) d_Md_dead_22 ?_
      refine j_goto (pc := 23) (tgt := 27) d_Md_dead_23 ?_
      exact mJ_weak (ls' := [(2, v0), (0, v1), (9, 0), (9, 0), (9, 0)]) (mwk_s (mwk_s (mwk_s (mwk_s (mwk_s mwk_n))))) (t_Md_dead_J27  hr)
  · refine j_iconst (pc := 8) d_Md_dead_8 ?_
    refine j_goto (pc := 9) (tgt := 27) d_Md_dead_9 ?_
    exact mJ_weak (ls' := [(2, v0), (0, v1), (9, 0), (9, 0), (9, 0)]) (mwk_s (mwk_s (mwk_s (mwk_s (mwk_s mwk_n))))) (t_Md_dead_J27  hr)
def M_Md_oneWays : mM := ("NineBarsModel", ⟨"NineBarsModel", "oneWays", "()I"⟩, prog_13_method_79_code, 6, some .int, [], 11)
theorem tb_co_Md_oneWays : mTB (Cond.code ⟨"NineBarsModel", "oneWays", "()I"⟩ prog_13_method_79_code 6 (some .int)) := tbq8 177 (by decide +kernel) rfl
theorem mc_Md_oneWays {M : mM} (hd : 11 < mDp M) : mCal M M_Md_oneWays 0 := ⟨tb_co_Md_oneWays, tb_in_NineBarsModel, ⟨by decide +kernel, by decide +kernel⟩, by decide +kernel, hd, by decide⟩
theorem d_Md_oneWays_0 : decode prog_13_method_79_code 0 = .ok (.aload_n 0, 1) := by decide +kernel
theorem d_Md_oneWays_1 : decode prog_13_method_79_code 1 = .ok (.aload_n 0, 1) := by decide +kernel
theorem d_Md_oneWays_2 : decode prog_13_method_79_code 2 = .ok (.invokevirtual 261, 3) := by decide +kernel
theorem d_Md_oneWays_5 : decode prog_13_method_79_code 5 = .ok (.ifCond .eq 7, 3) := by decide +kernel
theorem d_Md_oneWays_12 : decode prog_13_method_79_code 12 = .ok (.iconst 0, 1) := by decide +kernel
theorem d_Md_oneWays_13 : decode prog_13_method_79_code 13 = .ok (.putfield 86, 3) := by decide +kernel
theorem d_Md_oneWays_16 : decode prog_13_method_79_code 16 = .ok (.aload_n 0, 1) := by decide +kernel
theorem d_Md_oneWays_17 : decode prog_13_method_79_code 17 = .ok (.getfield 86, 3) := by decide +kernel
theorem d_Md_oneWays_20 : decode prog_13_method_79_code 20 = .ok (.ifCond .le 5, 3) := by decide +kernel
theorem d_Md_oneWays_25 : decode prog_13_method_79_code 25 = .ok (.aload_n 0, 1) := by decide +kernel
theorem d_Md_oneWays_26 : decode prog_13_method_79_code 26 = .ok (.invokevirtual 244, 3) := by decide +kernel
theorem d_Md_oneWays_29 : decode prog_13_method_79_code 29 = .ok (.istore_n 1, 1) := by decide +kernel
theorem d_Md_oneWays_30 : decode prog_13_method_79_code 30 = .ok (.aload_n 0, 1) := by decide +kernel
theorem d_Md_oneWays_31 : decode prog_13_method_79_code 31 = .ok (.aload_n 0, 1) := by decide +kernel
theorem d_Md_oneWays_32 : decode prog_13_method_79_code 32 = .ok (.invokevirtual 265, 3) := by decide +kernel
theorem d_Md_oneWays_35 : decode prog_13_method_79_code 35 = .ok (.iload_n 1, 1) := by decide +kernel
theorem d_Md_oneWays_36 : decode prog_13_method_79_code 36 = .ok (.invokevirtual 329, 3) := by decide +kernel
theorem d_Md_oneWays_39 : decode prog_13_method_79_code 39 = .ok (.iconst 0, 1) := by decide +kernel
theorem d_Md_oneWays_40 : decode prog_13_method_79_code 40 = .ok (.istore_n 2, 1) := by decide +kernel
theorem d_Md_oneWays_41 : decode prog_13_method_79_code 41 = .ok (.iconst 0, 1) := by decide +kernel
theorem d_Md_oneWays_42 : decode prog_13_method_79_code 42 = .ok (.istore_n 3, 1) := by decide +kernel
theorem d_Md_oneWays_43 : decode prog_13_method_79_code 43 = .ok (.iload_n 3, 1) := by decide +kernel
theorem d_Md_oneWays_44 : decode prog_13_method_79_code 44 = .ok (.aload_n 0, 1) := by decide +kernel
theorem d_Md_oneWays_45 : decode prog_13_method_79_code 45 = .ok (.getfield 313, 3) := by decide +kernel
theorem d_Md_oneWays_48 : decode prog_13_method_79_code 48 = .ok (.if_icmp .ge 66, 3) := by decide +kernel
theorem d_Md_oneWays_114 : decode prog_13_method_79_code 114 = .ok (.iload_n 2, 1) := by decide +kernel
theorem d_Md_oneWays_115 : decode prog_13_method_79_code 115 = .ok (.ireturn, 1) := by decide +kernel
theorem d_Md_oneWays_51 : decode prog_13_method_79_code 51 = .ok (.iconst 0, 1) := by decide +kernel
theorem d_Md_oneWays_52 : decode prog_13_method_79_code 52 = .ok (.istore 4, 2) := by decide +kernel
theorem d_Md_oneWays_54 : decode prog_13_method_79_code 54 = .ok (.iload 4, 2) := by decide +kernel
theorem d_Md_oneWays_56 : decode prog_13_method_79_code 56 = .ok (.aload_n 0, 1) := by decide +kernel
theorem d_Md_oneWays_57 : decode prog_13_method_79_code 57 = .ok (.invokevirtual 319, 3) := by decide +kernel
theorem d_Md_oneWays_60 : decode prog_13_method_79_code 60 = .ok (.if_icmp .ge 48, 3) := by decide +kernel
theorem d_Md_oneWays_63 : decode prog_13_method_79_code 63 = .ok (.aload_n 0, 1) := by decide +kernel
theorem d_Md_oneWays_64 : decode prog_13_method_79_code 64 = .ok (.aload_n 0, 1) := by decide +kernel
theorem d_Md_oneWays_65 : decode prog_13_method_79_code 65 = .ok (.getfield 42, 3) := by decide +kernel
theorem d_Md_oneWays_68 : decode prog_13_method_79_code 68 = .ok (.iload_n 3, 1) := by decide +kernel
theorem d_Md_oneWays_69 : decode prog_13_method_79_code 69 = .ok (.iaload, 1) := by decide +kernel
theorem d_Md_oneWays_70 : decode prog_13_method_79_code 70 = .ok (.iload 4, 2) := by decide +kernel
theorem d_Md_oneWays_72 : decode prog_13_method_79_code 72 = .ok (.iload_n 1, 1) := by decide +kernel
theorem d_Md_oneWays_73 : decode prog_13_method_79_code 73 = .ok (.invokevirtual 322, 3) := by decide +kernel
theorem d_Md_oneWays_76 : decode prog_13_method_79_code 76 = .ok (.istore 5, 2) := by decide +kernel
theorem d_Md_oneWays_78 : decode prog_13_method_79_code 78 = .ok (.iload 5, 2) := by decide +kernel
theorem d_Md_oneWays_80 : decode prog_13_method_79_code 80 = .ok (.iconst (-1), 1) := by decide +kernel
theorem d_Md_oneWays_81 : decode prog_13_method_79_code 81 = .ok (.if_icmp .eq 21, 3) := by decide +kernel
theorem d_Md_oneWays_102 : decode prog_13_method_79_code 102 = .ok (.iinc 4 1, 3) := by decide +kernel
theorem d_Md_oneWays_105 : decode prog_13_method_79_code 105 = .ok (.goto (-51), 3) := by decide +kernel
theorem d_Md_oneWays_84 : decode prog_13_method_79_code 84 = .ok (.aload_n 0, 1) := by decide +kernel
theorem d_Md_oneWays_85 : decode prog_13_method_79_code 85 = .ok (.iload 5, 2) := by decide +kernel
theorem d_Md_oneWays_87 : decode prog_13_method_79_code 87 = .ok (.iload 4, 2) := by decide +kernel
theorem d_Md_oneWays_89 : decode prog_13_method_79_code 89 = .ok (.iconst 1, 1) := by decide +kernel
theorem d_Md_oneWays_90 : decode prog_13_method_79_code 90 = .ok (.ixor, 1) := by decide +kernel
theorem d_Md_oneWays_91 : decode prog_13_method_79_code 91 = .ok (.iload_n 1, 1) := by decide +kernel
theorem d_Md_oneWays_92 : decode prog_13_method_79_code 92 = .ok (.invokevirtual 322, 3) := by decide +kernel
theorem d_Md_oneWays_95 : decode prog_13_method_79_code 95 = .ok (.iconst (-1), 1) := by decide +kernel
theorem d_Md_oneWays_96 : decode prog_13_method_79_code 96 = .ok (.if_icmp .ne 6, 3) := by decide +kernel
theorem d_Md_oneWays_99 : decode prog_13_method_79_code 99 = .ok (.iinc 2 1, 3) := by decide +kernel
theorem d_Md_oneWays_108 : decode prog_13_method_79_code 108 = .ok (.iinc 3 1, 3) := by decide +kernel
theorem d_Md_oneWays_111 : decode prog_13_method_79_code 111 = .ok (.goto (-68), 3) := by decide +kernel
theorem d_Md_oneWays_23 : decode prog_13_method_79_code 23 = .ok (.iconst 0, 1) := by decide +kernel
theorem d_Md_oneWays_24 : decode prog_13_method_79_code 24 = .ok (.ireturn, 1) := by decide +kernel
theorem d_Md_oneWays_8 : decode prog_13_method_79_code 8 = .ok (.iconst 1, 1) := by decide +kernel
theorem d_Md_oneWays_9 : decode prog_13_method_79_code 9 = .ok (.goto 4, 3) := by decide +kernel
theorem t_Md_oneWays_J102 {G : mG} {r : mR} {v0 v1 v2 v3 v4 : Int} {h : mH} {R54 : mH → Int → Int → Option mR} (hR54 : ∀ (h : mH) (w2 w4 : Int) , R54 h w2 w4 = some r → mJ G M_Md_oneWays 54 [(2, v0), (0, v1), (0, w2), (0, v3), (0, w4), (9, 0)] [] h r) (hr : f_Md_oneWays_J102 R54 v2 v4 h = some r) : mJ G M_Md_oneWays 102 [(2, v0), (0, v1), (0, v2), (0, v3), (0, v4), (9, 0)] [] h r := by
  unfold f_Md_oneWays_J102 at hr
  refine j_iincW (pc := 102) (L := fun x1 => [(2, v0), (0, v1), (0, v2), (0, v3), (0, x1), (9, 0)]) d_Md_oneWays_102 rfl (fun _ => rfl) hr (fun x1 hr => ?_)
  refine j_goto (pc := 105) (tgt := 54) d_Md_oneWays_105 ?_
  exact mJ_weak (ls' := [(2, v0), (0, v1), (0, v2), (0, v3), (0, x1), (9, 0)]) (mwk_s (mwk_s (mwk_s (mwk_s (mwk_s (mwk_s mwk_n)))))) (hR54 h _ _ hr)
theorem t_Md_oneWays_L54 {G : mG} {r : mR} {v0 v1 v3 : Int} {K108 : mH → Int → Option mR} (hK108 : ∀ (h : mH) (w2 : Int) , K108 h w2 = some r → mJ G M_Md_oneWays 108 [(2, v0), (0, v1), (0, w2), (0, v3), (9, 0), (9, 0)] [] h r) : ∀ (n : Nat) (h : mH) (v2 v4 : Int), f_Md_oneWays_L54 K108 v0 v1 v3 n h v2 v4 = some r → mJ G M_Md_oneWays 54 [(2, v0), (0, v1), (0, v2), (0, v3), (0, v4), (9, 0)] [] h r := by
  intro n
  induction n with
  | zero =>
    intro h v2 v4 hr
    rw [f_Md_oneWays_L54] at hr
    cases hr
  | succ n hR54 =>
    intro h v2 v4 hr
    rw [f_Md_oneWays_L54] at hr
    refine j_iload (pc := 54) d_Md_oneWays_54 rfl ?_
    refine j_aload_n (pc := 56) d_Md_oneWays_56 rfl ?_
    obtain ⟨ha, hr⟩ := chk_some hr
    refine j_callG (pc := 57) (stk := [(2, v0), (0, v4)]) (as := [(2, v0)]) (P := (fun v9 => ((0 : Nat), v9) :: [(0, v4)])) (tg := 0) (My := M_Md_steps) (mRunV (as := []) (st := [(0, v4)]) d_Md_oneWays_57 (mc_Md_steps (by decide)) rfl (mv_Md_steps tb_ml_Md_319) rfl (Nat.le_of_ble_eq_true rfl) ha) (fun v => rfl) rfl hr (fun r1 h1 => t_Md_steps _ _ _ h1) (fun x2 h1 hr => ?_)
    refine j_icmp_ge (pc := 60) (tgt := 108) d_Md_oneWays_60 hr (fun hr => ?_) (fun hr => ?_)
    · exact mJ_weak (ls' := [(2, v0), (0, v1), (0, v2), (0, v3), (9, 0), (9, 0)]) (mwk_s (mwk_s (mwk_s (mwk_s (mwk_d (mwk_s mwk_n)))))) (hK108 h1 _ hr)
    · refine j_aload_n (pc := 63) d_Md_oneWays_63 rfl ?_
      refine j_aload_n (pc := 64) d_Md_oneWays_64 rfl ?_
      refine j_getf (pc := 65) d_Md_oneWays_65 (fd_Md_42 rfl) hr (fun hr => ?_)
      refine j_iload_n (pc := 68) d_Md_oneWays_68 rfl ?_
      refine j_iaload (pc := 69) d_Md_oneWays_69 hr (fun hr => ?_)
      refine j_iload (pc := 70) d_Md_oneWays_70 rfl ?_
      refine j_iload_n (pc := 72) d_Md_oneWays_72 rfl ?_
      obtain ⟨ha, hr⟩ := chk_some hr
      refine j_callG (pc := 73) (stk := [(0, v1), (0, v4), (0, hpV h1 (hpV h1 v0 23) v3), (2, v0)]) (as := [(2, v0), (0, hpV h1 (hpV h1 v0 23) v3), (0, v4), (0, v1)]) (P := (fun v9 => ((0 : Nat), v9) :: [])) (tg := 0) (My := M_Md_then) (mRunV (as := [(0, hpV h1 (hpV h1 v0 23) v3), (0, v4), (0, v1)]) (st := []) d_Md_oneWays_73 (mc_Md_then (by decide)) rfl (mv_Md_then tb_ml_Md_322) rfl (Nat.le_of_ble_eq_true rfl) ha) (fun v => rfl) rfl hr (fun r1 h1 => t_Md_then _ _ _ _ _ _ h1) (fun x4 h3 hr => ?_)
      refine j_istore (pc := 76) (ls' := [(2, v0), (0, v1), (0, v2), (0, v3), (0, v4), (0, x4)]) d_Md_oneWays_76 rfl ?_
      refine j_iload (pc := 78) d_Md_oneWays_78 rfl ?_
      refine j_iconst (pc := 80) d_Md_oneWays_80 ?_
      refine j_icmp_eq (pc := 81) (tgt := 102) d_Md_oneWays_81 hr (fun hr => ?_) (fun hr => ?_)
      · exact mJ_weak (ls' := [(2, v0), (0, v1), (0, v2), (0, v3), (0, v4), (9, 0)]) (mwk_s (mwk_s (mwk_s (mwk_s (mwk_s (mwk_d mwk_n)))))) (t_Md_oneWays_J102 hR54 hr)
      · refine j_aload_n (pc := 84) d_Md_oneWays_84 rfl ?_
        refine j_iload (pc := 85) d_Md_oneWays_85 rfl ?_
        refine j_iload (pc := 87) d_Md_oneWays_87 rfl ?_
        refine j_iconst (pc := 89) d_Md_oneWays_89 ?_
        refine j_ixor (pc := 90) d_Md_oneWays_90 ?_
        refine j_iload_n (pc := 91) d_Md_oneWays_91 rfl ?_
        obtain ⟨ha, hr⟩ := chk_some hr
        refine j_callG (pc := 92) (stk := [(0, v1), (0, qxor v4 1), (0, x4), (2, v0)]) (as := [(2, v0), (0, x4), (0, qxor v4 1), (0, v1)]) (P := (fun v9 => ((0 : Nat), v9) :: [])) (tg := 0) (My := M_Md_then) (mRunV (as := [(0, x4), (0, qxor v4 1), (0, v1)]) (st := []) d_Md_oneWays_92 (mc_Md_then (by decide)) rfl (mv_Md_then tb_ml_Md_322) rfl (Nat.le_of_ble_eq_true rfl) ha) (fun v => rfl) rfl hr (fun r1 h1 => t_Md_then _ _ _ _ _ _ h1) (fun x6 h5 hr => ?_)
        refine j_iconst (pc := 95) d_Md_oneWays_95 ?_
        refine j_icmp_ne (pc := 96) (tgt := 102) d_Md_oneWays_96 hr (fun hr => ?_) (fun hr => ?_)
        · exact mJ_weak (ls' := [(2, v0), (0, v1), (0, v2), (0, v3), (0, v4), (9, 0)]) (mwk_s (mwk_s (mwk_s (mwk_s (mwk_s (mwk_d mwk_n)))))) (t_Md_oneWays_J102 hR54 hr)
        · refine j_iincW (pc := 99) (L := fun x7 => [(2, v0), (0, v1), (0, x7), (0, v3), (0, v4), (0, x4)]) d_Md_oneWays_99 rfl (fun _ => rfl) hr (fun x7 hr => ?_)
          exact mJ_weak (ls' := [(2, v0), (0, v1), (0, x7), (0, v3), (0, v4), (9, 0)]) (mwk_s (mwk_s (mwk_s (mwk_s (mwk_s (mwk_d mwk_n)))))) (t_Md_oneWays_J102 hR54 hr)
theorem t_Md_oneWays_L43 {G : mG} {r : mR} {v0 v1 : Int}  : ∀ (n : Nat) (h : mH) (v2 v3 : Int), f_Md_oneWays_L43 v0 v1 n h v2 v3 = some r → mJ G M_Md_oneWays 43 [(2, v0), (0, v1), (0, v2), (0, v3), (9, 0), (9, 0)] [] h r := by
  intro n
  induction n with
  | zero =>
    intro h v2 v3 hr
    rw [f_Md_oneWays_L43] at hr
    cases hr
  | succ n hR43 =>
    intro h v2 v3 hr
    rw [f_Md_oneWays_L43] at hr
    refine j_iload_n (pc := 43) d_Md_oneWays_43 rfl ?_
    refine j_aload_n (pc := 44) d_Md_oneWays_44 rfl ?_
    refine j_getf (pc := 45) d_Md_oneWays_45 (fd_Md_313 rfl) hr (fun hr => ?_)
    refine j_icmp_ge (pc := 48) (tgt := 114) d_Md_oneWays_48 hr (fun hr => ?_) (fun hr => ?_)
    · refine j_iload_n (pc := 114) d_Md_oneWays_114 rfl ?_
      exact j_iret (pc := 115) d_Md_oneWays_115 rfl hr
    · refine j_iconst (pc := 51) d_Md_oneWays_51 ?_
      refine j_istore (pc := 52) (ls' := [(2, v0), (0, v1), (0, v2), (0, v3), (0, 0), (9, 0)]) d_Md_oneWays_52 rfl ?_
      refine mJ_weak (ls' := [(2, v0), (0, v1), (0, v2), (0, v3), (0, 0), (9, 0)]) (mwk_s (mwk_s (mwk_s (mwk_s (mwk_s (mwk_s mwk_n)))))) (t_Md_oneWays_L54 (fun h1 x2 hr => ?_) _ _ _ _ hr)
      · refine j_iincW (pc := 108) (L := fun x3 => [(2, v0), (0, v1), (0, x2), (0, x3), (9, 0), (9, 0)]) d_Md_oneWays_108 rfl (fun _ => rfl) hr (fun x3 hr => ?_)
        refine j_goto (pc := 111) (tgt := 43) d_Md_oneWays_111 ?_
        exact mJ_weak (ls' := [(2, v0), (0, v1), (0, x2), (0, x3), (9, 0), (9, 0)]) (mwk_s (mwk_s (mwk_s (mwk_s (mwk_s (mwk_s mwk_n)))))) (hR43 h1 _ _ hr)
theorem t_Md_oneWays_J13 {G : mG} {r : mR} {v0 s0 s1 : Int} {h : mH}  (hr : f_Md_oneWays_J13 v0 s0 s1 h = some r) : mJ G M_Md_oneWays 13 [(2, v0), (9, 0), (9, 0), (9, 0), (9, 0), (9, 0)] [(0, s1), (2, s0)] h r := by
  unfold f_Md_oneWays_J13 at hr
  refine j_puti (pc := 13) d_Md_oneWays_13 (fd_Md_86 rfl) (⟨_, _, _, rfl, Or.inl rfl, rfl⟩ : mFldW M_Md_oneWays 86 11 5 .int) hr (fun h1 hr => ?_)
  refine j_aload_n (pc := 16) d_Md_oneWays_16 rfl ?_
  refine j_getf (pc := 17) d_Md_oneWays_17 (fd_Md_86 rfl) hr (fun hr => ?_)
  refine j_if_le (pc := 20) (tgt := 25) d_Md_oneWays_20 hr (fun hr => ?_) (fun hr => ?_)
  · refine j_aload_n (pc := 25) d_Md_oneWays_25 rfl ?_
    obtain ⟨ha, hr⟩ := chk_some hr
    refine j_callG (pc := 26) (stk := [(2, v0)]) (as := [(2, v0)]) (P := (fun v9 => ((0 : Nat), v9) :: [])) (tg := 0) (My := M_Md_worn) (mRunV (as := []) (st := []) d_Md_oneWays_26 (mc_Md_worn (by decide)) rfl (mv_Md_worn tb_ml_Md_244) rfl (Nat.le_of_ble_eq_true rfl) ha) (fun v => rfl) rfl hr (fun r1 h1 => t_Md_worn _ _ _ h1) (fun x3 h2 hr => ?_)
    refine j_istore_n (pc := 29) (ls' := [(2, v0), (0, x3), (9, 0), (9, 0), (9, 0), (9, 0)]) d_Md_oneWays_29 rfl ?_
    refine j_aload_n (pc := 30) d_Md_oneWays_30 rfl ?_
    refine j_aload_n (pc := 31) d_Md_oneWays_31 rfl ?_
    obtain ⟨ha, hr⟩ := chk_some hr
    refine j_callG (pc := 32) (stk := [(2, v0), (2, v0)]) (as := [(2, v0)]) (P := (fun v9 => ((0 : Nat), v9) :: [(2, v0)])) (tg := 0) (My := M_Md_standNow) (mRunV (as := []) (st := [(2, v0)]) d_Md_oneWays_32 (mc_Md_standNow (by decide)) rfl (mv_Md_standNow tb_ml_Md_265) rfl (Nat.le_of_ble_eq_true rfl) ha) (fun v => rfl) rfl hr (fun r1 h1 => t_Md_standNow _ _ _ h1) (fun x5 h4 hr => ?_)
    refine j_iload_n (pc := 35) d_Md_oneWays_35 rfl ?_
    obtain ⟨ha, hr⟩ := chk_some hr
    refine j_callG (pc := 36) (stk := [(0, x3), (0, x5), (2, v0)]) (as := [(2, v0), (0, x5), (0, x3)]) (P := (fun v9 => [])) (tg := 3) (My := M_Md_laysFrom) (mRunV (as := [(0, x5), (0, x3)]) (st := []) d_Md_oneWays_36 (mc_Md_laysFrom (by decide)) rfl (mv_Md_laysFrom tb_ml_Md_329) rfl (Nat.le_of_ble_eq_true rfl) ha) (fun v => rfl) rfl hr (fun r1 h1 => t_Md_laysFrom _ _ _ _ _ h1) (fun x7 h6 hr => ?_)
    refine j_iconst (pc := 39) d_Md_oneWays_39 ?_
    refine j_istore_n (pc := 40) (ls' := [(2, v0), (0, x3), (0, 0), (9, 0), (9, 0), (9, 0)]) d_Md_oneWays_40 rfl ?_
    refine j_iconst (pc := 41) d_Md_oneWays_41 ?_
    refine j_istore_n (pc := 42) (ls' := [(2, v0), (0, x3), (0, 0), (0, 0), (9, 0), (9, 0)]) d_Md_oneWays_42 rfl ?_
    refine mJ_weak (ls' := [(2, v0), (0, x3), (0, 0), (0, 0), (9, 0), (9, 0)]) (mwk_s (mwk_s (mwk_s (mwk_s (mwk_s (mwk_s mwk_n)))))) (t_Md_oneWays_L43  _ _ _ _ hr)
  · refine j_iconst (pc := 23) d_Md_oneWays_23 ?_
    exact j_iret (pc := 24) d_Md_oneWays_24 rfl hr
theorem t_Md_oneWays {G : mG} (h : mH) (v0 : Int) (r : mR) (hr : f_Md_oneWays h v0 = some r) : mJM G M_Md_oneWays [(2, v0)] h r := by
  refine mJM_of (L := [(2, v0), (9, 0), (9, 0), (9, 0), (9, 0), (9, 0)]) rfl rfl rfl (Nat.le_of_ble_eq_true rfl) ?_
  unfold f_Md_oneWays at hr
  refine j_aload_n (pc := 0) d_Md_oneWays_0 rfl ?_
  refine j_aload_n (pc := 1) d_Md_oneWays_1 rfl ?_
  obtain ⟨ha, hr⟩ := chk_some hr
  refine j_callG (pc := 2) (stk := [(2, v0), (2, v0)]) (as := [(2, v0)]) (P := (fun v9 => ((0 : Nat), v9) :: [(2, v0)])) (tg := 0) (My := M_Md_isSpent) (mRunV (as := []) (st := [(2, v0)]) d_Md_oneWays_2 (mc_Md_isSpent (by decide)) rfl (mv_Md_isSpent tb_ml_Md_261) rfl (Nat.le_of_ble_eq_true rfl) ha) (fun v => rfl) rfl hr (fun r1 h1 => t_Md_isSpent _ _ _ h1) (fun x2 h1 hr => ?_)
  refine j_if_eq (pc := 5) (tgt := 12) d_Md_oneWays_5 hr (fun hr => ?_) (fun hr => ?_)
  · refine j_iconst (pc := 12) d_Md_oneWays_12 ?_
    exact mJ_weak (ls' := [(2, v0), (9, 0), (9, 0), (9, 0), (9, 0), (9, 0)]) (mwk_s (mwk_s (mwk_s (mwk_s (mwk_s (mwk_s mwk_n)))))) (t_Md_oneWays_J13  hr)
  · refine j_iconst (pc := 8) d_Md_oneWays_8 ?_
    refine j_goto (pc := 9) (tgt := 13) d_Md_oneWays_9 ?_
    exact mJ_weak (ls' := [(2, v0), (9, 0), (9, 0), (9, 0), (9, 0), (9, 0)]) (mwk_s (mwk_s (mwk_s (mwk_s (mwk_s (mwk_s mwk_n)))))) (t_Md_oneWays_J13  hr)
def M_Md_spreads : mM := ("NineBarsModel", ⟨"NineBarsModel", "spreads", "(IIII)Z"⟩, prog_13_method_81_code, 9, some .boolean, [], 9)
theorem tb_co_Md_spreads : mTB (Cond.code ⟨"NineBarsModel", "spreads", "(IIII)Z"⟩ prog_13_method_81_code 9 (some .boolean)) := tbq8 185 (by decide +kernel) rfl
theorem mc_Md_spreads {M : mM} (hd : 9 < mDp M) : mCal M M_Md_spreads 4 := ⟨tb_co_Md_spreads, tb_in_NineBarsModel, ⟨by decide +kernel, by decide +kernel⟩, by decide +kernel, hd, by decide⟩
theorem d_Md_spreads_0 : decode prog_13_method_81_code 0 = .ok (.iconst 0, 1) := by decide +kernel
theorem d_Md_spreads_1 : decode prog_13_method_81_code 1 = .ok (.istore 5, 2) := by decide +kernel
theorem d_Md_spreads_3 : decode prog_13_method_81_code 3 = .ok (.iconst 0, 1) := by decide +kernel
theorem d_Md_spreads_4 : decode prog_13_method_81_code 4 = .ok (.istore 6, 2) := by decide +kernel
theorem d_Md_spreads_6 : decode prog_13_method_81_code 6 = .ok (.iload 6, 2) := by decide +kernel
theorem d_Md_spreads_8 : decode prog_13_method_81_code 8 = .ok (.aload_n 0, 1) := by decide +kernel
theorem d_Md_spreads_9 : decode prog_13_method_81_code 9 = .ok (.invokevirtual 319, 3) := by decide +kernel
theorem d_Md_spreads_12 : decode prog_13_method_81_code 12 = .ok (.if_icmp .ge 129, 3) := by decide +kernel
theorem d_Md_spreads_141 : decode prog_13_method_81_code 141 = .ok (.iload 5, 2) := by decide +kernel
theorem d_Md_spreads_143 : decode prog_13_method_81_code 143 = .ok (.ireturn, 1) := by decide +kernel
theorem d_Md_spreads_15 : decode prog_13_method_81_code 15 = .ok (.aload_n 0, 1) := by decide +kernel
theorem d_Md_spreads_16 : decode prog_13_method_81_code 16 = .ok (.iload_n 1, 1) := by decide +kernel
theorem d_Md_spreads_17 : decode prog_13_method_81_code 17 = .ok (.iload 6, 2) := by decide +kernel
theorem d_Md_spreads_19 : decode prog_13_method_81_code 19 = .ok (.iload 4, 2) := by decide +kernel
theorem d_Md_spreads_21 : decode prog_13_method_81_code 21 = .ok (.invokevirtual 322, 3) := by decide +kernel
theorem d_Md_spreads_24 : decode prog_13_method_81_code 24 = .ok (.istore 7, 2) := by decide +kernel
theorem d_Md_spreads_26 : decode prog_13_method_81_code 26 = .ok (.iload 7, 2) := by decide +kernel
theorem d_Md_spreads_28 : decode prog_13_method_81_code 28 = .ok (.iconst (-1), 1) := by decide +kernel
theorem d_Md_spreads_29 : decode prog_13_method_81_code 29 = .ok (.if_icmp .ne 6, 3) := by decide +kernel
theorem d_Md_spreads_35 : decode prog_13_method_81_code 35 = .ok (.iload 6, 2) := by decide +kernel
theorem d_Md_spreads_37 : decode prog_13_method_81_code 37 = .ok (.iconst 2, 1) := by decide +kernel
theorem d_Md_spreads_38 : decode prog_13_method_81_code 38 = .ok (.idiv, 1) := by decide +kernel
theorem d_Md_spreads_39 : decode prog_13_method_81_code 39 = .ok (.iload_n 3, 1) := by decide +kernel
theorem d_Md_spreads_40 : decode prog_13_method_81_code 40 = .ok (.if_icmp .ne 9, 3) := by decide +kernel
theorem d_Md_spreads_49 : decode prog_13_method_81_code 49 = .ok (.iload_n 2, 1) := by decide +kernel
theorem d_Md_spreads_50 : decode prog_13_method_81_code 50 = .ok (.istore 8, 2) := by decide +kernel
theorem d_Md_spreads_52 : decode prog_13_method_81_code 52 = .ok (.aload_n 0, 1) := by decide +kernel
theorem d_Md_spreads_53 : decode prog_13_method_81_code 53 = .ok (.getfield 52, 3) := by decide +kernel
theorem d_Md_spreads_56 : decode prog_13_method_81_code 56 = .ok (.iload 7, 2) := by decide +kernel
theorem d_Md_spreads_58 : decode prog_13_method_81_code 58 = .ok (.iaload, 1) := by decide +kernel
theorem d_Md_spreads_59 : decode prog_13_method_81_code 59 = .ok (.iconst (-1), 1) := by decide +kernel
theorem d_Md_spreads_60 : decode prog_13_method_81_code 60 = .ok (.if_icmp .eq 18, 3) := by decide +kernel
theorem d_Md_spreads_78 : decode prog_13_method_81_code 78 = .ok (.aload_n 0, 1) := by decide +kernel
theorem d_Md_spreads_79 : decode prog_13_method_81_code 79 = .ok (.getfield 52, 3) := by decide +kernel
theorem d_Md_spreads_82 : decode prog_13_method_81_code 82 = .ok (.iload 7, 2) := by decide +kernel
theorem d_Md_spreads_84 : decode prog_13_method_81_code 84 = .ok (.iload 8, 2) := by decide +kernel
theorem d_Md_spreads_86 : decode prog_13_method_81_code 86 = .ok (.iastore, 1) := by decide +kernel
theorem d_Md_spreads_87 : decode prog_13_method_81_code 87 = .ok (.iload 5, 2) := by decide +kernel
theorem d_Md_spreads_89 : decode prog_13_method_81_code 89 = .ok (.ifCond .ne 9, 3) := by decide +kernel
theorem d_Md_spreads_98 : decode prog_13_method_81_code 98 = .ok (.iconst 1, 1) := by decide +kernel
theorem d_Md_spreads_99 : decode prog_13_method_81_code 99 = .ok (.goto 4, 3) := by decide +kernel
theorem d_Md_spreads_103 : decode prog_13_method_81_code 103 = .ok (.istore 5, 2) := by decide +kernel
theorem d_Md_spreads_105 : decode prog_13_method_81_code 105 = .ok (.iload 8, 2) := by decide +kernel
theorem d_Md_spreads_107 : decode prog_13_method_81_code 107 = .ok (.iload_n 2, 1) := by decide +kernel
theorem d_Md_spreads_108 : decode prog_13_method_81_code 108 = .ok (.if_icmp .le 6, 3) := by decide +kernel
theorem d_Md_spreads_114 : decode prog_13_method_81_code 114 = .ok (.aload_n 0, 1) := by decide +kernel
theorem d_Md_spreads_115 : decode prog_13_method_81_code 115 = .ok (.getfield 42, 3) := by decide +kernel
theorem d_Md_spreads_118 : decode prog_13_method_81_code 118 = .ok (.aload_n 0, 1) := by decide +kernel
theorem d_Md_spreads_119 : decode prog_13_method_81_code 119 = .ok (.getfield 313, 3) := by decide +kernel
theorem d_Md_spreads_122 : decode prog_13_method_81_code 122 = .ok (.iload 7, 2) := by decide +kernel
theorem d_Md_spreads_124 : decode prog_13_method_81_code 124 = .ok (.iastore, 1) := by decide +kernel
theorem d_Md_spreads_125 : decode prog_13_method_81_code 125 = .ok (.aload_n 0, 1) := by decide +kernel
theorem d_Md_spreads_126 : decode prog_13_method_81_code 126 = .ok (.dup, 1) := by decide +kernel
theorem d_Md_spreads_127 : decode prog_13_method_81_code 127 = .ok (.getfield 313, 3) := by decide +kernel
theorem d_Md_spreads_130 : decode prog_13_method_81_code 130 = .ok (.iconst 1, 1) := by decide +kernel
theorem d_Md_spreads_131 : decode prog_13_method_81_code 131 = .ok (.iadd, 1) := by decide +kernel
theorem d_Md_spreads_132 : decode prog_13_method_81_code 132 = .ok (.putfield 313, 3) := by decide +kernel
theorem d_Md_spreads_135 : decode prog_13_method_81_code 135 = .ok (.iinc 6 1, 3) := by decide +kernel
theorem d_Md_spreads_138 : decode prog_13_method_81_code 138 = .ok (.goto (-132), 3) := by decide +kernel
theorem d_Md_spreads_111 : decode prog_13_method_81_code 111 = .ok (.goto 24, 3) := by decide +kernel
theorem d_Md_spreads_92 : decode prog_13_method_81_code 92 = .ok (.iload 8, 2) := by decide +kernel
theorem d_Md_spreads_94 : decode prog_13_method_81_code 94 = .ok (.iload_n 2, 1) := by decide +kernel
theorem d_Md_spreads_95 : decode prog_13_method_81_code 95 = .ok (.if_icmp .le 7, 3) := by decide +kernel
theorem d_Md_spreads_102 : decode prog_13_method_81_code 102 = .ok (.iconst 0, 1) := by decide +kernel
theorem d_Md_spreads_63 : decode prog_13_method_81_code 63 = .ok (.aload_n 0, 1) := by decide +kernel
theorem d_Md_spreads_64 : decode prog_13_method_81_code 64 = .ok (.getfield 52, 3) := by decide +kernel
theorem d_Md_spreads_67 : decode prog_13_method_81_code 67 = .ok (.iload 7, 2) := by decide +kernel
theorem d_Md_spreads_69 : decode prog_13_method_81_code 69 = .ok (.iaload, 1) := by decide +kernel
theorem d_Md_spreads_70 : decode prog_13_method_81_code 70 = .ok (.iload 8, 2) := by decide +kernel
theorem d_Md_spreads_72 : decode prog_13_method_81_code 72 = .ok (.if_icmp .gt 6, 3) := by decide +kernel
theorem d_Md_spreads_75 : decode prog_13_method_81_code 75 = .ok (.goto 60, 3) := by decide +kernel
theorem d_Md_spreads_43 : decode prog_13_method_81_code 43 = .ok (.iload_n 2, 1) := by decide +kernel
theorem d_Md_spreads_44 : decode prog_13_method_81_code 44 = .ok (.iconst 1, 1) := by decide +kernel
theorem d_Md_spreads_45 : decode prog_13_method_81_code 45 = .ok (.iadd, 1) := by decide +kernel
theorem d_Md_spreads_46 : decode prog_13_method_81_code 46 = .ok (.goto 4, 3) := by decide +kernel
theorem d_Md_spreads_32 : decode prog_13_method_81_code 32 = .ok (.goto 103, 3) := by decide +kernel
theorem t_Md_spreads_J135 {G : mG} {r : mR} {v0 v1 v2 v3 v4 v5 v6 : Int} {h : mH} {R6 : mH → Int → Int → Option mR} (hR6 : ∀ (h : mH) (w5 w6 : Int) , R6 h w5 w6 = some r → mJ G M_Md_spreads 6 [(2, v0), (0, v1), (0, v2), (0, v3), (0, v4), (0, w5), (0, w6), (9, 0), (9, 0)] [] h r) (hr : f_Md_spreads_J135 R6 v5 v6 h = some r) : mJ G M_Md_spreads 135 [(2, v0), (0, v1), (0, v2), (0, v3), (0, v4), (0, v5), (0, v6), (9, 0), (9, 0)] [] h r := by
  unfold f_Md_spreads_J135 at hr
  refine j_iincW (pc := 135) (L := fun x1 => [(2, v0), (0, v1), (0, v2), (0, v3), (0, v4), (0, v5), (0, x1), (9, 0), (9, 0)]) d_Md_spreads_135 rfl (fun _ => rfl) hr (fun x1 hr => ?_)
  refine j_goto (pc := 138) (tgt := 6) d_Md_spreads_138 ?_
  exact mJ_weak (ls' := [(2, v0), (0, v1), (0, v2), (0, v3), (0, v4), (0, v5), (0, x1), (9, 0), (9, 0)]) (mwk_s (mwk_s (mwk_s (mwk_s (mwk_s (mwk_s (mwk_s (mwk_s (mwk_s mwk_n))))))))) (hR6 h _ _ hr)
theorem t_Md_spreads_J103 {G : mG} {r : mR} {v0 v1 v2 v3 v4 v6 v7 v8 s0 : Int} {h : mH} {R6 : mH → Int → Int → Option mR} (hR6 : ∀ (h : mH) (w5 w6 : Int) , R6 h w5 w6 = some r → mJ G M_Md_spreads 6 [(2, v0), (0, v1), (0, v2), (0, v3), (0, v4), (0, w5), (0, w6), (9, 0), (9, 0)] [] h r) (hr : f_Md_spreads_J103 R6 v0 v2 v6 v7 v8 s0 h = some r) : mJ G M_Md_spreads 103 [(2, v0), (0, v1), (0, v2), (0, v3), (0, v4), (9, 0), (0, v6), (0, v7), (0, v8)] [(0, s0)] h r := by
  unfold f_Md_spreads_J103 at hr
  refine j_istore (pc := 103) (ls' := [(2, v0), (0, v1), (0, v2), (0, v3), (0, v4), (0, s0), (0, v6), (0, v7), (0, v8)]) d_Md_spreads_103 rfl ?_
  refine j_iload (pc := 105) d_Md_spreads_105 rfl ?_
  refine j_iload_n (pc := 107) d_Md_spreads_107 rfl ?_
  refine j_icmp_le (pc := 108) (tgt := 114) d_Md_spreads_108 hr (fun hr => ?_) (fun hr => ?_)
  · refine j_aload_n (pc := 114) d_Md_spreads_114 rfl ?_
    refine j_getf (pc := 115) d_Md_spreads_115 (fd_Md_42 rfl) hr (fun hr => ?_)
    refine j_aload_n (pc := 118) d_Md_spreads_118 rfl ?_
    refine j_getf (pc := 119) d_Md_spreads_119 (fd_Md_313 rfl) hr (fun hr => ?_)
    refine j_iload (pc := 122) d_Md_spreads_122 rfl ?_
    refine j_iastore (pc := 124) d_Md_spreads_124 hr (fun h1 hr => ?_)
    refine j_aload_n (pc := 125) d_Md_spreads_125 rfl ?_
    refine j_dup (pc := 126) d_Md_spreads_126 ?_
    refine j_getf (pc := 127) d_Md_spreads_127 (fd_Md_313 rfl) hr (fun hr => ?_)
    refine j_iconst (pc := 130) d_Md_spreads_130 ?_
    refine j_iadd (pc := 131) d_Md_spreads_131 ?_
    refine j_puti (pc := 132) d_Md_spreads_132 (fd_Md_313 rfl) (⟨_, _, _, rfl, Or.inl rfl, rfl⟩ : mFldW M_Md_spreads 313 11 24 .int) hr (fun h2 hr => ?_)
    exact mJ_weak (ls' := [(2, v0), (0, v1), (0, v2), (0, v3), (0, v4), (0, s0), (0, v6), (9, 0), (9, 0)]) (mwk_s (mwk_s (mwk_s (mwk_s (mwk_s (mwk_s (mwk_s (mwk_d (mwk_d mwk_n))))))))) (t_Md_spreads_J135 hR6 hr)
  · refine j_goto (pc := 111) (tgt := 135) d_Md_spreads_111 ?_
    exact mJ_weak (ls' := [(2, v0), (0, v1), (0, v2), (0, v3), (0, v4), (0, s0), (0, v6), (9, 0), (9, 0)]) (mwk_s (mwk_s (mwk_s (mwk_s (mwk_s (mwk_s (mwk_s (mwk_d (mwk_d mwk_n))))))))) (t_Md_spreads_J135 hR6 hr)
theorem t_Md_spreads_J98 {G : mG} {r : mR} {v0 v1 v2 v3 v4 v6 v7 v8 : Int} {h : mH} {R6 : mH → Int → Int → Option mR} (hR6 : ∀ (h : mH) (w5 w6 : Int) , R6 h w5 w6 = some r → mJ G M_Md_spreads 6 [(2, v0), (0, v1), (0, v2), (0, v3), (0, v4), (0, w5), (0, w6), (9, 0), (9, 0)] [] h r) (hr : f_Md_spreads_J98 R6 v0 v2 v6 v7 v8 h = some r) : mJ G M_Md_spreads 98 [(2, v0), (0, v1), (0, v2), (0, v3), (0, v4), (9, 0), (0, v6), (0, v7), (0, v8)] [] h r := by
  unfold f_Md_spreads_J98 at hr
  refine j_iconst (pc := 98) d_Md_spreads_98 ?_
  refine j_goto (pc := 99) (tgt := 103) d_Md_spreads_99 ?_
  exact mJ_weak (ls' := [(2, v0), (0, v1), (0, v2), (0, v3), (0, v4), (9, 0), (0, v6), (0, v7), (0, v8)]) (mwk_s (mwk_s (mwk_s (mwk_s (mwk_s (mwk_s (mwk_s (mwk_s (mwk_s mwk_n))))))))) (t_Md_spreads_J103 hR6 hr)
theorem t_Md_spreads_J78 {G : mG} {r : mR} {v0 v1 v2 v3 v4 v5 v6 v7 v8 : Int} {h : mH} {R6 : mH → Int → Int → Option mR} (hR6 : ∀ (h : mH) (w5 w6 : Int) , R6 h w5 w6 = some r → mJ G M_Md_spreads 6 [(2, v0), (0, v1), (0, v2), (0, v3), (0, v4), (0, w5), (0, w6), (9, 0), (9, 0)] [] h r) (hr : f_Md_spreads_J78 R6 v0 v2 v5 v6 v7 v8 h = some r) : mJ G M_Md_spreads 78 [(2, v0), (0, v1), (0, v2), (0, v3), (0, v4), (0, v5), (0, v6), (0, v7), (0, v8)] [] h r := by
  unfold f_Md_spreads_J78 at hr
  refine j_aload_n (pc := 78) d_Md_spreads_78 rfl ?_
  refine j_getf (pc := 79) d_Md_spreads_79 (fd_Md_52 rfl) hr (fun hr => ?_)
  refine j_iload (pc := 82) d_Md_spreads_82 rfl ?_
  refine j_iload (pc := 84) d_Md_spreads_84 rfl ?_
  refine j_iastore (pc := 86) d_Md_spreads_86 hr (fun h1 hr => ?_)
  refine j_iload (pc := 87) d_Md_spreads_87 rfl ?_
  refine j_if_ne (pc := 89) (tgt := 98) d_Md_spreads_89 hr (fun hr => ?_) (fun hr => ?_)
  · exact mJ_weak (ls' := [(2, v0), (0, v1), (0, v2), (0, v3), (0, v4), (9, 0), (0, v6), (0, v7), (0, v8)]) (mwk_s (mwk_s (mwk_s (mwk_s (mwk_s (mwk_d (mwk_s (mwk_s (mwk_s mwk_n))))))))) (t_Md_spreads_J98 hR6 hr)
  · refine j_iload (pc := 92) d_Md_spreads_92 rfl ?_
    refine j_iload_n (pc := 94) d_Md_spreads_94 rfl ?_
    refine j_icmp_le (pc := 95) (tgt := 102) d_Md_spreads_95 hr (fun hr => ?_) (fun hr => ?_)
    · refine j_iconst (pc := 102) d_Md_spreads_102 ?_
      exact mJ_weak (ls' := [(2, v0), (0, v1), (0, v2), (0, v3), (0, v4), (9, 0), (0, v6), (0, v7), (0, v8)]) (mwk_s (mwk_s (mwk_s (mwk_s (mwk_s (mwk_d (mwk_s (mwk_s (mwk_s mwk_n))))))))) (t_Md_spreads_J103 hR6 hr)
    · exact mJ_weak (ls' := [(2, v0), (0, v1), (0, v2), (0, v3), (0, v4), (9, 0), (0, v6), (0, v7), (0, v8)]) (mwk_s (mwk_s (mwk_s (mwk_s (mwk_s (mwk_d (mwk_s (mwk_s (mwk_s mwk_n))))))))) (t_Md_spreads_J98 hR6 hr)
theorem t_Md_spreads_J50 {G : mG} {r : mR} {v0 v1 v2 v3 v4 v5 v6 v7 s0 : Int} {h : mH} {R6 : mH → Int → Int → Option mR} (hR6 : ∀ (h : mH) (w5 w6 : Int) , R6 h w5 w6 = some r → mJ G M_Md_spreads 6 [(2, v0), (0, v1), (0, v2), (0, v3), (0, v4), (0, w5), (0, w6), (9, 0), (9, 0)] [] h r) (hr : f_Md_spreads_J50 R6 v0 v2 v5 v6 v7 s0 h = some r) : mJ G M_Md_spreads 50 [(2, v0), (0, v1), (0, v2), (0, v3), (0, v4), (0, v5), (0, v6), (0, v7), (9, 0)] [(0, s0)] h r := by
  unfold f_Md_spreads_J50 at hr
  refine j_istore (pc := 50) (ls' := [(2, v0), (0, v1), (0, v2), (0, v3), (0, v4), (0, v5), (0, v6), (0, v7), (0, s0)]) d_Md_spreads_50 rfl ?_
  refine j_aload_n (pc := 52) d_Md_spreads_52 rfl ?_
  refine j_getf (pc := 53) d_Md_spreads_53 (fd_Md_52 rfl) hr (fun hr => ?_)
  refine j_iload (pc := 56) d_Md_spreads_56 rfl ?_
  refine j_iaload (pc := 58) d_Md_spreads_58 hr (fun hr => ?_)
  refine j_iconst (pc := 59) d_Md_spreads_59 ?_
  refine j_icmp_eq (pc := 60) (tgt := 78) d_Md_spreads_60 hr (fun hr => ?_) (fun hr => ?_)
  · exact mJ_weak (ls' := [(2, v0), (0, v1), (0, v2), (0, v3), (0, v4), (0, v5), (0, v6), (0, v7), (0, s0)]) (mwk_s (mwk_s (mwk_s (mwk_s (mwk_s (mwk_s (mwk_s (mwk_s (mwk_s mwk_n))))))))) (t_Md_spreads_J78 hR6 hr)
  · refine j_aload_n (pc := 63) d_Md_spreads_63 rfl ?_
    refine j_getf (pc := 64) d_Md_spreads_64 (fd_Md_52 rfl) hr (fun hr => ?_)
    refine j_iload (pc := 67) d_Md_spreads_67 rfl ?_
    refine j_iaload (pc := 69) d_Md_spreads_69 hr (fun hr => ?_)
    refine j_iload (pc := 70) d_Md_spreads_70 rfl ?_
    refine j_icmp_gt (pc := 72) (tgt := 78) d_Md_spreads_72 hr (fun hr => ?_) (fun hr => ?_)
    · exact mJ_weak (ls' := [(2, v0), (0, v1), (0, v2), (0, v3), (0, v4), (0, v5), (0, v6), (0, v7), (0, s0)]) (mwk_s (mwk_s (mwk_s (mwk_s (mwk_s (mwk_s (mwk_s (mwk_s (mwk_s mwk_n))))))))) (t_Md_spreads_J78 hR6 hr)
    · refine j_goto (pc := 75) (tgt := 135) d_Md_spreads_75 ?_
      exact mJ_weak (ls' := [(2, v0), (0, v1), (0, v2), (0, v3), (0, v4), (0, v5), (0, v6), (9, 0), (9, 0)]) (mwk_s (mwk_s (mwk_s (mwk_s (mwk_s (mwk_s (mwk_s (mwk_d (mwk_d mwk_n))))))))) (t_Md_spreads_J135 hR6 hr)
theorem t_Md_spreads_L6 {G : mG} {r : mR} {v0 v1 v2 v3 v4 : Int}  : ∀ (n : Nat) (h : mH) (v5 v6 : Int), f_Md_spreads_L6 v0 v1 v2 v3 v4 n h v5 v6 = some r → mJ G M_Md_spreads 6 [(2, v0), (0, v1), (0, v2), (0, v3), (0, v4), (0, v5), (0, v6), (9, 0), (9, 0)] [] h r := by
  intro n
  induction n with
  | zero =>
    intro h v5 v6 hr
    rw [f_Md_spreads_L6] at hr
    cases hr
  | succ n hR6 =>
    intro h v5 v6 hr
    rw [f_Md_spreads_L6] at hr
    refine j_iload (pc := 6) d_Md_spreads_6 rfl ?_
    refine j_aload_n (pc := 8) d_Md_spreads_8 rfl ?_
    obtain ⟨ha, hr⟩ := chk_some hr
    refine j_callG (pc := 9) (stk := [(2, v0), (0, v6)]) (as := [(2, v0)]) (P := (fun v9 => ((0 : Nat), v9) :: [(0, v6)])) (tg := 0) (My := M_Md_steps) (mRunV (as := []) (st := [(0, v6)]) d_Md_spreads_9 (mc_Md_steps (by decide)) rfl (mv_Md_steps tb_ml_Md_319) rfl (Nat.le_of_ble_eq_true rfl) ha) (fun v => rfl) rfl hr (fun r1 h1 => t_Md_steps _ _ _ h1) (fun x2 h1 hr => ?_)
    refine j_icmp_ge (pc := 12) (tgt := 141) d_Md_spreads_12 hr (fun hr => ?_) (fun hr => ?_)
    · refine j_iload (pc := 141) d_Md_spreads_141 rfl ?_
      exact j_zret (pc := 143) d_Md_spreads_143 rfl hr
    · refine j_aload_n (pc := 15) d_Md_spreads_15 rfl ?_
      refine j_iload_n (pc := 16) d_Md_spreads_16 rfl ?_
      refine j_iload (pc := 17) d_Md_spreads_17 rfl ?_
      refine j_iload (pc := 19) d_Md_spreads_19 rfl ?_
      obtain ⟨ha, hr⟩ := chk_some hr
      refine j_callG (pc := 21) (stk := [(0, v4), (0, v6), (0, v1), (2, v0)]) (as := [(2, v0), (0, v1), (0, v6), (0, v4)]) (P := (fun v9 => ((0 : Nat), v9) :: [])) (tg := 0) (My := M_Md_then) (mRunV (as := [(0, v1), (0, v6), (0, v4)]) (st := []) d_Md_spreads_21 (mc_Md_then (by decide)) rfl (mv_Md_then tb_ml_Md_322) rfl (Nat.le_of_ble_eq_true rfl) ha) (fun v => rfl) rfl hr (fun r1 h1 => t_Md_then _ _ _ _ _ _ h1) (fun x4 h3 hr => ?_)
      refine j_istore (pc := 24) (ls' := [(2, v0), (0, v1), (0, v2), (0, v3), (0, v4), (0, v5), (0, v6), (0, x4), (9, 0)]) d_Md_spreads_24 rfl ?_
      refine j_iload (pc := 26) d_Md_spreads_26 rfl ?_
      refine j_iconst (pc := 28) d_Md_spreads_28 ?_
      refine j_icmp_ne (pc := 29) (tgt := 35) d_Md_spreads_29 hr (fun hr => ?_) (fun hr => ?_)
      · refine j_iload (pc := 35) d_Md_spreads_35 rfl ?_
        refine j_iconst (pc := 37) d_Md_spreads_37 ?_
        refine j_idiv (pc := 38) d_Md_spreads_38 hr (fun hr => ?_)
        refine j_iload_n (pc := 39) d_Md_spreads_39 rfl ?_
        refine j_icmp_ne (pc := 40) (tgt := 49) d_Md_spreads_40 hr (fun hr => ?_) (fun hr => ?_)
        · refine j_iload_n (pc := 49) d_Md_spreads_49 rfl ?_
          exact mJ_weak (ls' := [(2, v0), (0, v1), (0, v2), (0, v3), (0, v4), (0, v5), (0, v6), (0, x4), (9, 0)]) (mwk_s (mwk_s (mwk_s (mwk_s (mwk_s (mwk_s (mwk_s (mwk_s (mwk_s mwk_n))))))))) (t_Md_spreads_J50 hR6 hr)
        · refine j_iload_n (pc := 43) d_Md_spreads_43 rfl ?_
          refine j_iconst (pc := 44) d_Md_spreads_44 ?_
          refine j_iadd (pc := 45) d_Md_spreads_45 ?_
          refine j_goto (pc := 46) (tgt := 50) d_Md_spreads_46 ?_
          exact mJ_weak (ls' := [(2, v0), (0, v1), (0, v2), (0, v3), (0, v4), (0, v5), (0, v6), (0, x4), (9, 0)]) (mwk_s (mwk_s (mwk_s (mwk_s (mwk_s (mwk_s (mwk_s (mwk_s (mwk_s mwk_n))))))))) (t_Md_spreads_J50 hR6 hr)
      · refine j_goto (pc := 32) (tgt := 135) d_Md_spreads_32 ?_
        exact mJ_weak (ls' := [(2, v0), (0, v1), (0, v2), (0, v3), (0, v4), (0, v5), (0, v6), (9, 0), (9, 0)]) (mwk_s (mwk_s (mwk_s (mwk_s (mwk_s (mwk_s (mwk_s (mwk_d (mwk_s mwk_n))))))))) (t_Md_spreads_J135 hR6 hr)
theorem t_Md_spreads {G : mG} (h : mH) (v0 v1 v2 v3 v4 : Int) (r : mR) (hr : f_Md_spreads h v0 v1 v2 v3 v4 = some r) : mJM G M_Md_spreads [(2, v0), (0, v1), (0, v2), (0, v3), (0, v4)] h r := by
  refine mJM_of (L := [(2, v0), (0, v1), (0, v2), (0, v3), (0, v4), (9, 0), (9, 0), (9, 0), (9, 0)]) rfl rfl rfl (Nat.le_of_ble_eq_true rfl) ?_
  unfold f_Md_spreads at hr
  refine j_iconst (pc := 0) d_Md_spreads_0 ?_
  refine j_istore (pc := 1) (ls' := [(2, v0), (0, v1), (0, v2), (0, v3), (0, v4), (0, 0), (9, 0), (9, 0), (9, 0)]) d_Md_spreads_1 rfl ?_
  refine j_iconst (pc := 3) d_Md_spreads_3 ?_
  refine j_istore (pc := 4) (ls' := [(2, v0), (0, v1), (0, v2), (0, v3), (0, v4), (0, 0), (0, 0), (9, 0), (9, 0)]) d_Md_spreads_4 rfl ?_
  refine mJ_weak (ls' := [(2, v0), (0, v1), (0, v2), (0, v3), (0, v4), (0, 0), (0, 0), (9, 0), (9, 0)]) (mwk_s (mwk_s (mwk_s (mwk_s (mwk_s (mwk_s (mwk_s (mwk_s (mwk_s mwk_n))))))))) (t_Md_spreads_L6  _ _ _ _ hr)
def M_Md_fewestOf : mM := ("NineBarsModel", ⟨"NineBarsModel", "fewestOf", "(I)I"⟩, prog_13_method_80_code, 6, some .int, [], 11)
theorem tb_co_Md_fewestOf : mTB (Cond.code ⟨"NineBarsModel", "fewestOf", "(I)I"⟩ prog_13_method_80_code 6 (some .int)) := tbq8 181 (by decide +kernel) rfl
theorem mc_Md_fewestOf {M : mM} (hd : 11 < mDp M) : mCal M M_Md_fewestOf 1 := ⟨tb_co_Md_fewestOf, tb_in_NineBarsModel, ⟨by decide +kernel, by decide +kernel⟩, by decide +kernel, hd, by decide⟩
theorem d_Md_fewestOf_0 : decode prog_13_method_80_code 0 = .ok (.aload_n 0, 1) := by decide +kernel
theorem d_Md_fewestOf_1 : decode prog_13_method_80_code 1 = .ok (.aload_n 0, 1) := by decide +kernel
theorem d_Md_fewestOf_2 : decode prog_13_method_80_code 2 = .ok (.iload_n 1, 1) := by decide +kernel
theorem d_Md_fewestOf_3 : decode prog_13_method_80_code 3 = .ok (.i2l, 1) := by decide +kernel
theorem d_Md_fewestOf_4 : decode prog_13_method_80_code 4 = .ok (.invokevirtual 226, 3) := by decide +kernel
theorem d_Md_fewestOf_7 : decode prog_13_method_80_code 7 = .ok (.ifCond .ne 7, 3) := by decide +kernel
theorem d_Md_fewestOf_14 : decode prog_13_method_80_code 14 = .ok (.aload_n 0, 1) := by decide +kernel
theorem d_Md_fewestOf_15 : decode prog_13_method_80_code 15 = .ok (.invokevirtual 261, 3) := by decide +kernel
theorem d_Md_fewestOf_18 : decode prog_13_method_80_code 18 = .ok (.ifCond .eq 7, 3) := by decide +kernel
theorem d_Md_fewestOf_25 : decode prog_13_method_80_code 25 = .ok (.iconst 0, 1) := by decide +kernel
theorem d_Md_fewestOf_26 : decode prog_13_method_80_code 26 = .ok (.putfield 86, 3) := by decide +kernel
theorem d_Md_fewestOf_29 : decode prog_13_method_80_code 29 = .ok (.aload_n 0, 1) := by decide +kernel
theorem d_Md_fewestOf_30 : decode prog_13_method_80_code 30 = .ok (.getfield 86, 3) := by decide +kernel
theorem d_Md_fewestOf_33 : decode prog_13_method_80_code 33 = .ok (.ifCond .le 5, 3) := by decide +kernel
theorem d_Md_fewestOf_38 : decode prog_13_method_80_code 38 = .ok (.aload_n 0, 1) := by decide +kernel
theorem d_Md_fewestOf_39 : decode prog_13_method_80_code 39 = .ok (.invokevirtual 244, 3) := by decide +kernel
theorem d_Md_fewestOf_42 : decode prog_13_method_80_code 42 = .ok (.istore_n 2, 1) := by decide +kernel
theorem d_Md_fewestOf_43 : decode prog_13_method_80_code 43 = .ok (.iconst 0, 1) := by decide +kernel
theorem d_Md_fewestOf_44 : decode prog_13_method_80_code 44 = .ok (.istore_n 3, 1) := by decide +kernel
theorem d_Md_fewestOf_45 : decode prog_13_method_80_code 45 = .ok (.iload_n 3, 1) := by decide +kernel
theorem d_Md_fewestOf_46 : decode prog_13_method_80_code 46 = .ok (.aload_n 0, 1) := by decide +kernel
theorem d_Md_fewestOf_47 : decode prog_13_method_80_code 47 = .ok (.invokevirtual 219, 3) := by decide +kernel
theorem d_Md_fewestOf_50 : decode prog_13_method_80_code 50 = .ok (.if_icmp .ge 16, 3) := by decide +kernel
theorem d_Md_fewestOf_53 : decode prog_13_method_80_code 53 = .ok (.aload_n 0, 1) := by decide +kernel
theorem d_Md_fewestOf_54 : decode prog_13_method_80_code 54 = .ok (.getfield 52, 3) := by decide +kernel
theorem d_Md_fewestOf_57 : decode prog_13_method_80_code 57 = .ok (.iload_n 3, 1) := by decide +kernel
theorem d_Md_fewestOf_58 : decode prog_13_method_80_code 58 = .ok (.iconst (-1), 1) := by decide +kernel
theorem d_Md_fewestOf_59 : decode prog_13_method_80_code 59 = .ok (.iastore, 1) := by decide +kernel
theorem d_Md_fewestOf_60 : decode prog_13_method_80_code 60 = .ok (.iinc 3 1, 3) := by decide +kernel
theorem d_Md_fewestOf_63 : decode prog_13_method_80_code 63 = .ok (.goto (-18), 3) := by decide +kernel
theorem d_Md_fewestOf_66 : decode prog_13_method_80_code 66 = .ok (.aload_n 0, 1) := by decide +kernel
theorem d_Md_fewestOf_67 : decode prog_13_method_80_code 67 = .ok (.getfield 52, 3) := by decide +kernel
theorem d_Md_fewestOf_70 : decode prog_13_method_80_code 70 = .ok (.aload_n 0, 1) := by decide +kernel
theorem d_Md_fewestOf_71 : decode prog_13_method_80_code 71 = .ok (.invokevirtual 265, 3) := by decide +kernel
theorem d_Md_fewestOf_74 : decode prog_13_method_80_code 74 = .ok (.iconst 0, 1) := by decide +kernel
theorem d_Md_fewestOf_75 : decode prog_13_method_80_code 75 = .ok (.iastore, 1) := by decide +kernel
theorem d_Md_fewestOf_76 : decode prog_13_method_80_code 76 = .ok (.iconst 1, 1) := by decide +kernel
theorem d_Md_fewestOf_77 : decode prog_13_method_80_code 77 = .ok (.istore_n 3, 1) := by decide +kernel
theorem d_Md_fewestOf_78 : decode prog_13_method_80_code 78 = .ok (.iconst 0, 1) := by decide +kernel
theorem d_Md_fewestOf_79 : decode prog_13_method_80_code 79 = .ok (.istore 4, 2) := by decide +kernel
theorem d_Md_fewestOf_81 : decode prog_13_method_80_code 81 = .ok (.iload_n 3, 1) := by decide +kernel
theorem d_Md_fewestOf_82 : decode prog_13_method_80_code 82 = .ok (.ifCond .eq 106, 3) := by decide +kernel
theorem d_Md_fewestOf_85 : decode prog_13_method_80_code 85 = .ok (.iconst 0, 1) := by decide +kernel
theorem d_Md_fewestOf_86 : decode prog_13_method_80_code 86 = .ok (.istore_n 3, 1) := by decide +kernel
theorem d_Md_fewestOf_87 : decode prog_13_method_80_code 87 = .ok (.aload_n 0, 1) := by decide +kernel
theorem d_Md_fewestOf_88 : decode prog_13_method_80_code 88 = .ok (.iconst 0, 1) := by decide +kernel
theorem d_Md_fewestOf_89 : decode prog_13_method_80_code 89 = .ok (.putfield 313, 3) := by decide +kernel
theorem d_Md_fewestOf_92 : decode prog_13_method_80_code 92 = .ok (.iconst 0, 1) := by decide +kernel
theorem d_Md_fewestOf_93 : decode prog_13_method_80_code 93 = .ok (.istore 5, 2) := by decide +kernel
theorem d_Md_fewestOf_95 : decode prog_13_method_80_code 95 = .ok (.iload 5, 2) := by decide +kernel
theorem d_Md_fewestOf_97 : decode prog_13_method_80_code 97 = .ok (.aload_n 0, 1) := by decide +kernel
theorem d_Md_fewestOf_98 : decode prog_13_method_80_code 98 = .ok (.invokevirtual 219, 3) := by decide +kernel
theorem d_Md_fewestOf_101 : decode prog_13_method_80_code 101 = .ok (.if_icmp .ge 45, 3) := by decide +kernel
theorem d_Md_fewestOf_104 : decode prog_13_method_80_code 104 = .ok (.aload_n 0, 1) := by decide +kernel
theorem d_Md_fewestOf_105 : decode prog_13_method_80_code 105 = .ok (.getfield 52, 3) := by decide +kernel
theorem d_Md_fewestOf_108 : decode prog_13_method_80_code 108 = .ok (.iload 5, 2) := by decide +kernel
theorem d_Md_fewestOf_110 : decode prog_13_method_80_code 110 = .ok (.iaload, 1) := by decide +kernel
theorem d_Md_fewestOf_111 : decode prog_13_method_80_code 111 = .ok (.iload 4, 2) := by decide +kernel
theorem d_Md_fewestOf_113 : decode prog_13_method_80_code 113 = .ok (.if_icmp .eq 6, 3) := by decide +kernel
theorem d_Md_fewestOf_119 : decode prog_13_method_80_code 119 = .ok (.aload_n 0, 1) := by decide +kernel
theorem d_Md_fewestOf_120 : decode prog_13_method_80_code 120 = .ok (.getfield 42, 3) := by decide +kernel
theorem d_Md_fewestOf_123 : decode prog_13_method_80_code 123 = .ok (.aload_n 0, 1) := by decide +kernel
theorem d_Md_fewestOf_124 : decode prog_13_method_80_code 124 = .ok (.getfield 313, 3) := by decide +kernel
theorem d_Md_fewestOf_127 : decode prog_13_method_80_code 127 = .ok (.iload 5, 2) := by decide +kernel
theorem d_Md_fewestOf_129 : decode prog_13_method_80_code 129 = .ok (.iastore, 1) := by decide +kernel
theorem d_Md_fewestOf_130 : decode prog_13_method_80_code 130 = .ok (.aload_n 0, 1) := by decide +kernel
theorem d_Md_fewestOf_131 : decode prog_13_method_80_code 131 = .ok (.dup, 1) := by decide +kernel
theorem d_Md_fewestOf_132 : decode prog_13_method_80_code 132 = .ok (.getfield 313, 3) := by decide +kernel
theorem d_Md_fewestOf_135 : decode prog_13_method_80_code 135 = .ok (.iconst 1, 1) := by decide +kernel
theorem d_Md_fewestOf_136 : decode prog_13_method_80_code 136 = .ok (.iadd, 1) := by decide +kernel
theorem d_Md_fewestOf_137 : decode prog_13_method_80_code 137 = .ok (.putfield 313, 3) := by decide +kernel
theorem d_Md_fewestOf_140 : decode prog_13_method_80_code 140 = .ok (.iinc 5 1, 3) := by decide +kernel
theorem d_Md_fewestOf_143 : decode prog_13_method_80_code 143 = .ok (.goto (-48), 3) := by decide +kernel
theorem d_Md_fewestOf_116 : decode prog_13_method_80_code 116 = .ok (.goto 24, 3) := by decide +kernel
theorem d_Md_fewestOf_146 : decode prog_13_method_80_code 146 = .ok (.iconst 0, 1) := by decide +kernel
theorem d_Md_fewestOf_147 : decode prog_13_method_80_code 147 = .ok (.istore 5, 2) := by decide +kernel
theorem d_Md_fewestOf_149 : decode prog_13_method_80_code 149 = .ok (.iload 5, 2) := by decide +kernel
theorem d_Md_fewestOf_151 : decode prog_13_method_80_code 151 = .ok (.aload_n 0, 1) := by decide +kernel
theorem d_Md_fewestOf_152 : decode prog_13_method_80_code 152 = .ok (.getfield 313, 3) := by decide +kernel
theorem d_Md_fewestOf_155 : decode prog_13_method_80_code 155 = .ok (.if_icmp .ge 27, 3) := by decide +kernel
theorem d_Md_fewestOf_158 : decode prog_13_method_80_code 158 = .ok (.iload_n 3, 1) := by decide +kernel
theorem d_Md_fewestOf_159 : decode prog_13_method_80_code 159 = .ok (.aload_n 0, 1) := by decide +kernel
theorem d_Md_fewestOf_160 : decode prog_13_method_80_code 160 = .ok (.aload_n 0, 1) := by decide +kernel
theorem d_Md_fewestOf_161 : decode prog_13_method_80_code 161 = .ok (.getfield 42, 3) := by decide +kernel
theorem d_Md_fewestOf_164 : decode prog_13_method_80_code 164 = .ok (.iload 5, 2) := by decide +kernel
theorem d_Md_fewestOf_166 : decode prog_13_method_80_code 166 = .ok (.iaload, 1) := by decide +kernel
theorem d_Md_fewestOf_167 : decode prog_13_method_80_code 167 = .ok (.iload 4, 2) := by decide +kernel
theorem d_Md_fewestOf_169 : decode prog_13_method_80_code 169 = .ok (.iload_n 1, 1) := by decide +kernel
theorem d_Md_fewestOf_170 : decode prog_13_method_80_code 170 = .ok (.iload_n 2, 1) := by decide +kernel
theorem d_Md_fewestOf_171 : decode prog_13_method_80_code 171 = .ok (.invokevirtual 349, 3) := by decide +kernel
theorem tb_ml_Md_349 : mTB (Cond.methodLink "NineBarsModel" 349 ⟨"NineBarsModel", "spreads", "(IIII)Z"⟩) := tbq8 182 (by decide +kernel) rfl
theorem tb_im_Md_spreads : mTB (Cond.instanceMethod ⟨"NineBarsModel", "spreads", "(IIII)Z"⟩) := tbq8 184 (by decide +kernel) rfl
theorem tb_se_Md_spreads : mTB (Cond.selects "NineBarsModel" ⟨"NineBarsModel", "spreads", "(IIII)Z"⟩ ⟨"NineBarsModel", "spreads", "(IIII)Z"⟩) := tbqp 93 (by decide +kernel) rfl
theorem mv_Md_spreads {M : mM} {idx : Nat} (h : mTB (Cond.methodLink (mO M) idx ⟨"NineBarsModel", "spreads", "(IIII)Z"⟩)) : mCaV M M_Md_spreads idx 11 := ⟨h, tb_im_Md_spreads, tb_se_Md_spreads, by decide, TX11, 40, rfl⟩
theorem d_Md_fewestOf_174 : decode prog_13_method_80_code 174 = .ok (.ior, 1) := by decide +kernel
theorem d_Md_fewestOf_175 : decode prog_13_method_80_code 175 = .ok (.istore_n 3, 1) := by decide +kernel
theorem d_Md_fewestOf_176 : decode prog_13_method_80_code 176 = .ok (.iinc 5 1, 3) := by decide +kernel
theorem d_Md_fewestOf_179 : decode prog_13_method_80_code 179 = .ok (.goto (-30), 3) := by decide +kernel
theorem d_Md_fewestOf_182 : decode prog_13_method_80_code 182 = .ok (.iinc 4 1, 3) := by decide +kernel
theorem d_Md_fewestOf_185 : decode prog_13_method_80_code 185 = .ok (.goto (-104), 3) := by decide +kernel
theorem d_Md_fewestOf_188 : decode prog_13_method_80_code 188 = .ok (.aload_n 0, 1) := by decide +kernel
theorem d_Md_fewestOf_189 : decode prog_13_method_80_code 189 = .ok (.getfield 52, 3) := by decide +kernel
theorem d_Md_fewestOf_192 : decode prog_13_method_80_code 192 = .ok (.aload_n 0, 1) := by decide +kernel
theorem d_Md_fewestOf_193 : decode prog_13_method_80_code 193 = .ok (.invokevirtual 341, 3) := by decide +kernel
theorem d_Md_fewestOf_196 : decode prog_13_method_80_code 196 = .ok (.iaload, 1) := by decide +kernel
theorem d_Md_fewestOf_197 : decode prog_13_method_80_code 197 = .ok (.ireturn, 1) := by decide +kernel
theorem d_Md_fewestOf_36 : decode prog_13_method_80_code 36 = .ok (.iconst 0, 1) := by decide +kernel
theorem d_Md_fewestOf_37 : decode prog_13_method_80_code 37 = .ok (.ireturn, 1) := by decide +kernel
theorem d_Md_fewestOf_21 : decode prog_13_method_80_code 21 = .ok (.iconst 2, 1) := by decide +kernel
theorem d_Md_fewestOf_22 : decode prog_13_method_80_code 22 = .ok (.goto 4, 3) := by decide +kernel
theorem d_Md_fewestOf_10 : decode prog_13_method_80_code 10 = .ok (.iconst 1, 1) := by decide +kernel
theorem d_Md_fewestOf_11 : decode prog_13_method_80_code 11 = .ok (.goto 15, 3) := by decide +kernel
theorem t_Md_fewestOf_L45 {G : mG} {r : mR} {v0 v1 v2 : Int} {K66 : mH → Option mR} (hK66 : ∀ (h : mH) , K66 h  = some r → mJ G M_Md_fewestOf 66 [(2, v0), (0, v1), (0, v2), (9, 0), (9, 0), (9, 0)] [] h r) : ∀ (n : Nat) (h : mH) (v3 : Int), f_Md_fewestOf_L45 K66 v0 n h v3 = some r → mJ G M_Md_fewestOf 45 [(2, v0), (0, v1), (0, v2), (0, v3), (9, 0), (9, 0)] [] h r := by
  intro n
  induction n with
  | zero =>
    intro h v3 hr
    rw [f_Md_fewestOf_L45] at hr
    cases hr
  | succ n hR45 =>
    intro h v3 hr
    rw [f_Md_fewestOf_L45] at hr
    refine j_iload_n (pc := 45) d_Md_fewestOf_45 rfl ?_
    refine j_aload_n (pc := 46) d_Md_fewestOf_46 rfl ?_
    obtain ⟨ha, hr⟩ := chk_some hr
    refine j_callG (pc := 47) (stk := [(2, v0), (0, v3)]) (as := [(2, v0)]) (P := (fun v9 => ((0 : Nat), v9) :: [(0, v3)])) (tg := 0) (My := M_Md_stands) (mRunV (as := []) (st := [(0, v3)]) d_Md_fewestOf_47 (mc_Md_stands (by decide)) rfl (mv_Md_stands tb_ml_Md_219) rfl (Nat.le_of_ble_eq_true rfl) ha) (fun v => rfl) rfl hr (fun r1 h1 => t_Md_stands _ _ _ h1) (fun x2 h1 hr => ?_)
    refine j_icmp_ge (pc := 50) (tgt := 66) d_Md_fewestOf_50 hr (fun hr => ?_) (fun hr => ?_)
    · exact mJ_weak (ls' := [(2, v0), (0, v1), (0, v2), (9, 0), (9, 0), (9, 0)]) (mwk_s (mwk_s (mwk_s (mwk_d (mwk_s (mwk_s mwk_n)))))) (hK66 h1  hr)
    · refine j_aload_n (pc := 53) d_Md_fewestOf_53 rfl ?_
      refine j_getf (pc := 54) d_Md_fewestOf_54 (fd_Md_52 rfl) hr (fun hr => ?_)
      refine j_iload_n (pc := 57) d_Md_fewestOf_57 rfl ?_
      refine j_iconst (pc := 58) d_Md_fewestOf_58 ?_
      refine j_iastore (pc := 59) d_Md_fewestOf_59 hr (fun h3 hr => ?_)
      refine j_iincW (pc := 60) (L := fun x4 => [(2, v0), (0, v1), (0, v2), (0, x4), (9, 0), (9, 0)]) d_Md_fewestOf_60 rfl (fun _ => rfl) hr (fun x4 hr => ?_)
      refine j_goto (pc := 63) (tgt := 45) d_Md_fewestOf_63 ?_
      exact mJ_weak (ls' := [(2, v0), (0, v1), (0, v2), (0, x4), (9, 0), (9, 0)]) (mwk_s (mwk_s (mwk_s (mwk_s (mwk_s (mwk_s mwk_n)))))) (hR45 h3 _ hr)
theorem t_Md_fewestOf_J140 {G : mG} {r : mR} {v0 v1 v2 v3 v4 v5 : Int} {h : mH} {R95 : mH → Int → Option mR} (hR95 : ∀ (h : mH) (w5 : Int) , R95 h w5 = some r → mJ G M_Md_fewestOf 95 [(2, v0), (0, v1), (0, v2), (0, v3), (0, v4), (0, w5)] [] h r) (hr : f_Md_fewestOf_J140 R95 v5 h = some r) : mJ G M_Md_fewestOf 140 [(2, v0), (0, v1), (0, v2), (0, v3), (0, v4), (0, v5)] [] h r := by
  unfold f_Md_fewestOf_J140 at hr
  refine j_iincW (pc := 140) (L := fun x1 => [(2, v0), (0, v1), (0, v2), (0, v3), (0, v4), (0, x1)]) d_Md_fewestOf_140 rfl (fun _ => rfl) hr (fun x1 hr => ?_)
  refine j_goto (pc := 143) (tgt := 95) d_Md_fewestOf_143 ?_
  exact mJ_weak (ls' := [(2, v0), (0, v1), (0, v2), (0, v3), (0, v4), (0, x1)]) (mwk_s (mwk_s (mwk_s (mwk_s (mwk_s (mwk_s mwk_n)))))) (hR95 h _ hr)
theorem t_Md_fewestOf_L95 {G : mG} {r : mR} {v0 v1 v2 v3 v4 : Int} {K146 : mH → Option mR} (hK146 : ∀ (h : mH) , K146 h  = some r → mJ G M_Md_fewestOf 146 [(2, v0), (0, v1), (0, v2), (0, v3), (0, v4), (9, 0)] [] h r) : ∀ (n : Nat) (h : mH) (v5 : Int), f_Md_fewestOf_L95 K146 v0 v4 n h v5 = some r → mJ G M_Md_fewestOf 95 [(2, v0), (0, v1), (0, v2), (0, v3), (0, v4), (0, v5)] [] h r := by
  intro n
  induction n with
  | zero =>
    intro h v5 hr
    rw [f_Md_fewestOf_L95] at hr
    cases hr
  | succ n hR95 =>
    intro h v5 hr
    rw [f_Md_fewestOf_L95] at hr
    refine j_iload (pc := 95) d_Md_fewestOf_95 rfl ?_
    refine j_aload_n (pc := 97) d_Md_fewestOf_97 rfl ?_
    obtain ⟨ha, hr⟩ := chk_some hr
    refine j_callG (pc := 98) (stk := [(2, v0), (0, v5)]) (as := [(2, v0)]) (P := (fun v9 => ((0 : Nat), v9) :: [(0, v5)])) (tg := 0) (My := M_Md_stands) (mRunV (as := []) (st := [(0, v5)]) d_Md_fewestOf_98 (mc_Md_stands (by decide)) rfl (mv_Md_stands tb_ml_Md_219) rfl (Nat.le_of_ble_eq_true rfl) ha) (fun v => rfl) rfl hr (fun r1 h1 => t_Md_stands _ _ _ h1) (fun x2 h1 hr => ?_)
    refine j_icmp_ge (pc := 101) (tgt := 146) d_Md_fewestOf_101 hr (fun hr => ?_) (fun hr => ?_)
    · exact mJ_weak (ls' := [(2, v0), (0, v1), (0, v2), (0, v3), (0, v4), (9, 0)]) (mwk_s (mwk_s (mwk_s (mwk_s (mwk_s (mwk_d mwk_n)))))) (hK146 h1  hr)
    · refine j_aload_n (pc := 104) d_Md_fewestOf_104 rfl ?_
      refine j_getf (pc := 105) d_Md_fewestOf_105 (fd_Md_52 rfl) hr (fun hr => ?_)
      refine j_iload (pc := 108) d_Md_fewestOf_108 rfl ?_
      refine j_iaload (pc := 110) d_Md_fewestOf_110 hr (fun hr => ?_)
      refine j_iload (pc := 111) d_Md_fewestOf_111 rfl ?_
      refine j_icmp_eq (pc := 113) (tgt := 119) d_Md_fewestOf_113 hr (fun hr => ?_) (fun hr => ?_)
      · refine j_aload_n (pc := 119) d_Md_fewestOf_119 rfl ?_
        refine j_getf (pc := 120) d_Md_fewestOf_120 (fd_Md_42 rfl) hr (fun hr => ?_)
        refine j_aload_n (pc := 123) d_Md_fewestOf_123 rfl ?_
        refine j_getf (pc := 124) d_Md_fewestOf_124 (fd_Md_313 rfl) hr (fun hr => ?_)
        refine j_iload (pc := 127) d_Md_fewestOf_127 rfl ?_
        refine j_iastore (pc := 129) d_Md_fewestOf_129 hr (fun h3 hr => ?_)
        refine j_aload_n (pc := 130) d_Md_fewestOf_130 rfl ?_
        refine j_dup (pc := 131) d_Md_fewestOf_131 ?_
        refine j_getf (pc := 132) d_Md_fewestOf_132 (fd_Md_313 rfl) hr (fun hr => ?_)
        refine j_iconst (pc := 135) d_Md_fewestOf_135 ?_
        refine j_iadd (pc := 136) d_Md_fewestOf_136 ?_
        refine j_puti (pc := 137) d_Md_fewestOf_137 (fd_Md_313 rfl) (⟨_, _, _, rfl, Or.inl rfl, rfl⟩ : mFldW M_Md_fewestOf 313 11 24 .int) hr (fun h4 hr => ?_)
        exact mJ_weak (ls' := [(2, v0), (0, v1), (0, v2), (0, v3), (0, v4), (0, v5)]) (mwk_s (mwk_s (mwk_s (mwk_s (mwk_s (mwk_s mwk_n)))))) (t_Md_fewestOf_J140 hR95 hr)
      · refine j_goto (pc := 116) (tgt := 140) d_Md_fewestOf_116 ?_
        exact mJ_weak (ls' := [(2, v0), (0, v1), (0, v2), (0, v3), (0, v4), (0, v5)]) (mwk_s (mwk_s (mwk_s (mwk_s (mwk_s (mwk_s mwk_n)))))) (t_Md_fewestOf_J140 hR95 hr)
theorem t_Md_fewestOf_L149 {G : mG} {r : mR} {v0 v1 v2 v4 : Int} {K182 : mH → Int → Option mR} (hK182 : ∀ (h : mH) (w3 : Int) , K182 h w3 = some r → mJ G M_Md_fewestOf 182 [(2, v0), (0, v1), (0, v2), (0, w3), (0, v4), (9, 0)] [] h r) : ∀ (n : Nat) (h : mH) (v3 v5 : Int), f_Md_fewestOf_L149 K182 v0 v1 v2 v4 n h v3 v5 = some r → mJ G M_Md_fewestOf 149 [(2, v0), (0, v1), (0, v2), (0, v3), (0, v4), (0, v5)] [] h r := by
  intro n
  induction n with
  | zero =>
    intro h v3 v5 hr
    rw [f_Md_fewestOf_L149] at hr
    cases hr
  | succ n hR149 =>
    intro h v3 v5 hr
    rw [f_Md_fewestOf_L149] at hr
    refine j_iload (pc := 149) d_Md_fewestOf_149 rfl ?_
    refine j_aload_n (pc := 151) d_Md_fewestOf_151 rfl ?_
    refine j_getf (pc := 152) d_Md_fewestOf_152 (fd_Md_313 rfl) hr (fun hr => ?_)
    refine j_icmp_ge (pc := 155) (tgt := 182) d_Md_fewestOf_155 hr (fun hr => ?_) (fun hr => ?_)
    · exact mJ_weak (ls' := [(2, v0), (0, v1), (0, v2), (0, v3), (0, v4), (9, 0)]) (mwk_s (mwk_s (mwk_s (mwk_s (mwk_s (mwk_d mwk_n)))))) (hK182 h _ hr)
    · refine j_iload_n (pc := 158) d_Md_fewestOf_158 rfl ?_
      refine j_aload_n (pc := 159) d_Md_fewestOf_159 rfl ?_
      refine j_aload_n (pc := 160) d_Md_fewestOf_160 rfl ?_
      refine j_getf (pc := 161) d_Md_fewestOf_161 (fd_Md_42 rfl) hr (fun hr => ?_)
      refine j_iload (pc := 164) d_Md_fewestOf_164 rfl ?_
      refine j_iaload (pc := 166) d_Md_fewestOf_166 hr (fun hr => ?_)
      refine j_iload (pc := 167) d_Md_fewestOf_167 rfl ?_
      refine j_iload_n (pc := 169) d_Md_fewestOf_169 rfl ?_
      refine j_iload_n (pc := 170) d_Md_fewestOf_170 rfl ?_
      obtain ⟨ha, hr⟩ := chk_some hr
      refine j_callG (pc := 171) (stk := [(0, v2), (0, v1), (0, v4), (0, hpV h (hpV h v0 23) v5), (2, v0), (0, v3)]) (as := [(2, v0), (0, hpV h (hpV h v0 23) v5), (0, v4), (0, v1), (0, v2)]) (P := (fun v9 => ((0 : Nat), v9) :: [(0, v3)])) (tg := 0) (My := M_Md_spreads) (mRunV (as := [(0, hpV h (hpV h v0 23) v5), (0, v4), (0, v1), (0, v2)]) (st := [(0, v3)]) d_Md_fewestOf_171 (mc_Md_spreads (by decide)) rfl (mv_Md_spreads tb_ml_Md_349) rfl (Nat.le_of_ble_eq_true rfl) ha) (fun v => rfl) rfl hr (fun r1 h1 => t_Md_spreads _ _ _ _ _ _ _ h1) (fun x2 h1 hr => ?_)
      refine j_ior (pc := 174) d_Md_fewestOf_174 ?_
      refine j_istoreW_n (pc := 175) (L := fun x3 => [(2, v0), (0, v1), (0, v2), (0, x3), (0, v4), (0, v5)]) d_Md_fewestOf_175 (fun _ => rfl) hr (fun x3 hr => ?_)
      refine j_iincW (pc := 176) (L := fun x4 => [(2, v0), (0, v1), (0, v2), (0, x3), (0, v4), (0, x4)]) d_Md_fewestOf_176 rfl (fun _ => rfl) hr (fun x4 hr => ?_)
      refine j_goto (pc := 179) (tgt := 149) d_Md_fewestOf_179 ?_
      exact mJ_weak (ls' := [(2, v0), (0, v1), (0, v2), (0, x3), (0, v4), (0, x4)]) (mwk_s (mwk_s (mwk_s (mwk_s (mwk_s (mwk_s mwk_n)))))) (hR149 h1 _ _ hr)
theorem t_Md_fewestOf_L81 {G : mG} {r : mR} {v0 v1 v2 : Int} {K188 : mH → Option mR} (hK188 : ∀ (h : mH) , K188 h  = some r → mJ G M_Md_fewestOf 188 [(2, v0), (9, 0), (9, 0), (9, 0), (9, 0), (9, 0)] [] h r) : ∀ (n : Nat) (h : mH) (v3 v4 : Int), f_Md_fewestOf_L81 K188 v0 v1 v2 n h v3 v4 = some r → mJ G M_Md_fewestOf 81 [(2, v0), (0, v1), (0, v2), (0, v3), (0, v4), (9, 0)] [] h r := by
  intro n
  induction n with
  | zero =>
    intro h v3 v4 hr
    rw [f_Md_fewestOf_L81] at hr
    cases hr
  | succ n hR81 =>
    intro h v3 v4 hr
    rw [f_Md_fewestOf_L81] at hr
    refine j_iload_n (pc := 81) d_Md_fewestOf_81 rfl ?_
    refine j_if_eq (pc := 82) (tgt := 188) d_Md_fewestOf_82 hr (fun hr => ?_) (fun hr => ?_)
    · exact mJ_weak (ls' := [(2, v0), (9, 0), (9, 0), (9, 0), (9, 0), (9, 0)]) (mwk_s (mwk_d (mwk_d (mwk_d (mwk_d (mwk_s mwk_n)))))) (hK188 h  hr)
    · refine j_iconst (pc := 85) d_Md_fewestOf_85 ?_
      refine j_istore_n (pc := 86) (ls' := [(2, v0), (0, v1), (0, v2), (0, 0), (0, v4), (9, 0)]) d_Md_fewestOf_86 rfl ?_
      refine j_aload_n (pc := 87) d_Md_fewestOf_87 rfl ?_
      refine j_iconst (pc := 88) d_Md_fewestOf_88 ?_
      refine j_puti (pc := 89) d_Md_fewestOf_89 (fd_Md_313 rfl) (⟨_, _, _, rfl, Or.inl rfl, rfl⟩ : mFldW M_Md_fewestOf 313 11 24 .int) hr (fun h1 hr => ?_)
      refine j_iconst (pc := 92) d_Md_fewestOf_92 ?_
      refine j_istore (pc := 93) (ls' := [(2, v0), (0, v1), (0, v2), (0, 0), (0, v4), (0, 0)]) d_Md_fewestOf_93 rfl ?_
      refine mJ_weak (ls' := [(2, v0), (0, v1), (0, v2), (0, 0), (0, v4), (0, 0)]) (mwk_s (mwk_s (mwk_s (mwk_s (mwk_s (mwk_s mwk_n)))))) (t_Md_fewestOf_L95 (fun h2  hr => ?_) _ _ _ hr)
      · refine j_iconst (pc := 146) d_Md_fewestOf_146 ?_
        refine j_istore (pc := 147) (ls' := [(2, v0), (0, v1), (0, v2), (0, 0), (0, v4), (0, 0)]) d_Md_fewestOf_147 rfl ?_
        refine mJ_weak (ls' := [(2, v0), (0, v1), (0, v2), (0, 0), (0, v4), (0, 0)]) (mwk_s (mwk_s (mwk_s (mwk_s (mwk_s (mwk_s mwk_n)))))) (t_Md_fewestOf_L149 (fun h3 x4 hr => ?_) _ _ _ _ hr)
        · refine j_iincW (pc := 182) (L := fun x5 => [(2, v0), (0, v1), (0, v2), (0, x4), (0, x5), (9, 0)]) d_Md_fewestOf_182 rfl (fun _ => rfl) hr (fun x5 hr => ?_)
          refine j_goto (pc := 185) (tgt := 81) d_Md_fewestOf_185 ?_
          exact mJ_weak (ls' := [(2, v0), (0, v1), (0, v2), (0, x4), (0, x5), (9, 0)]) (mwk_s (mwk_s (mwk_s (mwk_s (mwk_s (mwk_s mwk_n)))))) (hR81 h3 _ _ hr)
theorem t_Md_fewestOf_J26 {G : mG} {r : mR} {v0 v1 s0 s1 : Int} {h : mH}  (hr : f_Md_fewestOf_J26 v0 v1 s0 s1 h = some r) : mJ G M_Md_fewestOf 26 [(2, v0), (0, v1), (9, 0), (9, 0), (9, 0), (9, 0)] [(0, s1), (2, s0)] h r := by
  unfold f_Md_fewestOf_J26 at hr
  refine j_puti (pc := 26) d_Md_fewestOf_26 (fd_Md_86 rfl) (⟨_, _, _, rfl, Or.inl rfl, rfl⟩ : mFldW M_Md_fewestOf 86 11 5 .int) hr (fun h1 hr => ?_)
  refine j_aload_n (pc := 29) d_Md_fewestOf_29 rfl ?_
  refine j_getf (pc := 30) d_Md_fewestOf_30 (fd_Md_86 rfl) hr (fun hr => ?_)
  refine j_if_le (pc := 33) (tgt := 38) d_Md_fewestOf_33 hr (fun hr => ?_) (fun hr => ?_)
  · refine j_aload_n (pc := 38) d_Md_fewestOf_38 rfl ?_
    obtain ⟨ha, hr⟩ := chk_some hr
    refine j_callG (pc := 39) (stk := [(2, v0)]) (as := [(2, v0)]) (P := (fun v9 => ((0 : Nat), v9) :: [])) (tg := 0) (My := M_Md_worn) (mRunV (as := []) (st := []) d_Md_fewestOf_39 (mc_Md_worn (by decide)) rfl (mv_Md_worn tb_ml_Md_244) rfl (Nat.le_of_ble_eq_true rfl) ha) (fun v => rfl) rfl hr (fun r1 h1 => t_Md_worn _ _ _ h1) (fun x3 h2 hr => ?_)
    refine j_istore_n (pc := 42) (ls' := [(2, v0), (0, v1), (0, x3), (9, 0), (9, 0), (9, 0)]) d_Md_fewestOf_42 rfl ?_
    refine j_iconst (pc := 43) d_Md_fewestOf_43 ?_
    refine j_istore_n (pc := 44) (ls' := [(2, v0), (0, v1), (0, x3), (0, 0), (9, 0), (9, 0)]) d_Md_fewestOf_44 rfl ?_
    refine mJ_weak (ls' := [(2, v0), (0, v1), (0, x3), (0, 0), (9, 0), (9, 0)]) (mwk_s (mwk_s (mwk_s (mwk_s (mwk_s (mwk_s mwk_n)))))) (t_Md_fewestOf_L45 (fun h4  hr => ?_) _ _ _ hr)
    · refine j_aload_n (pc := 66) d_Md_fewestOf_66 rfl ?_
      refine j_getf (pc := 67) d_Md_fewestOf_67 (fd_Md_52 rfl) hr (fun hr => ?_)
      refine j_aload_n (pc := 70) d_Md_fewestOf_70 rfl ?_
      obtain ⟨ha, hr⟩ := chk_some hr
      refine j_callG (pc := 71) (stk := [(2, v0), (2, hpV h4 v0 27)]) (as := [(2, v0)]) (P := (fun v9 => ((0 : Nat), v9) :: [(2, hpV h4 v0 27)])) (tg := 0) (My := M_Md_standNow) (mRunV (as := []) (st := [(2, hpV h4 v0 27)]) d_Md_fewestOf_71 (mc_Md_standNow (by decide)) rfl (mv_Md_standNow tb_ml_Md_265) rfl (Nat.le_of_ble_eq_true rfl) ha) (fun v => rfl) rfl hr (fun r1 h1 => t_Md_standNow _ _ _ h1) (fun x6 h5 hr => ?_)
      refine j_iconst (pc := 74) d_Md_fewestOf_74 ?_
      refine j_iastore (pc := 75) d_Md_fewestOf_75 hr (fun h7 hr => ?_)
      refine j_iconst (pc := 76) d_Md_fewestOf_76 ?_
      refine j_istore_n (pc := 77) (ls' := [(2, v0), (0, v1), (0, x3), (0, 1), (9, 0), (9, 0)]) d_Md_fewestOf_77 rfl ?_
      refine j_iconst (pc := 78) d_Md_fewestOf_78 ?_
      refine j_istore (pc := 79) (ls' := [(2, v0), (0, v1), (0, x3), (0, 1), (0, 0), (9, 0)]) d_Md_fewestOf_79 rfl ?_
      refine mJ_weak (ls' := [(2, v0), (0, v1), (0, x3), (0, 1), (0, 0), (9, 0)]) (mwk_s (mwk_s (mwk_s (mwk_s (mwk_s (mwk_s mwk_n)))))) (t_Md_fewestOf_L81 (fun h8  hr => ?_) _ _ _ _ hr)
      · refine j_aload_n (pc := 188) d_Md_fewestOf_188 rfl ?_
        refine j_getf (pc := 189) d_Md_fewestOf_189 (fd_Md_52 rfl) hr (fun hr => ?_)
        refine j_aload_n (pc := 192) d_Md_fewestOf_192 rfl ?_
        obtain ⟨ha, hr⟩ := chk_some hr
        refine j_callG (pc := 193) (stk := [(2, v0), (2, hpV h8 v0 27)]) (as := [(2, v0)]) (P := (fun v9 => ((0 : Nat), v9) :: [(2, hpV h8 v0 27)])) (tg := 0) (My := M_Md_openStand) (mRunV (as := []) (st := [(2, hpV h8 v0 27)]) d_Md_fewestOf_193 (mc_Md_openStand (by decide)) rfl (mv_Md_openStand tb_ml_Md_341) rfl (Nat.le_of_ble_eq_true rfl) ha) (fun v => rfl) rfl hr (fun r1 h1 => t_Md_openStand _ _ _ h1) (fun x10 h9 hr => ?_)
        refine j_iaload (pc := 196) d_Md_fewestOf_196 hr (fun hr => ?_)
        exact j_iret (pc := 197) d_Md_fewestOf_197 rfl hr
  · refine j_iconst (pc := 36) d_Md_fewestOf_36 ?_
    exact j_iret (pc := 37) d_Md_fewestOf_37 rfl hr
theorem t_Md_fewestOf {G : mG} (h : mH) (v0 v1 : Int) (r : mR) (hr : f_Md_fewestOf h v0 v1 = some r) : mJM G M_Md_fewestOf [(2, v0), (0, v1)] h r := by
  refine mJM_of (L := [(2, v0), (0, v1), (9, 0), (9, 0), (9, 0), (9, 0)]) rfl rfl rfl (Nat.le_of_ble_eq_true rfl) ?_
  unfold f_Md_fewestOf at hr
  refine j_aload_n (pc := 0) d_Md_fewestOf_0 rfl ?_
  refine j_aload_n (pc := 1) d_Md_fewestOf_1 rfl ?_
  refine j_iload_n (pc := 2) d_Md_fewestOf_2 rfl ?_
  refine j_i2l (pc := 3) d_Md_fewestOf_3 ?_
  obtain ⟨ha, hr⟩ := chk_some hr
  refine j_callG (pc := 4) (stk := [(1, v1), (2, v0), (2, v0)]) (as := [(2, v0), (1, v1)]) (P := (fun v9 => ((0 : Nat), v9) :: [(2, v0)])) (tg := 0) (My := M_Md_isBar) (mRunV (as := [(1, v1)]) (st := [(2, v0)]) d_Md_fewestOf_4 (mc_Md_isBar (by decide)) rfl (mv_Md_isBar tb_ml_Md_226) rfl (Nat.le_of_ble_eq_true rfl) ha) (fun v => rfl) rfl hr (fun r1 h1 => t_Md_isBar _ _ _ _ h1) (fun x2 h1 hr => ?_)
  refine j_if_ne (pc := 7) (tgt := 14) d_Md_fewestOf_7 hr (fun hr => ?_) (fun hr => ?_)
  · refine j_aload_n (pc := 14) d_Md_fewestOf_14 rfl ?_
    obtain ⟨ha, hr⟩ := chk_some hr
    refine j_callG (pc := 15) (stk := [(2, v0), (2, v0)]) (as := [(2, v0)]) (P := (fun v9 => ((0 : Nat), v9) :: [(2, v0)])) (tg := 0) (My := M_Md_isSpent) (mRunV (as := []) (st := [(2, v0)]) d_Md_fewestOf_15 (mc_Md_isSpent (by decide)) rfl (mv_Md_isSpent tb_ml_Md_261) rfl (Nat.le_of_ble_eq_true rfl) ha) (fun v => rfl) rfl hr (fun r1 h1 => t_Md_isSpent _ _ _ h1) (fun x4 h3 hr => ?_)
    refine j_if_eq (pc := 18) (tgt := 25) d_Md_fewestOf_18 hr (fun hr => ?_) (fun hr => ?_)
    · refine j_iconst (pc := 25) d_Md_fewestOf_25 ?_
      exact mJ_weak (ls' := [(2, v0), (0, v1), (9, 0), (9, 0), (9, 0), (9, 0)]) (mwk_s (mwk_s (mwk_s (mwk_s (mwk_s (mwk_s mwk_n)))))) (t_Md_fewestOf_J26  hr)
    · refine j_iconst (pc := 21) d_Md_fewestOf_21 ?_
      refine j_goto (pc := 22) (tgt := 26) d_Md_fewestOf_22 ?_
      exact mJ_weak (ls' := [(2, v0), (0, v1), (9, 0), (9, 0), (9, 0), (9, 0)]) (mwk_s (mwk_s (mwk_s (mwk_s (mwk_s (mwk_s mwk_n)))))) (t_Md_fewestOf_J26  hr)
  · refine j_iconst (pc := 10) d_Md_fewestOf_10 ?_
    refine j_goto (pc := 11) (tgt := 26) d_Md_fewestOf_11 ?_
    exact mJ_weak (ls' := [(2, v0), (0, v1), (9, 0), (9, 0), (9, 0), (9, 0)]) (mwk_s (mwk_s (mwk_s (mwk_s (mwk_s (mwk_s mwk_n)))))) (t_Md_fewestOf_J26  hr)
def M_Md_musts : mM := ("NineBarsModel", ⟨"NineBarsModel", "musts", "(I)I"⟩, prog_13_method_82_code, 8, some .int, [], 13)
theorem tb_co_Md_musts : mTB (Cond.code ⟨"NineBarsModel", "musts", "(I)I"⟩ prog_13_method_82_code 8 (some .int)) := tbq8 189 (by decide +kernel) rfl
theorem mc_Md_musts {M : mM} (hd : 13 < mDp M) : mCal M M_Md_musts 1 := ⟨tb_co_Md_musts, tb_in_NineBarsModel, ⟨by decide +kernel, by decide +kernel⟩, by decide +kernel, hd, by decide⟩
theorem d_Md_musts_0 : decode prog_13_method_82_code 0 = .ok (.aload_n 0, 1) := by decide +kernel
theorem d_Md_musts_1 : decode prog_13_method_82_code 1 = .ok (.aload_n 0, 1) := by decide +kernel
theorem d_Md_musts_2 : decode prog_13_method_82_code 2 = .ok (.invokevirtual 261, 3) := by decide +kernel
theorem d_Md_musts_5 : decode prog_13_method_82_code 5 = .ok (.ifCond .eq 7, 3) := by decide +kernel
theorem d_Md_musts_12 : decode prog_13_method_82_code 12 = .ok (.iload_n 1, 1) := by decide +kernel
theorem d_Md_musts_13 : decode prog_13_method_82_code 13 = .ok (.ifCond .eq 9, 3) := by decide +kernel
theorem d_Md_musts_22 : decode prog_13_method_82_code 22 = .ok (.iconst 0, 1) := by decide +kernel
theorem d_Md_musts_23 : decode prog_13_method_82_code 23 = .ok (.goto 4, 3) := by decide +kernel
theorem d_Md_musts_27 : decode prog_13_method_82_code 27 = .ok (.putfield 86, 3) := by decide +kernel
theorem d_Md_musts_30 : decode prog_13_method_82_code 30 = .ok (.aload_n 0, 1) := by decide +kernel
theorem d_Md_musts_31 : decode prog_13_method_82_code 31 = .ok (.getfield 86, 3) := by decide +kernel
theorem d_Md_musts_34 : decode prog_13_method_82_code 34 = .ok (.ifCond .le 5, 3) := by decide +kernel
theorem d_Md_musts_39 : decode prog_13_method_82_code 39 = .ok (.aload_n 0, 1) := by decide +kernel
theorem d_Md_musts_40 : decode prog_13_method_82_code 40 = .ok (.invokevirtual 346, 3) := by decide +kernel
theorem d_Md_musts_43 : decode prog_13_method_82_code 43 = .ok (.aload_n 0, 1) := by decide +kernel
theorem d_Md_musts_44 : decode prog_13_method_82_code 44 = .ok (.getfield 39, 3) := by decide +kernel
theorem d_Md_musts_47 : decode prog_13_method_82_code 47 = .ok (.aload_n 0, 1) := by decide +kernel
theorem d_Md_musts_48 : decode prog_13_method_82_code 48 = .ok (.invokevirtual 341, 3) := by decide +kernel
theorem d_Md_musts_51 : decode prog_13_method_82_code 51 = .ok (.iaload, 1) := by decide +kernel
theorem d_Md_musts_52 : decode prog_13_method_82_code 52 = .ok (.istore_n 2, 1) := by decide +kernel
theorem d_Md_musts_53 : decode prog_13_method_82_code 53 = .ok (.iconst 0, 1) := by decide +kernel
theorem d_Md_musts_54 : decode prog_13_method_82_code 54 = .ok (.istore_n 3, 1) := by decide +kernel
theorem d_Md_musts_55 : decode prog_13_method_82_code 55 = .ok (.iconst 0, 1) := by decide +kernel
theorem d_Md_musts_56 : decode prog_13_method_82_code 56 = .ok (.istore 4, 2) := by decide +kernel
theorem d_Md_musts_58 : decode prog_13_method_82_code 58 = .ok (.iload 4, 2) := by decide +kernel
theorem d_Md_musts_60 : decode prog_13_method_82_code 60 = .ok (.iload_n 2, 1) := by decide +kernel
theorem d_Md_musts_61 : decode prog_13_method_82_code 61 = .ok (.if_icmp .gt 92, 3) := by decide +kernel
theorem d_Md_musts_64 : decode prog_13_method_82_code 64 = .ok (.iconst 0, 1) := by decide +kernel
theorem d_Md_musts_65 : decode prog_13_method_82_code 65 = .ok (.istore 5, 2) := by decide +kernel
theorem d_Md_musts_67 : decode prog_13_method_82_code 67 = .ok (.iconst (-1), 1) := by decide +kernel
theorem d_Md_musts_68 : decode prog_13_method_82_code 68 = .ok (.istore 6, 2) := by decide +kernel
theorem d_Md_musts_70 : decode prog_13_method_82_code 70 = .ok (.iconst 0, 1) := by decide +kernel
theorem d_Md_musts_71 : decode prog_13_method_82_code 71 = .ok (.istore 7, 2) := by decide +kernel
theorem d_Md_musts_73 : decode prog_13_method_82_code 73 = .ok (.iload 7, 2) := by decide +kernel
theorem d_Md_musts_75 : decode prog_13_method_82_code 75 = .ok (.aload_n 0, 1) := by decide +kernel
theorem d_Md_musts_76 : decode prog_13_method_82_code 76 = .ok (.invokevirtual 219, 3) := by decide +kernel
theorem d_Md_musts_79 : decode prog_13_method_82_code 79 = .ok (.if_icmp .ge 45, 3) := by decide +kernel
theorem d_Md_musts_82 : decode prog_13_method_82_code 82 = .ok (.aload_n 0, 1) := by decide +kernel
theorem d_Md_musts_83 : decode prog_13_method_82_code 83 = .ok (.getfield 39, 3) := by decide +kernel
theorem d_Md_musts_86 : decode prog_13_method_82_code 86 = .ok (.iload 7, 2) := by decide +kernel
theorem d_Md_musts_88 : decode prog_13_method_82_code 88 = .ok (.iaload, 1) := by decide +kernel
theorem d_Md_musts_89 : decode prog_13_method_82_code 89 = .ok (.iload 4, 2) := by decide +kernel
theorem d_Md_musts_91 : decode prog_13_method_82_code 91 = .ok (.if_icmp .ne 27, 3) := by decide +kernel
theorem d_Md_musts_118 : decode prog_13_method_82_code 118 = .ok (.iinc 7 1, 3) := by decide +kernel
theorem d_Md_musts_121 : decode prog_13_method_82_code 121 = .ok (.goto (-48), 3) := by decide +kernel
theorem d_Md_musts_94 : decode prog_13_method_82_code 94 = .ok (.aload_n 0, 1) := by decide +kernel
theorem d_Md_musts_95 : decode prog_13_method_82_code 95 = .ok (.getfield 52, 3) := by decide +kernel
theorem d_Md_musts_98 : decode prog_13_method_82_code 98 = .ok (.iload 7, 2) := by decide +kernel
theorem d_Md_musts_100 : decode prog_13_method_82_code 100 = .ok (.iaload, 1) := by decide +kernel
theorem d_Md_musts_101 : decode prog_13_method_82_code 101 = .ok (.iload_n 2, 1) := by decide +kernel
theorem d_Md_musts_102 : decode prog_13_method_82_code 102 = .ok (.iload 4, 2) := by decide +kernel
theorem d_Md_musts_104 : decode prog_13_method_82_code 104 = .ok (.isub, 1) := by decide +kernel
theorem d_Md_musts_105 : decode prog_13_method_82_code 105 = .ok (.if_icmp .eq 6, 3) := by decide +kernel
theorem d_Md_musts_111 : decode prog_13_method_82_code 111 = .ok (.iinc 5 1, 3) := by decide +kernel
theorem d_Md_musts_114 : decode prog_13_method_82_code 114 = .ok (.iload 7, 2) := by decide +kernel
theorem d_Md_musts_116 : decode prog_13_method_82_code 116 = .ok (.istore 6, 2) := by decide +kernel
theorem d_Md_musts_108 : decode prog_13_method_82_code 108 = .ok (.goto 10, 3) := by decide +kernel
theorem d_Md_musts_124 : decode prog_13_method_82_code 124 = .ok (.iload 5, 2) := by decide +kernel
theorem d_Md_musts_126 : decode prog_13_method_82_code 126 = .ok (.iconst 1, 1) := by decide +kernel
theorem d_Md_musts_127 : decode prog_13_method_82_code 127 = .ok (.if_icmp .eq 6, 3) := by decide +kernel
theorem d_Md_musts_133 : decode prog_13_method_82_code 133 = .ok (.iload_n 1, 1) := by decide +kernel
theorem d_Md_musts_134 : decode prog_13_method_82_code 134 = .ok (.bipush 10, 2) := by decide +kernel
theorem d_Md_musts_136 : decode prog_13_method_82_code 136 = .ok (.iload_n 3, 1) := by decide +kernel
theorem d_Md_musts_137 : decode prog_13_method_82_code 137 = .ok (.iadd, 1) := by decide +kernel
theorem d_Md_musts_138 : decode prog_13_method_82_code 138 = .ok (.if_icmp .ne 6, 3) := by decide +kernel
theorem d_Md_musts_144 : decode prog_13_method_82_code 144 = .ok (.iinc 3 1, 3) := by decide +kernel
theorem d_Md_musts_147 : decode prog_13_method_82_code 147 = .ok (.iinc 4 1, 3) := by decide +kernel
theorem d_Md_musts_150 : decode prog_13_method_82_code 150 = .ok (.goto (-92), 3) := by decide +kernel
theorem d_Md_musts_141 : decode prog_13_method_82_code 141 = .ok (.iload 6, 2) := by decide +kernel
theorem d_Md_musts_143 : decode prog_13_method_82_code 143 = .ok (.ireturn, 1) := by decide +kernel
theorem d_Md_musts_130 : decode prog_13_method_82_code 130 = .ok (.goto 17, 3) := by decide +kernel
theorem d_Md_musts_153 : decode prog_13_method_82_code 153 = .ok (.iload_n 1, 1) := by decide +kernel
theorem d_Md_musts_154 : decode prog_13_method_82_code 154 = .ok (.ifCond .ne 7, 3) := by decide +kernel
theorem d_Md_musts_161 : decode prog_13_method_82_code 161 = .ok (.iconst (-1), 1) := by decide +kernel
theorem d_Md_musts_162 : decode prog_13_method_82_code 162 = .ok (.ireturn, 1) := by decide +kernel
theorem d_Md_musts_157 : decode prog_13_method_82_code 157 = .ok (.iload_n 3, 1) := by decide +kernel
theorem d_Md_musts_158 : decode prog_13_method_82_code 158 = .ok (.goto 4, 3) := by decide +kernel
theorem d_Md_musts_37 : decode prog_13_method_82_code 37 = .ok (.iconst 0, 1) := by decide +kernel
theorem d_Md_musts_38 : decode prog_13_method_82_code 38 = .ok (.ireturn, 1) := by decide +kernel
theorem d_Md_musts_16 : decode prog_13_method_82_code 16 = .ok (.iload_n 1, 1) := by decide +kernel
theorem d_Md_musts_17 : decode prog_13_method_82_code 17 = .ok (.bipush 10, 2) := by decide +kernel
theorem d_Md_musts_19 : decode prog_13_method_82_code 19 = .ok (.if_icmp .lt 7, 3) := by decide +kernel
theorem d_Md_musts_26 : decode prog_13_method_82_code 26 = .ok (.iconst 2, 1) := by decide +kernel
theorem d_Md_musts_8 : decode prog_13_method_82_code 8 = .ok (.iconst 1, 1) := by decide +kernel
theorem d_Md_musts_9 : decode prog_13_method_82_code 9 = .ok (.goto 18, 3) := by decide +kernel
theorem t_Md_musts_J118 {G : mG} {r : mR} {v0 v1 v2 v3 v4 v5 v6 v7 : Int} {h : mH} {R73 : mH → Int → Int → Int → Option mR} (hR73 : ∀ (h : mH) (w5 w6 w7 : Int) , R73 h w5 w6 w7 = some r → mJ G M_Md_musts 73 [(2, v0), (0, v1), (0, v2), (0, v3), (0, v4), (0, w5), (0, w6), (0, w7)] [] h r) (hr : f_Md_musts_J118 R73 v5 v6 v7 h = some r) : mJ G M_Md_musts 118 [(2, v0), (0, v1), (0, v2), (0, v3), (0, v4), (0, v5), (0, v6), (0, v7)] [] h r := by
  unfold f_Md_musts_J118 at hr
  refine j_iincW (pc := 118) (L := fun x1 => [(2, v0), (0, v1), (0, v2), (0, v3), (0, v4), (0, v5), (0, v6), (0, x1)]) d_Md_musts_118 rfl (fun _ => rfl) hr (fun x1 hr => ?_)
  refine j_goto (pc := 121) (tgt := 73) d_Md_musts_121 ?_
  exact mJ_weak (ls' := [(2, v0), (0, v1), (0, v2), (0, v3), (0, v4), (0, v5), (0, v6), (0, x1)]) (mwk_s (mwk_s (mwk_s (mwk_s (mwk_s (mwk_s (mwk_s (mwk_s mwk_n)))))))) (hR73 h _ _ _ hr)
theorem t_Md_musts_L73 {G : mG} {r : mR} {v0 v1 v2 v3 v4 : Int} {K124 : mH → Int → Int → Option mR} (hK124 : ∀ (h : mH) (w5 w6 : Int) , K124 h w5 w6 = some r → mJ G M_Md_musts 124 [(2, v0), (0, v1), (0, v2), (0, v3), (0, v4), (0, w5), (0, w6), (9, 0)] [] h r) : ∀ (n : Nat) (h : mH) (v5 v6 v7 : Int), f_Md_musts_L73 K124 v0 v2 v4 n h v5 v6 v7 = some r → mJ G M_Md_musts 73 [(2, v0), (0, v1), (0, v2), (0, v3), (0, v4), (0, v5), (0, v6), (0, v7)] [] h r := by
  intro n
  induction n with
  | zero =>
    intro h v5 v6 v7 hr
    rw [f_Md_musts_L73] at hr
    cases hr
  | succ n hR73 =>
    intro h v5 v6 v7 hr
    rw [f_Md_musts_L73] at hr
    refine j_iload (pc := 73) d_Md_musts_73 rfl ?_
    refine j_aload_n (pc := 75) d_Md_musts_75 rfl ?_
    obtain ⟨ha, hr⟩ := chk_some hr
    refine j_callG (pc := 76) (stk := [(2, v0), (0, v7)]) (as := [(2, v0)]) (P := (fun v9 => ((0 : Nat), v9) :: [(0, v7)])) (tg := 0) (My := M_Md_stands) (mRunV (as := []) (st := [(0, v7)]) d_Md_musts_76 (mc_Md_stands (by decide)) rfl (mv_Md_stands tb_ml_Md_219) rfl (Nat.le_of_ble_eq_true rfl) ha) (fun v => rfl) rfl hr (fun r1 h1 => t_Md_stands _ _ _ h1) (fun x2 h1 hr => ?_)
    refine j_icmp_ge (pc := 79) (tgt := 124) d_Md_musts_79 hr (fun hr => ?_) (fun hr => ?_)
    · exact mJ_weak (ls' := [(2, v0), (0, v1), (0, v2), (0, v3), (0, v4), (0, v5), (0, v6), (9, 0)]) (mwk_s (mwk_s (mwk_s (mwk_s (mwk_s (mwk_s (mwk_s (mwk_d mwk_n)))))))) (hK124 h1 _ _ hr)
    · refine j_aload_n (pc := 82) d_Md_musts_82 rfl ?_
      refine j_getf (pc := 83) d_Md_musts_83 (fd_Md_39 rfl) hr (fun hr => ?_)
      refine j_iload (pc := 86) d_Md_musts_86 rfl ?_
      refine j_iaload (pc := 88) d_Md_musts_88 hr (fun hr => ?_)
      refine j_iload (pc := 89) d_Md_musts_89 rfl ?_
      refine j_icmp_ne (pc := 91) (tgt := 118) d_Md_musts_91 hr (fun hr => ?_) (fun hr => ?_)
      · exact mJ_weak (ls' := [(2, v0), (0, v1), (0, v2), (0, v3), (0, v4), (0, v5), (0, v6), (0, v7)]) (mwk_s (mwk_s (mwk_s (mwk_s (mwk_s (mwk_s (mwk_s (mwk_s mwk_n)))))))) (t_Md_musts_J118 hR73 hr)
      · refine j_aload_n (pc := 94) d_Md_musts_94 rfl ?_
        refine j_getf (pc := 95) d_Md_musts_95 (fd_Md_52 rfl) hr (fun hr => ?_)
        refine j_iload (pc := 98) d_Md_musts_98 rfl ?_
        refine j_iaload (pc := 100) d_Md_musts_100 hr (fun hr => ?_)
        refine j_iload_n (pc := 101) d_Md_musts_101 rfl ?_
        refine j_iload (pc := 102) d_Md_musts_102 rfl ?_
        refine j_isub (pc := 104) d_Md_musts_104 ?_
        refine j_icmp_eq (pc := 105) (tgt := 111) d_Md_musts_105 hr (fun hr => ?_) (fun hr => ?_)
        · refine j_iincW (pc := 111) (L := fun x3 => [(2, v0), (0, v1), (0, v2), (0, v3), (0, v4), (0, x3), (0, v6), (0, v7)]) d_Md_musts_111 rfl (fun _ => rfl) hr (fun x3 hr => ?_)
          refine j_iload (pc := 114) d_Md_musts_114 rfl ?_
          refine j_istore (pc := 116) (ls' := [(2, v0), (0, v1), (0, v2), (0, v3), (0, v4), (0, x3), (0, v7), (0, v7)]) d_Md_musts_116 rfl ?_
          exact mJ_weak (ls' := [(2, v0), (0, v1), (0, v2), (0, v3), (0, v4), (0, x3), (0, v7), (0, v7)]) (mwk_s (mwk_s (mwk_s (mwk_s (mwk_s (mwk_s (mwk_s (mwk_s mwk_n)))))))) (t_Md_musts_J118 hR73 hr)
        · refine j_goto (pc := 108) (tgt := 118) d_Md_musts_108 ?_
          exact mJ_weak (ls' := [(2, v0), (0, v1), (0, v2), (0, v3), (0, v4), (0, v5), (0, v6), (0, v7)]) (mwk_s (mwk_s (mwk_s (mwk_s (mwk_s (mwk_s (mwk_s (mwk_s mwk_n)))))))) (t_Md_musts_J118 hR73 hr)
theorem t_Md_musts_J147 {G : mG} {r : mR} {v0 v1 v2 v3 v4 : Int} {h : mH} {R58 : mH → Int → Int → Option mR} (hR58 : ∀ (h : mH) (w3 w4 : Int) , R58 h w3 w4 = some r → mJ G M_Md_musts 58 [(2, v0), (0, v1), (0, v2), (0, w3), (0, w4), (9, 0), (9, 0), (9, 0)] [] h r) (hr : f_Md_musts_J147 R58 v3 v4 h = some r) : mJ G M_Md_musts 147 [(2, v0), (0, v1), (0, v2), (0, v3), (0, v4), (9, 0), (9, 0), (9, 0)] [] h r := by
  unfold f_Md_musts_J147 at hr
  refine j_iincW (pc := 147) (L := fun x1 => [(2, v0), (0, v1), (0, v2), (0, v3), (0, x1), (9, 0), (9, 0), (9, 0)]) d_Md_musts_147 rfl (fun _ => rfl) hr (fun x1 hr => ?_)
  refine j_goto (pc := 150) (tgt := 58) d_Md_musts_150 ?_
  exact mJ_weak (ls' := [(2, v0), (0, v1), (0, v2), (0, v3), (0, x1), (9, 0), (9, 0), (9, 0)]) (mwk_s (mwk_s (mwk_s (mwk_s (mwk_s (mwk_s (mwk_s (mwk_s mwk_n)))))))) (hR58 h _ _ hr)
theorem t_Md_musts_L58 {G : mG} {r : mR} {v0 v1 v2 : Int} {K153 : mH → Int → Option mR} (hK153 : ∀ (h : mH) (w3 : Int) , K153 h w3 = some r → mJ G M_Md_musts 153 [(9, 0), (0, v1), (9, 0), (0, w3), (9, 0), (9, 0), (9, 0), (9, 0)] [] h r) : ∀ (n : Nat) (h : mH) (v3 v4 : Int), f_Md_musts_L58 K153 v0 v1 v2 n h v3 v4 = some r → mJ G M_Md_musts 58 [(2, v0), (0, v1), (0, v2), (0, v3), (0, v4), (9, 0), (9, 0), (9, 0)] [] h r := by
  intro n
  induction n with
  | zero =>
    intro h v3 v4 hr
    rw [f_Md_musts_L58] at hr
    cases hr
  | succ n hR58 =>
    intro h v3 v4 hr
    rw [f_Md_musts_L58] at hr
    refine j_iload (pc := 58) d_Md_musts_58 rfl ?_
    refine j_iload_n (pc := 60) d_Md_musts_60 rfl ?_
    refine j_icmp_gt (pc := 61) (tgt := 153) d_Md_musts_61 hr (fun hr => ?_) (fun hr => ?_)
    · exact mJ_weak (ls' := [(9, 0), (0, v1), (9, 0), (0, v3), (9, 0), (9, 0), (9, 0), (9, 0)]) (mwk_d (mwk_s (mwk_d (mwk_s (mwk_d (mwk_s (mwk_s (mwk_s mwk_n)))))))) (hK153 h _ hr)
    · refine j_iconst (pc := 64) d_Md_musts_64 ?_
      refine j_istore (pc := 65) (ls' := [(2, v0), (0, v1), (0, v2), (0, v3), (0, v4), (0, 0), (9, 0), (9, 0)]) d_Md_musts_65 rfl ?_
      refine j_iconst (pc := 67) d_Md_musts_67 ?_
      refine j_istore (pc := 68) (ls' := [(2, v0), (0, v1), (0, v2), (0, v3), (0, v4), (0, 0), (0, (-1)), (9, 0)]) d_Md_musts_68 rfl ?_
      refine j_iconst (pc := 70) d_Md_musts_70 ?_
      refine j_istore (pc := 71) (ls' := [(2, v0), (0, v1), (0, v2), (0, v3), (0, v4), (0, 0), (0, (-1)), (0, 0)]) d_Md_musts_71 rfl ?_
      refine mJ_weak (ls' := [(2, v0), (0, v1), (0, v2), (0, v3), (0, v4), (0, 0), (0, (-1)), (0, 0)]) (mwk_s (mwk_s (mwk_s (mwk_s (mwk_s (mwk_s (mwk_s (mwk_s mwk_n)))))))) (t_Md_musts_L73 (fun h1 x2 x3 hr => ?_) _ _ _ _ _ hr)
      · refine j_iload (pc := 124) d_Md_musts_124 rfl ?_
        refine j_iconst (pc := 126) d_Md_musts_126 ?_
        refine j_icmp_eq (pc := 127) (tgt := 133) d_Md_musts_127 hr (fun hr => ?_) (fun hr => ?_)
        · refine j_iload_n (pc := 133) d_Md_musts_133 rfl ?_
          refine j_bipush (pc := 134) d_Md_musts_134 ?_
          refine j_iload_n (pc := 136) d_Md_musts_136 rfl ?_
          refine j_iadd (pc := 137) d_Md_musts_137 ?_
          refine j_icmp_ne (pc := 138) (tgt := 144) d_Md_musts_138 hr (fun hr => ?_) (fun hr => ?_)
          · refine j_iincW (pc := 144) (L := fun x4 => [(2, v0), (0, v1), (0, v2), (0, x4), (0, v4), (0, x2), (0, x3), (9, 0)]) d_Md_musts_144 rfl (fun _ => rfl) hr (fun x4 hr => ?_)
            exact mJ_weak (ls' := [(2, v0), (0, v1), (0, v2), (0, x4), (0, v4), (9, 0), (9, 0), (9, 0)]) (mwk_s (mwk_s (mwk_s (mwk_s (mwk_s (mwk_d (mwk_d (mwk_s mwk_n)))))))) (t_Md_musts_J147 hR58 hr)
          · refine j_iload (pc := 141) d_Md_musts_141 rfl ?_
            exact j_iret (pc := 143) d_Md_musts_143 rfl hr
        · refine j_goto (pc := 130) (tgt := 147) d_Md_musts_130 ?_
          exact mJ_weak (ls' := [(2, v0), (0, v1), (0, v2), (0, v3), (0, v4), (9, 0), (9, 0), (9, 0)]) (mwk_s (mwk_s (mwk_s (mwk_s (mwk_s (mwk_d (mwk_d (mwk_s mwk_n)))))))) (t_Md_musts_J147 hR58 hr)
theorem t_Md_musts_J27 {G : mG} {r : mR} {v0 v1 s0 s1 : Int} {h : mH}  (hr : f_Md_musts_J27 v0 v1 s0 s1 h = some r) : mJ G M_Md_musts 27 [(2, v0), (0, v1), (9, 0), (9, 0), (9, 0), (9, 0), (9, 0), (9, 0)] [(0, s1), (2, s0)] h r := by
  unfold f_Md_musts_J27 at hr
  refine j_puti (pc := 27) d_Md_musts_27 (fd_Md_86 rfl) (⟨_, _, _, rfl, Or.inl rfl, rfl⟩ : mFldW M_Md_musts 86 11 5 .int) hr (fun h1 hr => ?_)
  refine j_aload_n (pc := 30) d_Md_musts_30 rfl ?_
  refine j_getf (pc := 31) d_Md_musts_31 (fd_Md_86 rfl) hr (fun hr => ?_)
  refine j_if_le (pc := 34) (tgt := 39) d_Md_musts_34 hr (fun hr => ?_) (fun hr => ?_)
  · refine j_aload_n (pc := 39) d_Md_musts_39 rfl ?_
    obtain ⟨ha, hr⟩ := chk_some hr
    refine j_callG (pc := 40) (stk := [(2, v0)]) (as := [(2, v0)]) (P := (fun v9 => [])) (tg := 3) (My := M_Md_laysBoth) (mRunV (as := []) (st := []) d_Md_musts_40 (mc_Md_laysBoth (by decide)) rfl (mv_Md_laysBoth tb_ml_Md_346) rfl (Nat.le_of_ble_eq_true rfl) ha) (fun v => rfl) rfl hr (fun r1 h1 => t_Md_laysBoth _ _ _ h1) (fun x3 h2 hr => ?_)
    refine j_aload_n (pc := 43) d_Md_musts_43 rfl ?_
    refine j_getf (pc := 44) d_Md_musts_44 (fd_Md_39 rfl) hr (fun hr => ?_)
    refine j_aload_n (pc := 47) d_Md_musts_47 rfl ?_
    obtain ⟨ha, hr⟩ := chk_some hr
    refine j_callG (pc := 48) (stk := [(2, v0), (2, hpV h2 v0 22)]) (as := [(2, v0)]) (P := (fun v9 => ((0 : Nat), v9) :: [(2, hpV h2 v0 22)])) (tg := 0) (My := M_Md_openStand) (mRunV (as := []) (st := [(2, hpV h2 v0 22)]) d_Md_musts_48 (mc_Md_openStand (by decide)) rfl (mv_Md_openStand tb_ml_Md_341) rfl (Nat.le_of_ble_eq_true rfl) ha) (fun v => rfl) rfl hr (fun r1 h1 => t_Md_openStand _ _ _ h1) (fun x5 h4 hr => ?_)
    refine j_iaload (pc := 51) d_Md_musts_51 hr (fun hr => ?_)
    refine j_istoreW_n (pc := 52) (L := fun x6 => [(2, v0), (0, v1), (0, x6), (9, 0), (9, 0), (9, 0), (9, 0), (9, 0)]) d_Md_musts_52 (fun _ => rfl) hr (fun x6 hr => ?_)
    refine j_iconst (pc := 53) d_Md_musts_53 ?_
    refine j_istore_n (pc := 54) (ls' := [(2, v0), (0, v1), (0, x6), (0, 0), (9, 0), (9, 0), (9, 0), (9, 0)]) d_Md_musts_54 rfl ?_
    refine j_iconst (pc := 55) d_Md_musts_55 ?_
    refine j_istore (pc := 56) (ls' := [(2, v0), (0, v1), (0, x6), (0, 0), (0, 0), (9, 0), (9, 0), (9, 0)]) d_Md_musts_56 rfl ?_
    refine mJ_weak (ls' := [(2, v0), (0, v1), (0, x6), (0, 0), (0, 0), (9, 0), (9, 0), (9, 0)]) (mwk_s (mwk_s (mwk_s (mwk_s (mwk_s (mwk_s (mwk_s (mwk_s mwk_n)))))))) (t_Md_musts_L58 (fun h7 x8 hr => ?_) _ _ _ _ hr)
    · refine j_iload_n (pc := 153) d_Md_musts_153 rfl ?_
      refine j_if_ne (pc := 154) (tgt := 161) d_Md_musts_154 hr (fun hr => ?_) (fun hr => ?_)
      · refine j_iconst (pc := 161) d_Md_musts_161 ?_
        exact j_iret (pc := 162) d_Md_musts_162 rfl hr
      · refine j_iload_n (pc := 157) d_Md_musts_157 rfl ?_
        refine j_goto (pc := 158) (tgt := 162) d_Md_musts_158 ?_
        exact j_iret (pc := 162) d_Md_musts_162 rfl hr
  · refine j_iconst (pc := 37) d_Md_musts_37 ?_
    exact j_iret (pc := 38) d_Md_musts_38 rfl hr
theorem t_Md_musts_J22 {G : mG} {r : mR} {v0 v1 s0 : Int} {h : mH}  (hr : f_Md_musts_J22 v0 v1 s0 h = some r) : mJ G M_Md_musts 22 [(2, v0), (0, v1), (9, 0), (9, 0), (9, 0), (9, 0), (9, 0), (9, 0)] [(2, s0)] h r := by
  unfold f_Md_musts_J22 at hr
  refine j_iconst (pc := 22) d_Md_musts_22 ?_
  refine j_goto (pc := 23) (tgt := 27) d_Md_musts_23 ?_
  exact mJ_weak (ls' := [(2, v0), (0, v1), (9, 0), (9, 0), (9, 0), (9, 0), (9, 0), (9, 0)]) (mwk_s (mwk_s (mwk_s (mwk_s (mwk_s (mwk_s (mwk_s (mwk_s mwk_n)))))))) (t_Md_musts_J27  hr)
theorem t_Md_musts {G : mG} (h : mH) (v0 v1 : Int) (r : mR) (hr : f_Md_musts h v0 v1 = some r) : mJM G M_Md_musts [(2, v0), (0, v1)] h r := by
  refine mJM_of (L := [(2, v0), (0, v1), (9, 0), (9, 0), (9, 0), (9, 0), (9, 0), (9, 0)]) rfl rfl rfl (Nat.le_of_ble_eq_true rfl) ?_
  unfold f_Md_musts at hr
  refine j_aload_n (pc := 0) d_Md_musts_0 rfl ?_
  refine j_aload_n (pc := 1) d_Md_musts_1 rfl ?_
  obtain ⟨ha, hr⟩ := chk_some hr
  refine j_callG (pc := 2) (stk := [(2, v0), (2, v0)]) (as := [(2, v0)]) (P := (fun v9 => ((0 : Nat), v9) :: [(2, v0)])) (tg := 0) (My := M_Md_isSpent) (mRunV (as := []) (st := [(2, v0)]) d_Md_musts_2 (mc_Md_isSpent (by decide)) rfl (mv_Md_isSpent tb_ml_Md_261) rfl (Nat.le_of_ble_eq_true rfl) ha) (fun v => rfl) rfl hr (fun r1 h1 => t_Md_isSpent _ _ _ h1) (fun x2 h1 hr => ?_)
  refine j_if_eq (pc := 5) (tgt := 12) d_Md_musts_5 hr (fun hr => ?_) (fun hr => ?_)
  · refine j_iload_n (pc := 12) d_Md_musts_12 rfl ?_
    refine j_if_eq (pc := 13) (tgt := 22) d_Md_musts_13 hr (fun hr => ?_) (fun hr => ?_)
    · exact mJ_weak (ls' := [(2, v0), (0, v1), (9, 0), (9, 0), (9, 0), (9, 0), (9, 0), (9, 0)]) (mwk_s (mwk_s (mwk_s (mwk_s (mwk_s (mwk_s (mwk_s (mwk_s mwk_n)))))))) (t_Md_musts_J22  hr)
    · refine j_iload_n (pc := 16) d_Md_musts_16 rfl ?_
      refine j_bipush (pc := 17) d_Md_musts_17 ?_
      refine j_icmp_lt (pc := 19) (tgt := 26) d_Md_musts_19 hr (fun hr => ?_) (fun hr => ?_)
      · refine j_iconst (pc := 26) d_Md_musts_26 ?_
        exact mJ_weak (ls' := [(2, v0), (0, v1), (9, 0), (9, 0), (9, 0), (9, 0), (9, 0), (9, 0)]) (mwk_s (mwk_s (mwk_s (mwk_s (mwk_s (mwk_s (mwk_s (mwk_s mwk_n)))))))) (t_Md_musts_J27  hr)
      · exact mJ_weak (ls' := [(2, v0), (0, v1), (9, 0), (9, 0), (9, 0), (9, 0), (9, 0), (9, 0)]) (mwk_s (mwk_s (mwk_s (mwk_s (mwk_s (mwk_s (mwk_s (mwk_s mwk_n)))))))) (t_Md_musts_J22  hr)
  · refine j_iconst (pc := 8) d_Md_musts_8 ?_
    refine j_goto (pc := 9) (tgt := 27) d_Md_musts_9 ?_
    exact mJ_weak (ls' := [(2, v0), (0, v1), (9, 0), (9, 0), (9, 0), (9, 0), (9, 0), (9, 0)]) (mwk_s (mwk_s (mwk_s (mwk_s (mwk_s (mwk_s (mwk_s (mwk_s mwk_n)))))))) (t_Md_musts_J27  hr)
