def M_Md_asTold (d : Nat) : mM := ("NineBarsModel", ⟨"NineBarsModel", "asTold", "(IIII)J"⟩, prog_13_method_97_code, 9, some .long, [], 9 + d)
theorem tb_co_Md_asTold : mTB (Cond.code ⟨"NineBarsModel", "asTold", "(IIII)J"⟩ prog_13_method_97_code 9 (some .long)) := tbq9 18 (by decide +kernel) rfl
theorem mc_Md_asTold {M : mM} {d : Nat} (hd : 9 + d < mDp M) : mCal M (M_Md_asTold d) 4 := ⟨tb_co_Md_asTold, tb_in_NineBarsModel, ⟨show ("NineBarsModel" : String) ≠ "java/lang/invoke/MethodHandle" by decide +kernel, show ("NineBarsModel" : String) ≠ "java/lang/invoke/VarHandle" by decide +kernel⟩, show (parseMethodDescriptor "(IIII)J").map (fun d => d.parameters.length) = some 4 by decide +kernel, hd, show 9 ≤ 60 by decide⟩
theorem d_Md_asTold_0 : decode prog_13_method_97_code 0 = .ok (.iload_n 2, 1) := by decide +kernel
theorem d_Md_asTold_1 : decode prog_13_method_97_code 1 = .ok (.aload_n 0, 1) := by decide +kernel
theorem tb_fl_Md_386 : mTB (Cond.fieldLink "NineBarsModel" 386 "NineBarsModel" "verseMany" "I") := tbq6 239 (by decide +kernel) rfl
theorem fd_Md_386 {M : mM} (h : mO M = "NineBarsModel") : mFld M 386 11 32 0 := ⟨_, _, _, tyX11, rfl, by decide, by decide, rfl, uw_11, tyX11_ok, nmX11, by rw [h]; exact Or.inl tb_fl_Md_386⟩
theorem d_Md_asTold_2 : decode prog_13_method_97_code 2 = .ok (.getfield 386, 3) := by decide +kernel
theorem d_Md_asTold_5 : decode prog_13_method_97_code 5 = .ok (.if_icmp .ne 17, 3) := by decide +kernel
theorem d_Md_asTold_22 : decode prog_13_method_97_code 22 = .ok (.iload_n 2, 1) := by decide +kernel
theorem d_Md_asTold_23 : decode prog_13_method_97_code 23 = .ok (.iload_n 3, 1) := by decide +kernel
theorem d_Md_asTold_24 : decode prog_13_method_97_code 24 = .ok (.if_icmp .eq 49, 3) := by decide +kernel
theorem d_Md_asTold_73 : decode prog_13_method_97_code 73 = .ok (.lconst 0, 1) := by decide +kernel
theorem d_Md_asTold_74 : decode prog_13_method_97_code 74 = .ok (.lstore 5, 2) := by decide +kernel
theorem d_Md_asTold_76 : decode prog_13_method_97_code 76 = .ok (.iconst 0, 1) := by decide +kernel
theorem d_Md_asTold_77 : decode prog_13_method_97_code 77 = .ok (.istore 7, 2) := by decide +kernel
theorem d_Md_asTold_79 : decode prog_13_method_97_code 79 = .ok (.iload 7, 2) := by decide +kernel
theorem d_Md_asTold_81 : decode prog_13_method_97_code 81 = .ok (.aload_n 0, 1) := by decide +kernel
theorem d_Md_asTold_82 : decode prog_13_method_97_code 82 = .ok (.invokevirtual 319, 3) := by decide +kernel
theorem d_Md_asTold_85 : decode prog_13_method_97_code 85 = .ok (.if_icmp .ge 45, 3) := by decide +kernel
theorem d_Md_asTold_130 : decode prog_13_method_97_code 130 = .ok (.lload 5, 2) := by decide +kernel
theorem d_Md_asTold_132 : decode prog_13_method_97_code 132 = .ok (.lreturn, 1) := by decide +kernel
theorem d_Md_asTold_88 : decode prog_13_method_97_code 88 = .ok (.aload_n 0, 1) := by decide +kernel
theorem d_Md_asTold_89 : decode prog_13_method_97_code 89 = .ok (.iload_n 1, 1) := by decide +kernel
theorem d_Md_asTold_90 : decode prog_13_method_97_code 90 = .ok (.iload 7, 2) := by decide +kernel
theorem d_Md_asTold_92 : decode prog_13_method_97_code 92 = .ok (.aload_n 0, 1) := by decide +kernel
theorem d_Md_asTold_93 : decode prog_13_method_97_code 93 = .ok (.invokevirtual 244, 3) := by decide +kernel
theorem d_Md_asTold_96 : decode prog_13_method_97_code 96 = .ok (.invokevirtual 322, 3) := by decide +kernel
theorem d_Md_asTold_99 : decode prog_13_method_97_code 99 = .ok (.istore 8, 2) := by decide +kernel
theorem d_Md_asTold_101 : decode prog_13_method_97_code 101 = .ok (.iload 8, 2) := by decide +kernel
theorem d_Md_asTold_103 : decode prog_13_method_97_code 103 = .ok (.iconst (-1), 1) := by decide +kernel
theorem d_Md_asTold_104 : decode prog_13_method_97_code 104 = .ok (.if_icmp .eq 20, 3) := by decide +kernel
theorem d_Md_asTold_124 : decode prog_13_method_97_code 124 = .ok (.iinc 7 1, 3) := by decide +kernel
theorem d_Md_asTold_127 : decode prog_13_method_97_code 127 = .ok (.goto (-48), 3) := by decide +kernel
theorem d_Md_asTold_107 : decode prog_13_method_97_code 107 = .ok (.lload 5, 2) := by decide +kernel
theorem d_Md_asTold_109 : decode prog_13_method_97_code 109 = .ok (.aload_n 0, 1) := by decide +kernel
theorem d_Md_asTold_110 : decode prog_13_method_97_code 110 = .ok (.iload 8, 2) := by decide +kernel
theorem d_Md_asTold_112 : decode prog_13_method_97_code 112 = .ok (.iload_n 2, 1) := by decide +kernel
theorem d_Md_asTold_113 : decode prog_13_method_97_code 113 = .ok (.iconst 1, 1) := by decide +kernel
theorem d_Md_asTold_114 : decode prog_13_method_97_code 114 = .ok (.iadd, 1) := by decide +kernel
theorem d_Md_asTold_115 : decode prog_13_method_97_code 115 = .ok (.iload_n 3, 1) := by decide +kernel
theorem d_Md_asTold_116 : decode prog_13_method_97_code 116 = .ok (.iload 4, 2) := by decide +kernel
theorem d_Md_asTold_118 : decode prog_13_method_97_code 118 = .ok (.invokevirtual 389, 3) := by decide +kernel
theorem tb_ml_Md_389 : mTB (Cond.methodLink "NineBarsModel" 389 ⟨"NineBarsModel", "asTold", "(IIII)J"⟩) := tbq9 15 (by decide +kernel) rfl
theorem tb_im_Md_asTold : mTB (Cond.instanceMethod ⟨"NineBarsModel", "asTold", "(IIII)J"⟩) := tbq9 17 (by decide +kernel) rfl
theorem tb_se_Md_asTold : mTB (Cond.selects "NineBarsModel" ⟨"NineBarsModel", "asTold", "(IIII)J"⟩ ⟨"NineBarsModel", "asTold", "(IIII)J"⟩) := tbqp 101 (by decide +kernel) rfl
theorem mv_Md_asTold {M : mM} {idx : Nat} {d : Nat} (h : mTB (Cond.methodLink (mO M) idx ⟨"NineBarsModel", "asTold", "(IIII)J"⟩)) : mCaV M (M_Md_asTold d) idx 11 := ⟨h, tb_im_Md_asTold, tb_se_Md_asTold, by decide, TX11, 40, rfl⟩
theorem d_Md_asTold_121 : decode prog_13_method_97_code 121 = .ok (.ladd, 1) := by decide +kernel
theorem d_Md_asTold_122 : decode prog_13_method_97_code 122 = .ok (.lstore 5, 2) := by decide +kernel
theorem d_Md_asTold_27 : decode prog_13_method_97_code 27 = .ok (.iload_n 2, 1) := by decide +kernel
theorem d_Md_asTold_28 : decode prog_13_method_97_code 28 = .ok (.iload 4, 2) := by decide +kernel
theorem d_Md_asTold_30 : decode prog_13_method_97_code 30 = .ok (.if_icmp .eq 43, 3) := by decide +kernel
theorem d_Md_asTold_33 : decode prog_13_method_97_code 33 = .ok (.aload_n 0, 1) := by decide +kernel
theorem d_Md_asTold_34 : decode prog_13_method_97_code 34 = .ok (.iload_n 1, 1) := by decide +kernel
theorem d_Md_asTold_35 : decode prog_13_method_97_code 35 = .ok (.aload_n 0, 1) := by decide +kernel
theorem d_Md_asTold_36 : decode prog_13_method_97_code 36 = .ok (.getfield 62, 3) := by decide +kernel
theorem d_Md_asTold_39 : decode prog_13_method_97_code 39 = .ok (.iload_n 2, 1) := by decide +kernel
theorem d_Md_asTold_40 : decode prog_13_method_97_code 40 = .ok (.iaload, 1) := by decide +kernel
theorem d_Md_asTold_41 : decode prog_13_method_97_code 41 = .ok (.aload_n 0, 1) := by decide +kernel
theorem d_Md_asTold_42 : decode prog_13_method_97_code 42 = .ok (.invokevirtual 244, 3) := by decide +kernel
theorem d_Md_asTold_45 : decode prog_13_method_97_code 45 = .ok (.invokevirtual 322, 3) := by decide +kernel
theorem d_Md_asTold_48 : decode prog_13_method_97_code 48 = .ok (.istore 5, 2) := by decide +kernel
theorem d_Md_asTold_50 : decode prog_13_method_97_code 50 = .ok (.iload 5, 2) := by decide +kernel
theorem d_Md_asTold_52 : decode prog_13_method_97_code 52 = .ok (.iconst (-1), 1) := by decide +kernel
theorem d_Md_asTold_53 : decode prog_13_method_97_code 53 = .ok (.if_icmp .ne 7, 3) := by decide +kernel
theorem d_Md_asTold_60 : decode prog_13_method_97_code 60 = .ok (.aload_n 0, 1) := by decide +kernel
theorem d_Md_asTold_61 : decode prog_13_method_97_code 61 = .ok (.iload 5, 2) := by decide +kernel
theorem d_Md_asTold_63 : decode prog_13_method_97_code 63 = .ok (.iload_n 2, 1) := by decide +kernel
theorem d_Md_asTold_64 : decode prog_13_method_97_code 64 = .ok (.iconst 1, 1) := by decide +kernel
theorem d_Md_asTold_65 : decode prog_13_method_97_code 65 = .ok (.iadd, 1) := by decide +kernel
theorem d_Md_asTold_66 : decode prog_13_method_97_code 66 = .ok (.iload_n 3, 1) := by decide +kernel
theorem d_Md_asTold_67 : decode prog_13_method_97_code 67 = .ok (.iload 4, 2) := by decide +kernel
theorem d_Md_asTold_69 : decode prog_13_method_97_code 69 = .ok (.invokevirtual 389, 3) := by decide +kernel
theorem d_Md_asTold_72 : decode prog_13_method_97_code 72 = .ok (.lreturn, 1) := by decide +kernel
theorem d_Md_asTold_56 : decode prog_13_method_97_code 56 = .ok (.lconst 0, 1) := by decide +kernel
theorem d_Md_asTold_57 : decode prog_13_method_97_code 57 = .ok (.goto 15, 3) := by decide +kernel
theorem d_Md_asTold_8 : decode prog_13_method_97_code 8 = .ok (.iload_n 1, 1) := by decide +kernel
theorem d_Md_asTold_9 : decode prog_13_method_97_code 9 = .ok (.aload_n 0, 1) := by decide +kernel
theorem d_Md_asTold_10 : decode prog_13_method_97_code 10 = .ok (.invokevirtual 341, 3) := by decide +kernel
theorem d_Md_asTold_13 : decode prog_13_method_97_code 13 = .ok (.if_icmp .ne 7, 3) := by decide +kernel
theorem d_Md_asTold_20 : decode prog_13_method_97_code 20 = .ok (.lconst 0, 1) := by decide +kernel
theorem d_Md_asTold_21 : decode prog_13_method_97_code 21 = .ok (.lreturn, 1) := by decide +kernel
theorem d_Md_asTold_16 : decode prog_13_method_97_code 16 = .ok (.lconst 1, 1) := by decide +kernel
theorem d_Md_asTold_17 : decode prog_13_method_97_code 17 = .ok (.goto 4, 3) := by decide +kernel
theorem t_Md_asTold_J124 {G : mG} {d : Nat} {r : mR} {v0 v1 v2 v3 v4 v5 v7 : Int} {h : mH} {R79 : mH → Int → Int → Option mR} (hR79 : ∀ (h : mH) (w5 w7 : Int) , R79 h w5 w7 = some r → mJ G (M_Md_asTold (d + 1)) 79 [(2, v0), (0, v1), (0, v2), (0, v3), (0, v4), (1, w5), (9, 0), (0, w7), (9, 0)] [] h r) (hr : f_Md_asTold_J124 R79 v5 v7 h = some r) : mJ G (M_Md_asTold (d + 1)) 124 [(2, v0), (0, v1), (0, v2), (0, v3), (0, v4), (1, v5), (9, 0), (0, v7), (9, 0)] [] h r := by
  unfold f_Md_asTold_J124 at hr
  refine j_iincW (pc := 124) (L := fun x1 => [(2, v0), (0, v1), (0, v2), (0, v3), (0, v4), (1, v5), (9, 0), (0, x1), (9, 0)]) d_Md_asTold_124 rfl (fun _ => rfl) hr (fun x1 hr => ?_)
  refine j_goto (pc := 127) (tgt := 79) d_Md_asTold_127 ?_
  exact mJ_weak (ls' := [(2, v0), (0, v1), (0, v2), (0, v3), (0, v4), (1, v5), (9, 0), (0, x1), (9, 0)]) (mwk_s (mwk_s (mwk_s (mwk_s (mwk_s (mwk_s (mwk_s (mwk_s (mwk_s mwk_n))))))))) (hR79 h _ _ hr)
theorem t_Md_asTold_L79 {G : mG} {d : Nat} {r : mR} {v0 v1 v2 v3 v4 : Int} {S : mH → Int → Int → Int → Int → Int → Option mR} (hS : ∀ (h : mH) (a0 a1 a2 a3 a4 : Int) (r : mR), S h a0 a1 a2 a3 a4 = some r → mJM G (M_Md_asTold d) [(2, a0), (0, a1), (0, a2), (0, a3), (0, a4)] h r) : ∀ (n : Nat) (h : mH) (v5 v7 : Int), f_Md_asTold_L79 S v0 v1 v2 v3 v4 n h v5 v7 = some r → mJ G (M_Md_asTold (d + 1)) 79 [(2, v0), (0, v1), (0, v2), (0, v3), (0, v4), (1, v5), (9, 0), (0, v7), (9, 0)] [] h r := by
  intro n
  induction n with
  | zero =>
    intro h v5 v7 hr
    rw [f_Md_asTold_L79] at hr
    cases hr
  | succ n hR79 =>
    intro h v5 v7 hr
    rw [f_Md_asTold_L79] at hr
    refine j_iload (pc := 79) d_Md_asTold_79 rfl ?_
    refine j_aload_n (pc := 81) d_Md_asTold_81 rfl ?_
    obtain ⟨ha, hr⟩ := chk_some hr
    refine j_callG (pc := 82) (stk := [(2, v0), (0, v7)]) (as := [(2, v0)]) (P := (fun v9 => ((0 : Nat), v9) :: [(0, v7)])) (tg := 0) (My := M_Md_steps) (mRunV (as := []) (st := [(0, v7)]) d_Md_asTold_82 (mc_Md_steps (Nat.lt_of_lt_of_le (by decide : 3 < 9) (Nat.le_add_right 9 (d + 1)))) rfl (mv_Md_steps tb_ml_Md_319) rfl (Nat.le_of_ble_eq_true rfl) ha) (fun v => rfl) rfl hr (fun r1 h1 => t_Md_steps _ _ _ h1) (fun x2 h1 hr => ?_)
    refine j_icmp_ge (pc := 85) (tgt := 130) d_Md_asTold_85 hr (fun hr => ?_) (fun hr => ?_)
    · refine j_lload (pc := 130) d_Md_asTold_130 rfl ?_
      exact j_lret (pc := 132) d_Md_asTold_132 rfl hr
    · refine j_aload_n (pc := 88) d_Md_asTold_88 rfl ?_
      refine j_iload_n (pc := 89) d_Md_asTold_89 rfl ?_
      refine j_iload (pc := 90) d_Md_asTold_90 rfl ?_
      refine j_aload_n (pc := 92) d_Md_asTold_92 rfl ?_
      obtain ⟨ha, hr⟩ := chk_some hr
      refine j_callG (pc := 93) (stk := [(2, v0), (0, v7), (0, v1), (2, v0)]) (as := [(2, v0)]) (P := (fun v9 => ((0 : Nat), v9) :: [(0, v7), (0, v1), (2, v0)])) (tg := 0) (My := M_Md_worn) (mRunV (as := []) (st := [(0, v7), (0, v1), (2, v0)]) d_Md_asTold_93 (mc_Md_worn (Nat.lt_of_lt_of_le (by decide : 5 < 9) (Nat.le_add_right 9 (d + 1)))) rfl (mv_Md_worn tb_ml_Md_244) rfl (Nat.le_of_ble_eq_true rfl) ha) (fun v => rfl) rfl hr (fun r1 h1 => t_Md_worn _ _ _ h1) (fun x4 h3 hr => ?_)
      obtain ⟨ha, hr⟩ := chk_some hr
      refine j_callG (pc := 96) (stk := [(0, x4), (0, v7), (0, v1), (2, v0)]) (as := [(2, v0), (0, v1), (0, v7), (0, x4)]) (P := (fun v9 => ((0 : Nat), v9) :: [])) (tg := 0) (My := M_Md_then) (mRunV (as := [(0, v1), (0, v7), (0, x4)]) (st := []) d_Md_asTold_96 (mc_Md_then (Nat.lt_of_lt_of_le (by decide : 7 < 9) (Nat.le_add_right 9 (d + 1)))) rfl (mv_Md_then tb_ml_Md_322) rfl (Nat.le_of_ble_eq_true rfl) ha) (fun v => rfl) rfl hr (fun r1 h1 => t_Md_then _ _ _ _ _ _ h1) (fun x6 h5 hr => ?_)
      refine j_istore (pc := 99) (ls' := [(2, v0), (0, v1), (0, v2), (0, v3), (0, v4), (1, v5), (9, 0), (0, v7), (0, x6)]) d_Md_asTold_99 rfl ?_
      refine j_iload (pc := 101) d_Md_asTold_101 rfl ?_
      refine j_iconst (pc := 103) d_Md_asTold_103 ?_
      refine j_icmp_eq (pc := 104) (tgt := 124) d_Md_asTold_104 hr (fun hr => ?_) (fun hr => ?_)
      · exact mJ_weak (ls' := [(2, v0), (0, v1), (0, v2), (0, v3), (0, v4), (1, v5), (9, 0), (0, v7), (9, 0)]) (mwk_s (mwk_s (mwk_s (mwk_s (mwk_s (mwk_s (mwk_s (mwk_s (mwk_d mwk_n))))))))) (t_Md_asTold_J124 hR79 hr)
      · refine j_lload (pc := 107) d_Md_asTold_107 rfl ?_
        refine j_aload_n (pc := 109) d_Md_asTold_109 rfl ?_
        refine j_iload (pc := 110) d_Md_asTold_110 rfl ?_
        refine j_iload_n (pc := 112) d_Md_asTold_112 rfl ?_
        refine j_iconst (pc := 113) d_Md_asTold_113 ?_
        refine j_iadd (pc := 114) d_Md_asTold_114 ?_
        refine j_iload_n (pc := 115) d_Md_asTold_115 rfl ?_
        refine j_iload (pc := 116) d_Md_asTold_116 rfl ?_
        obtain ⟨ha, hr⟩ := chk_some hr
        refine j_callG (pc := 118) (stk := [(0, v4), (0, v3), (0, w32 (v2 + 1)), (0, x6), (2, v0), (1, v5)]) (as := [(2, v0), (0, x6), (0, w32 (v2 + 1)), (0, v3), (0, v4)]) (P := (fun v9 => ((1 : Nat), v9) :: [(1, v5)])) (tg := 1) (My := (M_Md_asTold d)) (mRunV (as := [(0, x6), (0, w32 (v2 + 1)), (0, v3), (0, v4)]) (st := [(1, v5)]) d_Md_asTold_118 (mc_Md_asTold (d := d) (Nat.lt_succ_self _)) rfl (mv_Md_asTold tb_ml_Md_389) rfl (Nat.le_of_ble_eq_true rfl) ha) (fun v => rfl) rfl hr (fun r1 h1 => hS _ _ _ _ _ _ _ h1) (fun x8 h7 hr => ?_)
        refine j_ladd (pc := 121) d_Md_asTold_121 ?_
        refine j_lstoreW (pc := 122) (L := fun x9 => [(2, v0), (0, v1), (0, v2), (0, v3), (0, v4), (1, x9), (9, 0), (0, v7), (0, x6)]) d_Md_asTold_122 (fun _ => rfl) hr (fun x9 hr => ?_)
        exact mJ_weak (ls' := [(2, v0), (0, v1), (0, v2), (0, v3), (0, v4), (1, x9), (9, 0), (0, v7), (9, 0)]) (mwk_s (mwk_s (mwk_s (mwk_s (mwk_s (mwk_s (mwk_s (mwk_s (mwk_d mwk_n))))))))) (t_Md_asTold_J124 hR79 hr)
theorem t_Md_asTold_J73 {G : mG} {d : Nat} {r : mR} {v0 v1 v2 v3 v4 : Int} {h : mH} {S : mH → Int → Int → Int → Int → Int → Option mR} (hS : ∀ (h : mH) (a0 a1 a2 a3 a4 : Int) (r : mR), S h a0 a1 a2 a3 a4 = some r → mJM G (M_Md_asTold d) [(2, a0), (0, a1), (0, a2), (0, a3), (0, a4)] h r) (hr : f_Md_asTold_J73 S v0 v1 v2 v3 v4 h = some r) : mJ G (M_Md_asTold (d + 1)) 73 [(2, v0), (0, v1), (0, v2), (0, v3), (0, v4), (9, 0), (9, 0), (9, 0), (9, 0)] [] h r := by
  unfold f_Md_asTold_J73 at hr
  refine j_lconst (pc := 73) (z := 0) d_Md_asTold_73 ?_
  refine j_lstore (pc := 74) (ls' := [(2, v0), (0, v1), (0, v2), (0, v3), (0, v4), (1, 0), (9, 0), (9, 0), (9, 0)]) d_Md_asTold_74 rfl ?_
  refine j_iconst (pc := 76) d_Md_asTold_76 ?_
  refine j_istore (pc := 77) (ls' := [(2, v0), (0, v1), (0, v2), (0, v3), (0, v4), (1, 0), (9, 0), (0, 0), (9, 0)]) d_Md_asTold_77 rfl ?_
  refine mJ_weak (ls' := [(2, v0), (0, v1), (0, v2), (0, v3), (0, v4), (1, 0), (9, 0), (0, 0), (9, 0)]) (mwk_s (mwk_s (mwk_s (mwk_s (mwk_s (mwk_s (mwk_s (mwk_s (mwk_s mwk_n))))))))) (t_Md_asTold_L79 hS _ _ _ _ hr)
theorem t_Md_asTold {G : mG} : ∀ (d : Nat) (h : mH) (v0 v1 v2 v3 v4 : Int) (r : mR), f_Md_asTold d h v0 v1 v2 v3 v4 = some r → mJM G (M_Md_asTold d) [(2, v0), (0, v1), (0, v2), (0, v3), (0, v4)] h r := by
  intro d
  induction d with
  | zero =>
    intro h v0 v1 v2 v3 v4 r hr
    rw [f_Md_asTold] at hr
    cases hr
  | succ d hS =>
    intro h v0 v1 v2 v3 v4 r hr
    rw [f_Md_asTold] at hr
    refine mJM_of (L := [(2, v0), (0, v1), (0, v2), (0, v3), (0, v4), (9, 0), (9, 0), (9, 0), (9, 0)]) rfl rfl rfl (Nat.le_of_ble_eq_true rfl) ?_
    refine j_iload_n (pc := 0) d_Md_asTold_0 rfl ?_
    refine j_aload_n (pc := 1) d_Md_asTold_1 rfl ?_
    refine j_getf (pc := 2) d_Md_asTold_2 (fd_Md_386 rfl) hr (fun hr => ?_)
    refine j_icmp_ne (pc := 5) (tgt := 22) d_Md_asTold_5 hr (fun hr => ?_) (fun hr => ?_)
    · refine j_iload_n (pc := 22) d_Md_asTold_22 rfl ?_
      refine j_iload_n (pc := 23) d_Md_asTold_23 rfl ?_
      refine j_icmp_eq (pc := 24) (tgt := 73) d_Md_asTold_24 hr (fun hr => ?_) (fun hr => ?_)
      · exact mJ_weak (ls' := [(2, v0), (0, v1), (0, v2), (0, v3), (0, v4), (9, 0), (9, 0), (9, 0), (9, 0)]) (mwk_s (mwk_s (mwk_s (mwk_s (mwk_s (mwk_s (mwk_s (mwk_s (mwk_s mwk_n))))))))) (t_Md_asTold_J73 hS hr)
      · refine j_iload_n (pc := 27) d_Md_asTold_27 rfl ?_
        refine j_iload (pc := 28) d_Md_asTold_28 rfl ?_
        refine j_icmp_eq (pc := 30) (tgt := 73) d_Md_asTold_30 hr (fun hr => ?_) (fun hr => ?_)
        · exact mJ_weak (ls' := [(2, v0), (0, v1), (0, v2), (0, v3), (0, v4), (9, 0), (9, 0), (9, 0), (9, 0)]) (mwk_s (mwk_s (mwk_s (mwk_s (mwk_s (mwk_s (mwk_s (mwk_s (mwk_s mwk_n))))))))) (t_Md_asTold_J73 hS hr)
        · refine j_aload_n (pc := 33) d_Md_asTold_33 rfl ?_
          refine j_iload_n (pc := 34) d_Md_asTold_34 rfl ?_
          refine j_aload_n (pc := 35) d_Md_asTold_35 rfl ?_
          refine j_getf (pc := 36) d_Md_asTold_36 (fd_Md_62 rfl) hr (fun hr => ?_)
          refine j_iload_n (pc := 39) d_Md_asTold_39 rfl ?_
          refine j_iaload (pc := 40) d_Md_asTold_40 hr (fun hr => ?_)
          refine j_aload_n (pc := 41) d_Md_asTold_41 rfl ?_
          obtain ⟨ha, hr⟩ := chk_some hr
          refine j_callG (pc := 42) (stk := [(2, v0), (0, hpV h (hpV h v0 30) v2), (0, v1), (2, v0)]) (as := [(2, v0)]) (P := (fun v9 => ((0 : Nat), v9) :: [(0, hpV h (hpV h v0 30) v2), (0, v1), (2, v0)])) (tg := 0) (My := M_Md_worn) (mRunV (as := []) (st := [(0, hpV h (hpV h v0 30) v2), (0, v1), (2, v0)]) d_Md_asTold_42 (mc_Md_worn (Nat.lt_of_lt_of_le (by decide : 5 < 9) (Nat.le_add_right 9 (d + 1)))) rfl (mv_Md_worn tb_ml_Md_244) rfl (Nat.le_of_ble_eq_true rfl) ha) (fun v => rfl) rfl hr (fun r1 h1 => t_Md_worn _ _ _ h1) (fun x2 h1 hr => ?_)
          obtain ⟨ha, hr⟩ := chk_some hr
          refine j_callG (pc := 45) (stk := [(0, x2), (0, hpV h (hpV h v0 30) v2), (0, v1), (2, v0)]) (as := [(2, v0), (0, v1), (0, hpV h (hpV h v0 30) v2), (0, x2)]) (P := (fun v9 => ((0 : Nat), v9) :: [])) (tg := 0) (My := M_Md_then) (mRunV (as := [(0, v1), (0, hpV h (hpV h v0 30) v2), (0, x2)]) (st := []) d_Md_asTold_45 (mc_Md_then (Nat.lt_of_lt_of_le (by decide : 7 < 9) (Nat.le_add_right 9 (d + 1)))) rfl (mv_Md_then tb_ml_Md_322) rfl (Nat.le_of_ble_eq_true rfl) ha) (fun v => rfl) rfl hr (fun r1 h1 => t_Md_then _ _ _ _ _ _ h1) (fun x4 h3 hr => ?_)
          refine j_istore (pc := 48) (ls' := [(2, v0), (0, v1), (0, v2), (0, v3), (0, v4), (0, x4), (9, 0), (9, 0), (9, 0)]) d_Md_asTold_48 rfl ?_
          refine j_iload (pc := 50) d_Md_asTold_50 rfl ?_
          refine j_iconst (pc := 52) d_Md_asTold_52 ?_
          refine j_icmp_ne (pc := 53) (tgt := 60) d_Md_asTold_53 hr (fun hr => ?_) (fun hr => ?_)
          · refine j_aload_n (pc := 60) d_Md_asTold_60 rfl ?_
            refine j_iload (pc := 61) d_Md_asTold_61 rfl ?_
            refine j_iload_n (pc := 63) d_Md_asTold_63 rfl ?_
            refine j_iconst (pc := 64) d_Md_asTold_64 ?_
            refine j_iadd (pc := 65) d_Md_asTold_65 ?_
            refine j_iload_n (pc := 66) d_Md_asTold_66 rfl ?_
            refine j_iload (pc := 67) d_Md_asTold_67 rfl ?_
            obtain ⟨ha, hr⟩ := chk_some hr
            refine j_callG (pc := 69) (stk := [(0, v4), (0, v3), (0, w32 (v2 + 1)), (0, x4), (2, v0)]) (as := [(2, v0), (0, x4), (0, w32 (v2 + 1)), (0, v3), (0, v4)]) (P := (fun v9 => ((1 : Nat), v9) :: [])) (tg := 1) (My := (M_Md_asTold d)) (mRunV (as := [(0, x4), (0, w32 (v2 + 1)), (0, v3), (0, v4)]) (st := []) d_Md_asTold_69 (mc_Md_asTold (d := d) (Nat.lt_succ_self _)) rfl (mv_Md_asTold tb_ml_Md_389) rfl (Nat.le_of_ble_eq_true rfl) ha) (fun v => rfl) rfl hr (fun r1 h1 => hS _ _ _ _ _ _ _ h1) (fun x6 h5 hr => ?_)
            exact j_lret (pc := 72) d_Md_asTold_72 rfl hr
          · refine j_lconst (pc := 56) (z := 0) d_Md_asTold_56 ?_
            refine j_goto (pc := 57) (tgt := 72) d_Md_asTold_57 ?_
            exact j_lret (pc := 72) d_Md_asTold_72 rfl hr
    · refine j_iload_n (pc := 8) d_Md_asTold_8 rfl ?_
      refine j_aload_n (pc := 9) d_Md_asTold_9 rfl ?_
      obtain ⟨ha, hr⟩ := chk_some hr
      refine j_callG (pc := 10) (stk := [(2, v0), (0, v1)]) (as := [(2, v0)]) (P := (fun v9 => ((0 : Nat), v9) :: [(0, v1)])) (tg := 0) (My := M_Md_openStand) (mRunV (as := []) (st := [(0, v1)]) d_Md_asTold_10 (mc_Md_openStand (Nat.lt_of_lt_of_le (by decide : 3 < 9) (Nat.le_add_right 9 (d + 1)))) rfl (mv_Md_openStand tb_ml_Md_341) rfl (Nat.le_of_ble_eq_true rfl) ha) (fun v => rfl) rfl hr (fun r1 h1 => t_Md_openStand _ _ _ h1) (fun x8 h7 hr => ?_)
      refine j_icmp_ne (pc := 13) (tgt := 20) d_Md_asTold_13 hr (fun hr => ?_) (fun hr => ?_)
      · refine j_lconst (pc := 20) (z := 0) d_Md_asTold_20 ?_
        exact j_lret (pc := 21) d_Md_asTold_21 rfl hr
      · refine j_lconst (pc := 16) (z := 1) d_Md_asTold_16 ?_
        refine j_goto (pc := 17) (tgt := 21) d_Md_asTold_17 ?_
        exact j_lret (pc := 21) d_Md_asTold_21 rfl hr
def M_Md_laysVerse : mM := ("NineBarsModel", ⟨"NineBarsModel", "laysVerse", "()Z"⟩, prog_13_method_98_code, 4, some .boolean, [], 13)
theorem tb_co_Md_laysVerse : mTB (Cond.code ⟨"NineBarsModel", "laysVerse", "()Z"⟩ prog_13_method_98_code 4 (some .boolean)) := tbq9 14 (by decide +kernel) rfl
theorem mc_Md_laysVerse {M : mM} (hd : 13 < mDp M) : mCal M M_Md_laysVerse 0 := ⟨tb_co_Md_laysVerse, tb_in_NineBarsModel, ⟨by decide +kernel, by decide +kernel⟩, by decide +kernel, hd, by decide⟩
theorem d_Md_laysVerse_0 : decode prog_13_method_98_code 0 = .ok (.aload_n 0, 1) := by decide +kernel
theorem d_Md_laysVerse_1 : decode prog_13_method_98_code 1 = .ok (.aload_n 0, 1) := by decide +kernel
theorem d_Md_laysVerse_2 : decode prog_13_method_98_code 2 = .ok (.invokevirtual 265, 3) := by decide +kernel
theorem d_Md_laysVerse_5 : decode prog_13_method_98_code 5 = .ok (.aload_n 0, 1) := by decide +kernel
theorem d_Md_laysVerse_6 : decode prog_13_method_98_code 6 = .ok (.invokevirtual 341, 3) := by decide +kernel
theorem d_Md_laysVerse_9 : decode prog_13_method_98_code 9 = .ok (.iconst (-1), 1) := by decide +kernel
theorem d_Md_laysVerse_10 : decode prog_13_method_98_code 10 = .ok (.invokevirtual 338, 3) := by decide +kernel
theorem d_Md_laysVerse_13 : decode prog_13_method_98_code 13 = .ok (.istore_n 1, 1) := by decide +kernel
theorem d_Md_laysVerse_14 : decode prog_13_method_98_code 14 = .ok (.iload_n 1, 1) := by decide +kernel
theorem d_Md_laysVerse_15 : decode prog_13_method_98_code 15 = .ok (.iconst (-1), 1) := by decide +kernel
theorem d_Md_laysVerse_16 : decode prog_13_method_98_code 16 = .ok (.if_icmp .eq 9, 3) := by decide +kernel
theorem d_Md_laysVerse_25 : decode prog_13_method_98_code 25 = .ok (.iconst 0, 1) := by decide +kernel
theorem d_Md_laysVerse_26 : decode prog_13_method_98_code 26 = .ok (.ireturn, 1) := by decide +kernel
theorem d_Md_laysVerse_19 : decode prog_13_method_98_code 19 = .ok (.iload_n 1, 1) := by decide +kernel
theorem d_Md_laysVerse_20 : decode prog_13_method_98_code 20 = .ok (.bipush 40, 2) := by decide +kernel
theorem d_Md_laysVerse_22 : decode prog_13_method_98_code 22 = .ok (.if_icmp .le 5, 3) := by decide +kernel
theorem d_Md_laysVerse_27 : decode prog_13_method_98_code 27 = .ok (.aload_n 0, 1) := by decide +kernel
theorem d_Md_laysVerse_28 : decode prog_13_method_98_code 28 = .ok (.iload_n 1, 1) := by decide +kernel
theorem d_Md_laysVerse_29 : decode prog_13_method_98_code 29 = .ok (.putfield 386, 3) := by decide +kernel
theorem d_Md_laysVerse_32 : decode prog_13_method_98_code 32 = .ok (.aload_n 0, 1) := by decide +kernel
theorem d_Md_laysVerse_33 : decode prog_13_method_98_code 33 = .ok (.invokevirtual 265, 3) := by decide +kernel
theorem d_Md_laysVerse_36 : decode prog_13_method_98_code 36 = .ok (.istore_n 2, 1) := by decide +kernel
theorem d_Md_laysVerse_37 : decode prog_13_method_98_code 37 = .ok (.iconst 0, 1) := by decide +kernel
theorem d_Md_laysVerse_38 : decode prog_13_method_98_code 38 = .ok (.istore_n 3, 1) := by decide +kernel
theorem d_Md_laysVerse_39 : decode prog_13_method_98_code 39 = .ok (.iload_n 3, 1) := by decide +kernel
theorem d_Md_laysVerse_40 : decode prog_13_method_98_code 40 = .ok (.iload_n 1, 1) := by decide +kernel
theorem d_Md_laysVerse_41 : decode prog_13_method_98_code 41 = .ok (.if_icmp .ge 36, 3) := by decide +kernel
theorem d_Md_laysVerse_77 : decode prog_13_method_98_code 77 = .ok (.iconst 1, 1) := by decide +kernel
theorem d_Md_laysVerse_78 : decode prog_13_method_98_code 78 = .ok (.ireturn, 1) := by decide +kernel
theorem d_Md_laysVerse_44 : decode prog_13_method_98_code 44 = .ok (.aload_n 0, 1) := by decide +kernel
theorem d_Md_laysVerse_45 : decode prog_13_method_98_code 45 = .ok (.getfield 62, 3) := by decide +kernel
theorem d_Md_laysVerse_48 : decode prog_13_method_98_code 48 = .ok (.iload_n 3, 1) := by decide +kernel
theorem d_Md_laysVerse_49 : decode prog_13_method_98_code 49 = .ok (.aload_n 0, 1) := by decide +kernel
theorem d_Md_laysVerse_50 : decode prog_13_method_98_code 50 = .ok (.iload_n 2, 1) := by decide +kernel
theorem d_Md_laysVerse_51 : decode prog_13_method_98_code 51 = .ok (.invokevirtual 335, 3) := by decide +kernel
theorem d_Md_laysVerse_54 : decode prog_13_method_98_code 54 = .ok (.iastore, 1) := by decide +kernel
theorem d_Md_laysVerse_55 : decode prog_13_method_98_code 55 = .ok (.aload_n 0, 1) := by decide +kernel
theorem d_Md_laysVerse_56 : decode prog_13_method_98_code 56 = .ok (.iload_n 2, 1) := by decide +kernel
theorem d_Md_laysVerse_57 : decode prog_13_method_98_code 57 = .ok (.aload_n 0, 1) := by decide +kernel
theorem d_Md_laysVerse_58 : decode prog_13_method_98_code 58 = .ok (.getfield 62, 3) := by decide +kernel
theorem d_Md_laysVerse_61 : decode prog_13_method_98_code 61 = .ok (.iload_n 3, 1) := by decide +kernel
theorem d_Md_laysVerse_62 : decode prog_13_method_98_code 62 = .ok (.iaload, 1) := by decide +kernel
theorem d_Md_laysVerse_63 : decode prog_13_method_98_code 63 = .ok (.aload_n 0, 1) := by decide +kernel
theorem d_Md_laysVerse_64 : decode prog_13_method_98_code 64 = .ok (.invokevirtual 244, 3) := by decide +kernel
theorem d_Md_laysVerse_67 : decode prog_13_method_98_code 67 = .ok (.invokevirtual 322, 3) := by decide +kernel
theorem d_Md_laysVerse_70 : decode prog_13_method_98_code 70 = .ok (.istore_n 2, 1) := by decide +kernel
theorem d_Md_laysVerse_71 : decode prog_13_method_98_code 71 = .ok (.iinc 3 1, 3) := by decide +kernel
theorem d_Md_laysVerse_74 : decode prog_13_method_98_code 74 = .ok (.goto (-35), 3) := by decide +kernel
theorem t_Md_laysVerse_L39 {G : mG} {r : mR} {v0 v1 : Int}  : ∀ (n : Nat) (h : mH) (v2 v3 : Int), f_Md_laysVerse_L39 v0 v1 n h v2 v3 = some r → mJ G M_Md_laysVerse 39 [(2, v0), (0, v1), (0, v2), (0, v3)] [] h r := by
  intro n
  induction n with
  | zero =>
    intro h v2 v3 hr
    rw [f_Md_laysVerse_L39] at hr
    cases hr
  | succ n hR39 =>
    intro h v2 v3 hr
    rw [f_Md_laysVerse_L39] at hr
    refine j_iload_n (pc := 39) d_Md_laysVerse_39 rfl ?_
    refine j_iload_n (pc := 40) d_Md_laysVerse_40 rfl ?_
    refine j_icmp_ge (pc := 41) (tgt := 77) d_Md_laysVerse_41 hr (fun hr => ?_) (fun hr => ?_)
    · refine j_iconst (pc := 77) d_Md_laysVerse_77 ?_
      exact j_zret (pc := 78) d_Md_laysVerse_78 rfl hr
    · refine j_aload_n (pc := 44) d_Md_laysVerse_44 rfl ?_
      refine j_getf (pc := 45) d_Md_laysVerse_45 (fd_Md_62 rfl) hr (fun hr => ?_)
      refine j_iload_n (pc := 48) d_Md_laysVerse_48 rfl ?_
      refine j_aload_n (pc := 49) d_Md_laysVerse_49 rfl ?_
      refine j_iload_n (pc := 50) d_Md_laysVerse_50 rfl ?_
      obtain ⟨ha, hr⟩ := chk_some hr
      refine j_callG (pc := 51) (stk := [(0, v2), (2, v0), (0, v3), (2, hpV h v0 30)]) (as := [(2, v0), (0, v2)]) (P := (fun v9 => ((0 : Nat), v9) :: [(0, v3), (2, hpV h v0 30)])) (tg := 0) (My := M_Md_firstStep) (mRunV (as := [(0, v2)]) (st := [(0, v3), (2, hpV h v0 30)]) d_Md_laysVerse_51 (mc_Md_firstStep (by decide)) rfl (mv_Md_firstStep tb_ml_Md_335) rfl (Nat.le_of_ble_eq_true rfl) ha) (fun v => rfl) rfl hr (fun r1 h1 => t_Md_firstStep _ _ _ _ h1) (fun x2 h1 hr => ?_)
      refine j_iastore (pc := 54) d_Md_laysVerse_54 hr (fun h3 hr => ?_)
      refine j_aload_n (pc := 55) d_Md_laysVerse_55 rfl ?_
      refine j_iload_n (pc := 56) d_Md_laysVerse_56 rfl ?_
      refine j_aload_n (pc := 57) d_Md_laysVerse_57 rfl ?_
      refine j_getf (pc := 58) d_Md_laysVerse_58 (fd_Md_62 rfl) hr (fun hr => ?_)
      refine j_iload_n (pc := 61) d_Md_laysVerse_61 rfl ?_
      refine j_iaload (pc := 62) d_Md_laysVerse_62 hr (fun hr => ?_)
      refine j_aload_n (pc := 63) d_Md_laysVerse_63 rfl ?_
      obtain ⟨ha, hr⟩ := chk_some hr
      refine j_callG (pc := 64) (stk := [(2, v0), (0, hpV h3 (hpV h3 v0 30) v3), (0, v2), (2, v0)]) (as := [(2, v0)]) (P := (fun v9 => ((0 : Nat), v9) :: [(0, hpV h3 (hpV h3 v0 30) v3), (0, v2), (2, v0)])) (tg := 0) (My := M_Md_worn) (mRunV (as := []) (st := [(0, hpV h3 (hpV h3 v0 30) v3), (0, v2), (2, v0)]) d_Md_laysVerse_64 (mc_Md_worn (by decide)) rfl (mv_Md_worn tb_ml_Md_244) rfl (Nat.le_of_ble_eq_true rfl) ha) (fun v => rfl) rfl hr (fun r1 h1 => t_Md_worn _ _ _ h1) (fun x5 h4 hr => ?_)
      obtain ⟨ha, hr⟩ := chk_some hr
      refine j_callG (pc := 67) (stk := [(0, x5), (0, hpV h3 (hpV h3 v0 30) v3), (0, v2), (2, v0)]) (as := [(2, v0), (0, v2), (0, hpV h3 (hpV h3 v0 30) v3), (0, x5)]) (P := (fun v9 => ((0 : Nat), v9) :: [])) (tg := 0) (My := M_Md_then) (mRunV (as := [(0, v2), (0, hpV h3 (hpV h3 v0 30) v3), (0, x5)]) (st := []) d_Md_laysVerse_67 (mc_Md_then (by decide)) rfl (mv_Md_then tb_ml_Md_322) rfl (Nat.le_of_ble_eq_true rfl) ha) (fun v => rfl) rfl hr (fun r1 h1 => t_Md_then _ _ _ _ _ _ h1) (fun x7 h6 hr => ?_)
      refine j_istore_n (pc := 70) (ls' := [(2, v0), (0, v1), (0, x7), (0, v3)]) d_Md_laysVerse_70 rfl ?_
      refine j_iincW (pc := 71) (L := fun x8 => [(2, v0), (0, v1), (0, x7), (0, x8)]) d_Md_laysVerse_71 rfl (fun _ => rfl) hr (fun x8 hr => ?_)
      refine j_goto (pc := 74) (tgt := 39) d_Md_laysVerse_74 ?_
      exact mJ_weak (ls' := [(2, v0), (0, v1), (0, x7), (0, x8)]) (mwk_s (mwk_s (mwk_s (mwk_s mwk_n)))) (hR39 h6 _ _ hr)
theorem t_Md_laysVerse {G : mG} (h : mH) (v0 : Int) (r : mR) (hr : f_Md_laysVerse h v0 = some r) : mJM G M_Md_laysVerse [(2, v0)] h r := by
  refine mJM_of (L := [(2, v0), (9, 0), (9, 0), (9, 0)]) rfl rfl rfl (Nat.le_of_ble_eq_true rfl) ?_
  unfold f_Md_laysVerse at hr
  refine j_aload_n (pc := 0) d_Md_laysVerse_0 rfl ?_
  refine j_aload_n (pc := 1) d_Md_laysVerse_1 rfl ?_
  obtain ⟨ha, hr⟩ := chk_some hr
  refine j_callG (pc := 2) (stk := [(2, v0), (2, v0)]) (as := [(2, v0)]) (P := (fun v9 => ((0 : Nat), v9) :: [(2, v0)])) (tg := 0) (My := M_Md_standNow) (mRunV (as := []) (st := [(2, v0)]) d_Md_laysVerse_2 (mc_Md_standNow (by decide)) rfl (mv_Md_standNow tb_ml_Md_265) rfl (Nat.le_of_ble_eq_true rfl) ha) (fun v => rfl) rfl hr (fun r1 h1 => t_Md_standNow _ _ _ h1) (fun x2 h1 hr => ?_)
  refine j_aload_n (pc := 5) d_Md_laysVerse_5 rfl ?_
  obtain ⟨ha, hr⟩ := chk_some hr
  refine j_callG (pc := 6) (stk := [(2, v0), (0, x2), (2, v0)]) (as := [(2, v0)]) (P := (fun v9 => ((0 : Nat), v9) :: [(0, x2), (2, v0)])) (tg := 0) (My := M_Md_openStand) (mRunV (as := []) (st := [(0, x2), (2, v0)]) d_Md_laysVerse_6 (mc_Md_openStand (by decide)) rfl (mv_Md_openStand tb_ml_Md_341) rfl (Nat.le_of_ble_eq_true rfl) ha) (fun v => rfl) rfl hr (fun r1 h1 => t_Md_openStand _ _ _ h1) (fun x4 h3 hr => ?_)
  refine j_iconst (pc := 9) d_Md_laysVerse_9 ?_
  obtain ⟨ha, hr⟩ := chk_some hr
  refine j_callG (pc := 10) (stk := [(0, (-1)), (0, x4), (0, x2), (2, v0)]) (as := [(2, v0), (0, x2), (0, x4), (0, (-1))]) (P := (fun v9 => ((0 : Nat), v9) :: [])) (tg := 0) (My := M_Md_shortestOf) (mRunV (as := [(0, x2), (0, x4), (0, (-1))]) (st := []) d_Md_laysVerse_10 (mc_Md_shortestOf (by decide)) rfl (mv_Md_shortestOf tb_ml_Md_338) rfl (Nat.le_of_ble_eq_true rfl) ha) (fun v => rfl) rfl hr (fun r1 h1 => t_Md_shortestOf _ _ _ _ _ _ h1) (fun x6 h5 hr => ?_)
  refine j_istore_n (pc := 13) (ls' := [(2, v0), (0, x6), (9, 0), (9, 0)]) d_Md_laysVerse_13 rfl ?_
  refine j_iload_n (pc := 14) d_Md_laysVerse_14 rfl ?_
  refine j_iconst (pc := 15) d_Md_laysVerse_15 ?_
  refine j_icmp_eq (pc := 16) (tgt := 25) d_Md_laysVerse_16 hr (fun hr => ?_) (fun hr => ?_)
  · refine j_iconst (pc := 25) d_Md_laysVerse_25 ?_
    exact j_zret (pc := 26) d_Md_laysVerse_26 rfl hr
  · refine j_iload_n (pc := 19) d_Md_laysVerse_19 rfl ?_
    refine j_bipush (pc := 20) d_Md_laysVerse_20 ?_
    refine j_icmp_le (pc := 22) (tgt := 27) d_Md_laysVerse_22 hr (fun hr => ?_) (fun hr => ?_)
    · refine j_aload_n (pc := 27) d_Md_laysVerse_27 rfl ?_
      refine j_iload_n (pc := 28) d_Md_laysVerse_28 rfl ?_
      refine j_puti (pc := 29) d_Md_laysVerse_29 (fd_Md_386 rfl) (⟨_, _, _, rfl, Or.inl rfl, rfl⟩ : mFldW M_Md_laysVerse 386 11 32 .int) hr (fun h7 hr => ?_)
      refine j_aload_n (pc := 32) d_Md_laysVerse_32 rfl ?_
      obtain ⟨ha, hr⟩ := chk_some hr
      refine j_callG (pc := 33) (stk := [(2, v0)]) (as := [(2, v0)]) (P := (fun v9 => ((0 : Nat), v9) :: [])) (tg := 0) (My := M_Md_standNow) (mRunV (as := []) (st := []) d_Md_laysVerse_33 (mc_Md_standNow (by decide)) rfl (mv_Md_standNow tb_ml_Md_265) rfl (Nat.le_of_ble_eq_true rfl) ha) (fun v => rfl) rfl hr (fun r1 h1 => t_Md_standNow _ _ _ h1) (fun x9 h8 hr => ?_)
      refine j_istore_n (pc := 36) (ls' := [(2, v0), (0, x6), (0, x9), (9, 0)]) d_Md_laysVerse_36 rfl ?_
      refine j_iconst (pc := 37) d_Md_laysVerse_37 ?_
      refine j_istore_n (pc := 38) (ls' := [(2, v0), (0, x6), (0, x9), (0, 0)]) d_Md_laysVerse_38 rfl ?_
      refine mJ_weak (ls' := [(2, v0), (0, x6), (0, x9), (0, 0)]) (mwk_s (mwk_s (mwk_s (mwk_s mwk_n)))) (t_Md_laysVerse_L39  _ _ _ _ hr)
    · refine j_iconst (pc := 25) d_Md_laysVerse_25 ?_
      exact j_zret (pc := 26) d_Md_laysVerse_26 rfl hr
def M_Md_keeps : mM := ("NineBarsModel", ⟨"NineBarsModel", "keeps", "(II)J"⟩, prog_13_method_99_code, 9, some .long, [], 61)
theorem tb_co_Md_keeps : mTB (Cond.code ⟨"NineBarsModel", "keeps", "(II)J"⟩ prog_13_method_99_code 9 (some .long)) := tbq9 10 (by decide +kernel) rfl
theorem mc_Md_keeps {M : mM} (hd : 61 < mDp M) : mCal M M_Md_keeps 2 := ⟨tb_co_Md_keeps, tb_in_NineBarsModel, ⟨by decide +kernel, by decide +kernel⟩, by decide +kernel, hd, by decide⟩
theorem d_Md_keeps_0 : decode prog_13_method_99_code 0 = .ok (.aload_n 0, 1) := by decide +kernel
theorem d_Md_keeps_1 : decode prog_13_method_99_code 1 = .ok (.iload_n 1, 1) := by decide +kernel
theorem d_Md_keeps_2 : decode prog_13_method_99_code 2 = .ok (.i2l, 1) := by decide +kernel
theorem d_Md_keeps_3 : decode prog_13_method_99_code 3 = .ok (.lconst 1, 1) := by decide +kernel
theorem d_Md_keeps_4 : decode prog_13_method_99_code 4 = .ok (.ldc2_w 287, 3) := by decide +kernel
theorem d_Md_keeps_7 : decode prog_13_method_99_code 7 = .ok (.invokestatic 147, 3) := by decide +kernel
theorem d_Md_keeps_10 : decode prog_13_method_99_code 10 = .ok (.ifCond .eq 15, 3) := by decide +kernel
theorem d_Md_keeps_25 : decode prog_13_method_99_code 25 = .ok (.iconst 1, 1) := by decide +kernel
theorem d_Md_keeps_26 : decode prog_13_method_99_code 26 = .ok (.goto 15, 3) := by decide +kernel
theorem d_Md_keeps_41 : decode prog_13_method_99_code 41 = .ok (.putfield 86, 3) := by decide +kernel
theorem d_Md_keeps_44 : decode prog_13_method_99_code 44 = .ok (.aload_n 0, 1) := by decide +kernel
theorem d_Md_keeps_45 : decode prog_13_method_99_code 45 = .ok (.getfield 86, 3) := by decide +kernel
theorem d_Md_keeps_48 : decode prog_13_method_99_code 48 = .ok (.ifCond .le 5, 3) := by decide +kernel
theorem d_Md_keeps_53 : decode prog_13_method_99_code 53 = .ok (.aload_n 0, 1) := by decide +kernel
theorem d_Md_keeps_54 : decode prog_13_method_99_code 54 = .ok (.invokevirtual 393, 3) := by decide +kernel
theorem tb_ml_Md_393 : mTB (Cond.methodLink "NineBarsModel" 393 ⟨"NineBarsModel", "laysVerse", "()Z"⟩) := tbq9 11 (by decide +kernel) rfl
theorem tb_im_Md_laysVerse : mTB (Cond.instanceMethod ⟨"NineBarsModel", "laysVerse", "()Z"⟩) := tbq9 13 (by decide +kernel) rfl
theorem tb_se_Md_laysVerse : mTB (Cond.selects "NineBarsModel" ⟨"NineBarsModel", "laysVerse", "()Z"⟩ ⟨"NineBarsModel", "laysVerse", "()Z"⟩) := tbqp 100 (by decide +kernel) rfl
theorem mv_Md_laysVerse {M : mM} {idx : Nat} (h : mTB (Cond.methodLink (mO M) idx ⟨"NineBarsModel", "laysVerse", "()Z"⟩)) : mCaV M M_Md_laysVerse idx 11 := ⟨h, tb_im_Md_laysVerse, tb_se_Md_laysVerse, by decide, TX11, 40, rfl⟩
theorem d_Md_keeps_57 : decode prog_13_method_99_code 57 = .ok (.ifCond .eq 16, 3) := by decide +kernel
theorem d_Md_keeps_73 : decode prog_13_method_99_code 73 = .ok (.ldc2_w 374, 3) := by decide +kernel
theorem d_Md_keeps_76 : decode prog_13_method_99_code 76 = .ok (.lreturn, 1) := by decide +kernel
theorem d_Md_keeps_60 : decode prog_13_method_99_code 60 = .ok (.aload_n 0, 1) := by decide +kernel
theorem d_Md_keeps_61 : decode prog_13_method_99_code 61 = .ok (.getfield 386, 3) := by decide +kernel
theorem d_Md_keeps_64 : decode prog_13_method_99_code 64 = .ok (.iload_n 1, 1) := by decide +kernel
theorem d_Md_keeps_65 : decode prog_13_method_99_code 65 = .ok (.if_icmp .lt 8, 3) := by decide +kernel
theorem d_Md_keeps_68 : decode prog_13_method_99_code 68 = .ok (.iload_n 2, 1) := by decide +kernel
theorem d_Md_keeps_69 : decode prog_13_method_99_code 69 = .ok (.iload_n 1, 1) := by decide +kernel
theorem d_Md_keeps_70 : decode prog_13_method_99_code 70 = .ok (.if_icmp .le 7, 3) := by decide +kernel
theorem d_Md_keeps_77 : decode prog_13_method_99_code 77 = .ok (.ldc2_w 374, 3) := by decide +kernel
theorem d_Md_keeps_80 : decode prog_13_method_99_code 80 = .ok (.lstore_n 3, 1) := by decide +kernel
theorem d_Md_keeps_81 : decode prog_13_method_99_code 81 = .ok (.iconst 0, 1) := by decide +kernel
theorem d_Md_keeps_82 : decode prog_13_method_99_code 82 = .ok (.istore 5, 2) := by decide +kernel
theorem d_Md_keeps_84 : decode prog_13_method_99_code 84 = .ok (.iload 5, 2) := by decide +kernel
theorem d_Md_keeps_86 : decode prog_13_method_99_code 86 = .ok (.aload_n 0, 1) := by decide +kernel
theorem d_Md_keeps_87 : decode prog_13_method_99_code 87 = .ok (.getfield 386, 3) := by decide +kernel
theorem d_Md_keeps_90 : decode prog_13_method_99_code 90 = .ok (.if_icmp .ge 96, 3) := by decide +kernel
theorem d_Md_keeps_93 : decode prog_13_method_99_code 93 = .ok (.iload_n 1, 1) := by decide +kernel
theorem d_Md_keeps_94 : decode prog_13_method_99_code 94 = .ok (.iconst 1, 1) := by decide +kernel
theorem d_Md_keeps_95 : decode prog_13_method_99_code 95 = .ok (.if_icmp .ne 8, 3) := by decide +kernel
theorem d_Md_keeps_103 : decode prog_13_method_99_code 103 = .ok (.iload 5, 2) := by decide +kernel
theorem d_Md_keeps_105 : decode prog_13_method_99_code 105 = .ok (.iconst 1, 1) := by decide +kernel
theorem d_Md_keeps_106 : decode prog_13_method_99_code 106 = .ok (.iadd, 1) := by decide +kernel
theorem d_Md_keeps_107 : decode prog_13_method_99_code 107 = .ok (.istore 6, 2) := by decide +kernel
theorem d_Md_keeps_109 : decode prog_13_method_99_code 109 = .ok (.iload 6, 2) := by decide +kernel
theorem d_Md_keeps_111 : decode prog_13_method_99_code 111 = .ok (.iload_n 1, 1) := by decide +kernel
theorem d_Md_keeps_112 : decode prog_13_method_99_code 112 = .ok (.iconst 1, 1) := by decide +kernel
theorem d_Md_keeps_113 : decode prog_13_method_99_code 113 = .ok (.if_icmp .ne 10, 3) := by decide +kernel
theorem d_Md_keeps_123 : decode prog_13_method_99_code 123 = .ok (.aload_n 0, 1) := by decide +kernel
theorem d_Md_keeps_124 : decode prog_13_method_99_code 124 = .ok (.getfield 386, 3) := by decide +kernel
theorem d_Md_keeps_127 : decode prog_13_method_99_code 127 = .ok (.if_icmp .ge 53, 3) := by decide +kernel
theorem d_Md_keeps_130 : decode prog_13_method_99_code 130 = .ok (.aload_n 0, 1) := by decide +kernel
theorem d_Md_keeps_131 : decode prog_13_method_99_code 131 = .ok (.aload_n 0, 1) := by decide +kernel
theorem d_Md_keeps_132 : decode prog_13_method_99_code 132 = .ok (.invokevirtual 265, 3) := by decide +kernel
theorem d_Md_keeps_135 : decode prog_13_method_99_code 135 = .ok (.iconst 0, 1) := by decide +kernel
theorem d_Md_keeps_136 : decode prog_13_method_99_code 136 = .ok (.iload 5, 2) := by decide +kernel
theorem d_Md_keeps_138 : decode prog_13_method_99_code 138 = .ok (.iload 6, 2) := by decide +kernel
theorem d_Md_keeps_140 : decode prog_13_method_99_code 140 = .ok (.invokevirtual 389, 3) := by decide +kernel
theorem d_Md_keeps_143 : decode prog_13_method_99_code 143 = .ok (.lstore 7, 2) := by decide +kernel
theorem d_Md_keeps_145 : decode prog_13_method_99_code 145 = .ok (.lload 7, 2) := by decide +kernel
theorem d_Md_keeps_147 : decode prog_13_method_99_code 147 = .ok (.lload_n 3, 1) := by decide +kernel
theorem d_Md_keeps_148 : decode prog_13_method_99_code 148 = .ok (.lcmp, 1) := by decide +kernel
theorem d_Md_keeps_149 : decode prog_13_method_99_code 149 = .ok (.ifCond .gt 6, 3) := by decide +kernel
theorem d_Md_keeps_155 : decode prog_13_method_99_code 155 = .ok (.lload 7, 2) := by decide +kernel
theorem d_Md_keeps_157 : decode prog_13_method_99_code 157 = .ok (.lstore_n 3, 1) := by decide +kernel
theorem d_Md_keeps_158 : decode prog_13_method_99_code 158 = .ok (.aload_n 0, 1) := by decide +kernel
theorem d_Md_keeps_159 : decode prog_13_method_99_code 159 = .ok (.getfield 65, 3) := by decide +kernel
theorem d_Md_keeps_162 : decode prog_13_method_99_code 162 = .ok (.iconst 0, 1) := by decide +kernel
theorem d_Md_keeps_163 : decode prog_13_method_99_code 163 = .ok (.iload 5, 2) := by decide +kernel
theorem d_Md_keeps_165 : decode prog_13_method_99_code 165 = .ok (.iastore, 1) := by decide +kernel
theorem d_Md_keeps_166 : decode prog_13_method_99_code 166 = .ok (.aload_n 0, 1) := by decide +kernel
theorem d_Md_keeps_167 : decode prog_13_method_99_code 167 = .ok (.getfield 65, 3) := by decide +kernel
theorem d_Md_keeps_170 : decode prog_13_method_99_code 170 = .ok (.iconst 1, 1) := by decide +kernel
theorem d_Md_keeps_171 : decode prog_13_method_99_code 171 = .ok (.iload 6, 2) := by decide +kernel
theorem d_Md_keeps_173 : decode prog_13_method_99_code 173 = .ok (.iastore, 1) := by decide +kernel
theorem d_Md_keeps_174 : decode prog_13_method_99_code 174 = .ok (.iinc 6 1, 3) := by decide +kernel
theorem d_Md_keeps_177 : decode prog_13_method_99_code 177 = .ok (.goto (-68), 3) := by decide +kernel
theorem d_Md_keeps_152 : decode prog_13_method_99_code 152 = .ok (.goto 22, 3) := by decide +kernel
theorem d_Md_keeps_116 : decode prog_13_method_99_code 116 = .ok (.iload 5, 2) := by decide +kernel
theorem d_Md_keeps_118 : decode prog_13_method_99_code 118 = .ok (.iconst 1, 1) := by decide +kernel
theorem d_Md_keeps_119 : decode prog_13_method_99_code 119 = .ok (.iadd, 1) := by decide +kernel
theorem d_Md_keeps_120 : decode prog_13_method_99_code 120 = .ok (.goto 7, 3) := by decide +kernel
theorem d_Md_keeps_180 : decode prog_13_method_99_code 180 = .ok (.iinc 5 1, 3) := by decide +kernel
theorem d_Md_keeps_183 : decode prog_13_method_99_code 183 = .ok (.goto (-99), 3) := by decide +kernel
theorem d_Md_keeps_98 : decode prog_13_method_99_code 98 = .ok (.iload 5, 2) := by decide +kernel
theorem d_Md_keeps_100 : decode prog_13_method_99_code 100 = .ok (.goto 7, 3) := by decide +kernel
theorem d_Md_keeps_186 : decode prog_13_method_99_code 186 = .ok (.iload_n 2, 1) := by decide +kernel
theorem d_Md_keeps_187 : decode prog_13_method_99_code 187 = .ok (.ifCond .ne 7, 3) := by decide +kernel
theorem d_Md_keeps_194 : decode prog_13_method_99_code 194 = .ok (.aload_n 0, 1) := by decide +kernel
theorem d_Md_keeps_195 : decode prog_13_method_99_code 195 = .ok (.getfield 65, 3) := by decide +kernel
theorem d_Md_keeps_198 : decode prog_13_method_99_code 198 = .ok (.iload_n 2, 1) := by decide +kernel
theorem d_Md_keeps_199 : decode prog_13_method_99_code 199 = .ok (.iconst 1, 1) := by decide +kernel
theorem d_Md_keeps_200 : decode prog_13_method_99_code 200 = .ok (.isub, 1) := by decide +kernel
theorem d_Md_keeps_201 : decode prog_13_method_99_code 201 = .ok (.iaload, 1) := by decide +kernel
theorem d_Md_keeps_202 : decode prog_13_method_99_code 202 = .ok (.i2l, 1) := by decide +kernel
theorem d_Md_keeps_203 : decode prog_13_method_99_code 203 = .ok (.lreturn, 1) := by decide +kernel
theorem d_Md_keeps_190 : decode prog_13_method_99_code 190 = .ok (.lload_n 3, 1) := by decide +kernel
theorem d_Md_keeps_191 : decode prog_13_method_99_code 191 = .ok (.goto 12, 3) := by decide +kernel
theorem d_Md_keeps_51 : decode prog_13_method_99_code 51 = .ok (.lconst 0, 1) := by decide +kernel
theorem d_Md_keeps_52 : decode prog_13_method_99_code 52 = .ok (.lreturn, 1) := by decide +kernel
theorem d_Md_keeps_13 : decode prog_13_method_99_code 13 = .ok (.iload_n 2, 1) := by decide +kernel
theorem d_Md_keeps_14 : decode prog_13_method_99_code 14 = .ok (.i2l, 1) := by decide +kernel
theorem d_Md_keeps_15 : decode prog_13_method_99_code 15 = .ok (.lconst 0, 1) := by decide +kernel
theorem d_Md_keeps_16 : decode prog_13_method_99_code 16 = .ok (.ldc2_w 287, 3) := by decide +kernel
theorem d_Md_keeps_19 : decode prog_13_method_99_code 19 = .ok (.invokestatic 147, 3) := by decide +kernel
theorem d_Md_keeps_22 : decode prog_13_method_99_code 22 = .ok (.ifCond .ne 7, 3) := by decide +kernel
theorem d_Md_keeps_29 : decode prog_13_method_99_code 29 = .ok (.aload_n 0, 1) := by decide +kernel
theorem d_Md_keeps_30 : decode prog_13_method_99_code 30 = .ok (.invokevirtual 261, 3) := by decide +kernel
theorem d_Md_keeps_33 : decode prog_13_method_99_code 33 = .ok (.ifCond .eq 7, 3) := by decide +kernel
theorem d_Md_keeps_40 : decode prog_13_method_99_code 40 = .ok (.iconst 0, 1) := by decide +kernel
theorem d_Md_keeps_36 : decode prog_13_method_99_code 36 = .ok (.iconst 2, 1) := by decide +kernel
theorem d_Md_keeps_37 : decode prog_13_method_99_code 37 = .ok (.goto 4, 3) := by decide +kernel
theorem t_Md_keeps_J174 {G : mG} {r : mR} {v0 v1 v2 v3 v5 v6 : Int} {h : mH} {R109 : mH → Int → Int → Option mR} (hR109 : ∀ (h : mH) (w3 w6 : Int) , R109 h w3 w6 = some r → mJ G M_Md_keeps 109 [(2, v0), (0, v1), (0, v2), (1, w3), (9, 0), (0, v5), (0, w6), (9, 0), (9, 0)] [] h r) (hr : f_Md_keeps_J174 R109 v3 v6 h = some r) : mJ G M_Md_keeps 174 [(2, v0), (0, v1), (0, v2), (1, v3), (9, 0), (0, v5), (0, v6), (9, 0), (9, 0)] [] h r := by
  unfold f_Md_keeps_J174 at hr
  refine j_iincW (pc := 174) (L := fun x1 => [(2, v0), (0, v1), (0, v2), (1, v3), (9, 0), (0, v5), (0, x1), (9, 0), (9, 0)]) d_Md_keeps_174 rfl (fun _ => rfl) hr (fun x1 hr => ?_)
  refine j_goto (pc := 177) (tgt := 109) d_Md_keeps_177 ?_
  exact mJ_weak (ls' := [(2, v0), (0, v1), (0, v2), (1, v3), (9, 0), (0, v5), (0, x1), (9, 0), (9, 0)]) (mwk_s (mwk_s (mwk_s (mwk_s (mwk_s (mwk_s (mwk_s (mwk_s (mwk_s mwk_n))))))))) (hR109 h _ _ hr)
theorem t_Md_keeps_J127 {G : mG} {r : mR} {v0 v1 v2 v3 v5 v6 s0 s1 : Int} {h : mH} {K180 : mH → Int → Option mR} {R109 : mH → Int → Int → Option mR} (hK180 : ∀ (h : mH) (w3 : Int) , K180 h w3 = some r → mJ G M_Md_keeps 180 [(2, v0), (0, v1), (0, v2), (1, w3), (9, 0), (0, v5), (9, 0), (9, 0), (9, 0)] [] h r) (hR109 : ∀ (h : mH) (w3 w6 : Int) , R109 h w3 w6 = some r → mJ G M_Md_keeps 109 [(2, v0), (0, v1), (0, v2), (1, w3), (9, 0), (0, v5), (0, w6), (9, 0), (9, 0)] [] h r) (hr : f_Md_keeps_J127 K180 R109 v0 v3 v5 v6 s0 s1 h = some r) : mJ G M_Md_keeps 127 [(2, v0), (0, v1), (0, v2), (1, v3), (9, 0), (0, v5), (0, v6), (9, 0), (9, 0)] [(0, s1), (0, s0)] h r := by
  unfold f_Md_keeps_J127 at hr
  refine j_icmp_ge (pc := 127) (tgt := 180) d_Md_keeps_127 hr (fun hr => ?_) (fun hr => ?_)
  · exact mJ_weak (ls' := [(2, v0), (0, v1), (0, v2), (1, v3), (9, 0), (0, v5), (9, 0), (9, 0), (9, 0)]) (mwk_s (mwk_s (mwk_s (mwk_s (mwk_s (mwk_s (mwk_d (mwk_s (mwk_s mwk_n))))))))) (hK180 h _ hr)
  · refine j_aload_n (pc := 130) d_Md_keeps_130 rfl ?_
    refine j_aload_n (pc := 131) d_Md_keeps_131 rfl ?_
    obtain ⟨ha, hr⟩ := chk_some hr
    refine j_callG (pc := 132) (stk := [(2, v0), (2, v0)]) (as := [(2, v0)]) (P := (fun v9 => ((0 : Nat), v9) :: [(2, v0)])) (tg := 0) (My := M_Md_standNow) (mRunV (as := []) (st := [(2, v0)]) d_Md_keeps_132 (mc_Md_standNow (by decide)) rfl (mv_Md_standNow tb_ml_Md_265) rfl (Nat.le_of_ble_eq_true rfl) ha) (fun v => rfl) rfl hr (fun r1 h1 => t_Md_standNow _ _ _ h1) (fun x2 h1 hr => ?_)
    refine j_iconst (pc := 135) d_Md_keeps_135 ?_
    refine j_iload (pc := 136) d_Md_keeps_136 rfl ?_
    refine j_iload (pc := 138) d_Md_keeps_138 rfl ?_
    obtain ⟨ha, hr⟩ := chk_some hr
    refine j_callG (pc := 140) (stk := [(0, v6), (0, v5), (0, 0), (0, x2), (2, v0)]) (as := [(2, v0), (0, x2), (0, 0), (0, v5), (0, v6)]) (P := (fun v9 => ((1 : Nat), v9) :: [])) (tg := 1) (My := (M_Md_asTold 50)) (mRunV (as := [(0, x2), (0, 0), (0, v5), (0, v6)]) (st := []) d_Md_keeps_140 (mc_Md_asTold (d := 50) (by decide)) rfl (mv_Md_asTold tb_ml_Md_389) rfl (Nat.le_of_ble_eq_true rfl) ha) (fun v => rfl) rfl hr (fun r1 h1 => t_Md_asTold _ _ _ _ _ _ _ _ h1) (fun x4 h3 hr => ?_)
    refine j_lstore (pc := 143) (ls' := [(2, v0), (0, v1), (0, v2), (1, v3), (9, 0), (0, v5), (0, v6), (1, x4), (9, 0)]) d_Md_keeps_143 rfl ?_
    refine j_lload (pc := 145) d_Md_keeps_145 rfl ?_
    refine j_lload_n (pc := 147) d_Md_keeps_147 rfl ?_
    refine j_lcmp (pc := 148) d_Md_keeps_148 ?_
    refine j_if_gt (pc := 149) (tgt := 155) d_Md_keeps_149 hr (fun hr => ?_) (fun hr => ?_)
    · refine j_lload (pc := 155) d_Md_keeps_155 rfl ?_
      refine j_lstore_n (pc := 157) (ls' := [(2, v0), (0, v1), (0, v2), (1, x4), (9, 0), (0, v5), (0, v6), (1, x4), (9, 0)]) d_Md_keeps_157 rfl ?_
      refine j_aload_n (pc := 158) d_Md_keeps_158 rfl ?_
      refine j_getf (pc := 159) d_Md_keeps_159 (fd_Md_65 rfl) hr (fun hr => ?_)
      refine j_iconst (pc := 162) d_Md_keeps_162 ?_
      refine j_iload (pc := 163) d_Md_keeps_163 rfl ?_
      refine j_iastore (pc := 165) d_Md_keeps_165 hr (fun h5 hr => ?_)
      refine j_aload_n (pc := 166) d_Md_keeps_166 rfl ?_
      refine j_getf (pc := 167) d_Md_keeps_167 (fd_Md_65 rfl) hr (fun hr => ?_)
      refine j_iconst (pc := 170) d_Md_keeps_170 ?_
      refine j_iload (pc := 171) d_Md_keeps_171 rfl ?_
      refine j_iastore (pc := 173) d_Md_keeps_173 hr (fun h6 hr => ?_)
      exact mJ_weak (ls' := [(2, v0), (0, v1), (0, v2), (1, x4), (9, 0), (0, v5), (0, v6), (9, 0), (9, 0)]) (mwk_s (mwk_s (mwk_s (mwk_s (mwk_s (mwk_s (mwk_s (mwk_d (mwk_s mwk_n))))))))) (t_Md_keeps_J174 hR109 hr)
    · refine j_goto (pc := 152) (tgt := 174) d_Md_keeps_152 ?_
      exact mJ_weak (ls' := [(2, v0), (0, v1), (0, v2), (1, v3), (9, 0), (0, v5), (0, v6), (9, 0), (9, 0)]) (mwk_s (mwk_s (mwk_s (mwk_s (mwk_s (mwk_s (mwk_s (mwk_d (mwk_s mwk_n))))))))) (t_Md_keeps_J174 hR109 hr)
theorem t_Md_keeps_L109 {G : mG} {r : mR} {v0 v1 v2 v5 : Int} {K180 : mH → Int → Option mR} (hK180 : ∀ (h : mH) (w3 : Int) , K180 h w3 = some r → mJ G M_Md_keeps 180 [(2, v0), (0, v1), (0, v2), (1, w3), (9, 0), (0, v5), (9, 0), (9, 0), (9, 0)] [] h r) : ∀ (n : Nat) (h : mH) (v3 v6 : Int), f_Md_keeps_L109 K180 v0 v1 v5 n h v3 v6 = some r → mJ G M_Md_keeps 109 [(2, v0), (0, v1), (0, v2), (1, v3), (9, 0), (0, v5), (0, v6), (9, 0), (9, 0)] [] h r := by
  intro n
  induction n with
  | zero =>
    intro h v3 v6 hr
    rw [f_Md_keeps_L109] at hr
    cases hr
  | succ n hR109 =>
    intro h v3 v6 hr
    rw [f_Md_keeps_L109] at hr
    refine j_iload (pc := 109) d_Md_keeps_109 rfl ?_
    refine j_iload_n (pc := 111) d_Md_keeps_111 rfl ?_
    refine j_iconst (pc := 112) d_Md_keeps_112 ?_
    refine j_icmp_ne (pc := 113) (tgt := 123) d_Md_keeps_113 hr (fun hr => ?_) (fun hr => ?_)
    · refine j_aload_n (pc := 123) d_Md_keeps_123 rfl ?_
      refine j_getf (pc := 124) d_Md_keeps_124 (fd_Md_386 rfl) hr (fun hr => ?_)
      exact mJ_weak (ls' := [(2, v0), (0, v1), (0, v2), (1, v3), (9, 0), (0, v5), (0, v6), (9, 0), (9, 0)]) (mwk_s (mwk_s (mwk_s (mwk_s (mwk_s (mwk_s (mwk_s (mwk_s (mwk_s mwk_n))))))))) (t_Md_keeps_J127 hK180 hR109 hr)
    · refine j_iload (pc := 116) d_Md_keeps_116 rfl ?_
      refine j_iconst (pc := 118) d_Md_keeps_118 ?_
      refine j_iadd (pc := 119) d_Md_keeps_119 ?_
      refine j_goto (pc := 120) (tgt := 127) d_Md_keeps_120 ?_
      exact mJ_weak (ls' := [(2, v0), (0, v1), (0, v2), (1, v3), (9, 0), (0, v5), (0, v6), (9, 0), (9, 0)]) (mwk_s (mwk_s (mwk_s (mwk_s (mwk_s (mwk_s (mwk_s (mwk_s (mwk_s mwk_n))))))))) (t_Md_keeps_J127 hK180 hR109 hr)
theorem t_Md_keeps_J107 {G : mG} {r : mR} {v0 v1 v2 v3 v5 s0 : Int} {h : mH} {R84 : mH → Int → Int → Option mR} (hR84 : ∀ (h : mH) (w3 w5 : Int) , R84 h w3 w5 = some r → mJ G M_Md_keeps 84 [(2, v0), (0, v1), (0, v2), (1, w3), (9, 0), (0, w5), (9, 0), (9, 0), (9, 0)] [] h r) (hr : f_Md_keeps_J107 R84 v0 v1 v3 v5 s0 h = some r) : mJ G M_Md_keeps 107 [(2, v0), (0, v1), (0, v2), (1, v3), (9, 0), (0, v5), (9, 0), (9, 0), (9, 0)] [(0, s0)] h r := by
  unfold f_Md_keeps_J107 at hr
  refine j_istore (pc := 107) (ls' := [(2, v0), (0, v1), (0, v2), (1, v3), (9, 0), (0, v5), (0, s0), (9, 0), (9, 0)]) d_Md_keeps_107 rfl ?_
  refine mJ_weak (ls' := [(2, v0), (0, v1), (0, v2), (1, v3), (9, 0), (0, v5), (0, s0), (9, 0), (9, 0)]) (mwk_s (mwk_s (mwk_s (mwk_s (mwk_s (mwk_s (mwk_s (mwk_s (mwk_s mwk_n))))))))) (t_Md_keeps_L109 (fun h1 x2 hr => ?_) _ _ _ _ hr)
  · refine j_iincW (pc := 180) (L := fun x3 => [(2, v0), (0, v1), (0, v2), (1, x2), (9, 0), (0, x3), (9, 0), (9, 0), (9, 0)]) d_Md_keeps_180 rfl (fun _ => rfl) hr (fun x3 hr => ?_)
    refine j_goto (pc := 183) (tgt := 84) d_Md_keeps_183 ?_
    exact mJ_weak (ls' := [(2, v0), (0, v1), (0, v2), (1, x2), (9, 0), (0, x3), (9, 0), (9, 0), (9, 0)]) (mwk_s (mwk_s (mwk_s (mwk_s (mwk_s (mwk_s (mwk_s (mwk_s (mwk_s mwk_n))))))))) (hR84 h1 _ _ hr)
theorem t_Md_keeps_L84 {G : mG} {r : mR} {v0 v1 v2 : Int} {K186 : mH → Int → Option mR} (hK186 : ∀ (h : mH) (w3 : Int) , K186 h w3 = some r → mJ G M_Md_keeps 186 [(2, v0), (9, 0), (0, v2), (1, w3), (9, 0), (9, 0), (9, 0), (9, 0), (9, 0)] [] h r) : ∀ (n : Nat) (h : mH) (v3 v5 : Int), f_Md_keeps_L84 K186 v0 v1 n h v3 v5 = some r → mJ G M_Md_keeps 84 [(2, v0), (0, v1), (0, v2), (1, v3), (9, 0), (0, v5), (9, 0), (9, 0), (9, 0)] [] h r := by
  intro n
  induction n with
  | zero =>
    intro h v3 v5 hr
    rw [f_Md_keeps_L84] at hr
    cases hr
  | succ n hR84 =>
    intro h v3 v5 hr
    rw [f_Md_keeps_L84] at hr
    refine j_iload (pc := 84) d_Md_keeps_84 rfl ?_
    refine j_aload_n (pc := 86) d_Md_keeps_86 rfl ?_
    refine j_getf (pc := 87) d_Md_keeps_87 (fd_Md_386 rfl) hr (fun hr => ?_)
    refine j_icmp_ge (pc := 90) (tgt := 186) d_Md_keeps_90 hr (fun hr => ?_) (fun hr => ?_)
    · exact mJ_weak (ls' := [(2, v0), (9, 0), (0, v2), (1, v3), (9, 0), (9, 0), (9, 0), (9, 0), (9, 0)]) (mwk_s (mwk_d (mwk_s (mwk_s (mwk_s (mwk_d (mwk_s (mwk_s (mwk_s mwk_n))))))))) (hK186 h _ hr)
    · refine j_iload_n (pc := 93) d_Md_keeps_93 rfl ?_
      refine j_iconst (pc := 94) d_Md_keeps_94 ?_
      refine j_icmp_ne (pc := 95) (tgt := 103) d_Md_keeps_95 hr (fun hr => ?_) (fun hr => ?_)
      · refine j_iload (pc := 103) d_Md_keeps_103 rfl ?_
        refine j_iconst (pc := 105) d_Md_keeps_105 ?_
        refine j_iadd (pc := 106) d_Md_keeps_106 ?_
        exact mJ_weak (ls' := [(2, v0), (0, v1), (0, v2), (1, v3), (9, 0), (0, v5), (9, 0), (9, 0), (9, 0)]) (mwk_s (mwk_s (mwk_s (mwk_s (mwk_s (mwk_s (mwk_s (mwk_s (mwk_s mwk_n))))))))) (t_Md_keeps_J107 hR84 hr)
      · refine j_iload (pc := 98) d_Md_keeps_98 rfl ?_
        refine j_goto (pc := 100) (tgt := 107) d_Md_keeps_100 ?_
        exact mJ_weak (ls' := [(2, v0), (0, v1), (0, v2), (1, v3), (9, 0), (0, v5), (9, 0), (9, 0), (9, 0)]) (mwk_s (mwk_s (mwk_s (mwk_s (mwk_s (mwk_s (mwk_s (mwk_s (mwk_s mwk_n))))))))) (t_Md_keeps_J107 hR84 hr)
theorem t_Md_keeps_J41 {G : mG} {r : mR} {v0 v1 v2 s0 s1 : Int} {h : mH}  (hr : f_Md_keeps_J41 v0 v1 v2 s0 s1 h = some r) : mJ G M_Md_keeps 41 [(2, v0), (0, v1), (0, v2), (9, 0), (9, 0), (9, 0), (9, 0), (9, 0), (9, 0)] [(0, s1), (2, s0)] h r := by
  unfold f_Md_keeps_J41 at hr
  refine j_puti (pc := 41) d_Md_keeps_41 (fd_Md_86 rfl) (⟨_, _, _, rfl, Or.inl rfl, rfl⟩ : mFldW M_Md_keeps 86 11 5 .int) hr (fun h1 hr => ?_)
  refine j_aload_n (pc := 44) d_Md_keeps_44 rfl ?_
  refine j_getf (pc := 45) d_Md_keeps_45 (fd_Md_86 rfl) hr (fun hr => ?_)
  refine j_if_le (pc := 48) (tgt := 53) d_Md_keeps_48 hr (fun hr => ?_) (fun hr => ?_)
  · refine j_aload_n (pc := 53) d_Md_keeps_53 rfl ?_
    obtain ⟨ha, hr⟩ := chk_some hr
    refine j_callG (pc := 54) (stk := [(2, v0)]) (as := [(2, v0)]) (P := (fun v9 => ((0 : Nat), v9) :: [])) (tg := 0) (My := M_Md_laysVerse) (mRunV (as := []) (st := []) d_Md_keeps_54 (mc_Md_laysVerse (by decide)) rfl (mv_Md_laysVerse tb_ml_Md_393) rfl (Nat.le_of_ble_eq_true rfl) ha) (fun v => rfl) rfl hr (fun r1 h1 => t_Md_laysVerse _ _ _ h1) (fun x3 h2 hr => ?_)
    refine j_if_eq (pc := 57) (tgt := 73) d_Md_keeps_57 hr (fun hr => ?_) (fun hr => ?_)
    · refine j_ldc2 (pc := 73) (z := (-1)) d_Md_keeps_73 tb_cj_Md_374 rfl ?_
      exact j_lret (pc := 76) d_Md_keeps_76 rfl hr
    · refine j_aload_n (pc := 60) d_Md_keeps_60 rfl ?_
      refine j_getf (pc := 61) d_Md_keeps_61 (fd_Md_386 rfl) hr (fun hr => ?_)
      refine j_iload_n (pc := 64) d_Md_keeps_64 rfl ?_
      refine j_icmp_lt (pc := 65) (tgt := 73) d_Md_keeps_65 hr (fun hr => ?_) (fun hr => ?_)
      · refine j_ldc2 (pc := 73) (z := (-1)) d_Md_keeps_73 tb_cj_Md_374 rfl ?_
        exact j_lret (pc := 76) d_Md_keeps_76 rfl hr
      · refine j_iload_n (pc := 68) d_Md_keeps_68 rfl ?_
        refine j_iload_n (pc := 69) d_Md_keeps_69 rfl ?_
        refine j_icmp_le (pc := 70) (tgt := 77) d_Md_keeps_70 hr (fun hr => ?_) (fun hr => ?_)
        · refine j_ldc2 (pc := 77) (z := (-1)) d_Md_keeps_77 tb_cj_Md_374 rfl ?_
          refine j_lstore_n (pc := 80) (ls' := [(2, v0), (0, v1), (0, v2), (1, (-1)), (9, 0), (9, 0), (9, 0), (9, 0), (9, 0)]) d_Md_keeps_80 rfl ?_
          refine j_iconst (pc := 81) d_Md_keeps_81 ?_
          refine j_istore (pc := 82) (ls' := [(2, v0), (0, v1), (0, v2), (1, (-1)), (9, 0), (0, 0), (9, 0), (9, 0), (9, 0)]) d_Md_keeps_82 rfl ?_
          refine mJ_weak (ls' := [(2, v0), (0, v1), (0, v2), (1, (-1)), (9, 0), (0, 0), (9, 0), (9, 0), (9, 0)]) (mwk_s (mwk_s (mwk_s (mwk_s (mwk_s (mwk_s (mwk_s (mwk_s (mwk_s mwk_n))))))))) (t_Md_keeps_L84 (fun h4 x5 hr => ?_) _ _ _ _ hr)
          · refine j_iload_n (pc := 186) d_Md_keeps_186 rfl ?_
            refine j_if_ne (pc := 187) (tgt := 194) d_Md_keeps_187 hr (fun hr => ?_) (fun hr => ?_)
            · refine j_aload_n (pc := 194) d_Md_keeps_194 rfl ?_
              refine j_getf (pc := 195) d_Md_keeps_195 (fd_Md_65 rfl) hr (fun hr => ?_)
              refine j_iload_n (pc := 198) d_Md_keeps_198 rfl ?_
              refine j_iconst (pc := 199) d_Md_keeps_199 ?_
              refine j_isub (pc := 200) d_Md_keeps_200 ?_
              refine j_iaload (pc := 201) d_Md_keeps_201 hr (fun hr => ?_)
              refine j_i2l (pc := 202) d_Md_keeps_202 ?_
              exact j_lret (pc := 203) d_Md_keeps_203 rfl hr
            · refine j_lload_n (pc := 190) d_Md_keeps_190 rfl ?_
              refine j_goto (pc := 191) (tgt := 203) d_Md_keeps_191 ?_
              exact j_lret (pc := 203) d_Md_keeps_203 rfl hr
        · refine j_ldc2 (pc := 73) (z := (-1)) d_Md_keeps_73 tb_cj_Md_374 rfl ?_
          exact j_lret (pc := 76) d_Md_keeps_76 rfl hr
  · refine j_lconst (pc := 51) (z := 0) d_Md_keeps_51 ?_
    exact j_lret (pc := 52) d_Md_keeps_52 rfl hr
theorem t_Md_keeps_J25 {G : mG} {r : mR} {v0 v1 v2 s0 : Int} {h : mH}  (hr : f_Md_keeps_J25 v0 v1 v2 s0 h = some r) : mJ G M_Md_keeps 25 [(2, v0), (0, v1), (0, v2), (9, 0), (9, 0), (9, 0), (9, 0), (9, 0), (9, 0)] [(2, s0)] h r := by
  unfold f_Md_keeps_J25 at hr
  refine j_iconst (pc := 25) d_Md_keeps_25 ?_
  refine j_goto (pc := 26) (tgt := 41) d_Md_keeps_26 ?_
  exact mJ_weak (ls' := [(2, v0), (0, v1), (0, v2), (9, 0), (9, 0), (9, 0), (9, 0), (9, 0), (9, 0)]) (mwk_s (mwk_s (mwk_s (mwk_s (mwk_s (mwk_s (mwk_s (mwk_s (mwk_s mwk_n))))))))) (t_Md_keeps_J41  hr)
theorem t_Md_keeps {G : mG} (h : mH) (v0 v1 v2 : Int) (r : mR) (hr : f_Md_keeps h v0 v1 v2 = some r) : mJM G M_Md_keeps [(2, v0), (0, v1), (0, v2)] h r := by
  refine mJM_of (L := [(2, v0), (0, v1), (0, v2), (9, 0), (9, 0), (9, 0), (9, 0), (9, 0), (9, 0)]) rfl rfl rfl (Nat.le_of_ble_eq_true rfl) ?_
  unfold f_Md_keeps at hr
  refine j_aload_n (pc := 0) d_Md_keeps_0 rfl ?_
  refine j_iload_n (pc := 1) d_Md_keeps_1 rfl ?_
  refine j_i2l (pc := 2) d_Md_keeps_2 ?_
  refine j_lconst (pc := 3) (z := 1) d_Md_keeps_3 ?_
  refine j_ldc2 (pc := 4) (z := 2) d_Md_keeps_4 tb_cj_Md_287 rfl ?_
  refine j_callG (pc := 7) (stk := [(1, 2), (1, 1), (1, v1), (2, v0)]) (as := [(1, v1), (1, 1), (1, 2)]) (P := (fun v9 => ((0 : Nat), v9) :: [(2, v0)])) (tg := 0) (My := M_Md_amid) (mRunS (as := [(1, v1), (1, 1), (1, 2)]) (st := [(2, v0)]) d_Md_keeps_7 (mc_Md_amid (by decide)) rfl ⟨tb_ml_Md_147, tb_sm_Md_amid⟩ rfl (Nat.le_of_ble_eq_true rfl)) (fun v => rfl) rfl hr (fun r1 h1 => t_Md_amid _ _ _ _ _ h1) (fun x2 h1 hr => ?_)
  refine j_if_eq (pc := 10) (tgt := 25) d_Md_keeps_10 hr (fun hr => ?_) (fun hr => ?_)
  · exact mJ_weak (ls' := [(2, v0), (0, v1), (0, v2), (9, 0), (9, 0), (9, 0), (9, 0), (9, 0), (9, 0)]) (mwk_s (mwk_s (mwk_s (mwk_s (mwk_s (mwk_s (mwk_s (mwk_s (mwk_s mwk_n))))))))) (t_Md_keeps_J25  hr)
  · refine j_iload_n (pc := 13) d_Md_keeps_13 rfl ?_
    refine j_i2l (pc := 14) d_Md_keeps_14 ?_
    refine j_lconst (pc := 15) (z := 0) d_Md_keeps_15 ?_
    refine j_ldc2 (pc := 16) (z := 2) d_Md_keeps_16 tb_cj_Md_287 rfl ?_
    refine j_callG (pc := 19) (stk := [(1, 2), (1, 0), (1, v2), (2, v0)]) (as := [(1, v2), (1, 0), (1, 2)]) (P := (fun v9 => ((0 : Nat), v9) :: [(2, v0)])) (tg := 0) (My := M_Md_amid) (mRunS (as := [(1, v2), (1, 0), (1, 2)]) (st := [(2, v0)]) d_Md_keeps_19 (mc_Md_amid (by decide)) rfl ⟨tb_ml_Md_147, tb_sm_Md_amid⟩ rfl (Nat.le_of_ble_eq_true rfl)) (fun v => rfl) rfl hr (fun r1 h1 => t_Md_amid _ _ _ _ _ h1) (fun x4 h3 hr => ?_)
    refine j_if_ne (pc := 22) (tgt := 29) d_Md_keeps_22 hr (fun hr => ?_) (fun hr => ?_)
    · refine j_aload_n (pc := 29) d_Md_keeps_29 rfl ?_
      obtain ⟨ha, hr⟩ := chk_some hr
      refine j_callG (pc := 30) (stk := [(2, v0), (2, v0)]) (as := [(2, v0)]) (P := (fun v9 => ((0 : Nat), v9) :: [(2, v0)])) (tg := 0) (My := M_Md_isSpent) (mRunV (as := []) (st := [(2, v0)]) d_Md_keeps_30 (mc_Md_isSpent (by decide)) rfl (mv_Md_isSpent tb_ml_Md_261) rfl (Nat.le_of_ble_eq_true rfl) ha) (fun v => rfl) rfl hr (fun r1 h1 => t_Md_isSpent _ _ _ h1) (fun x6 h5 hr => ?_)
      refine j_if_eq (pc := 33) (tgt := 40) d_Md_keeps_33 hr (fun hr => ?_) (fun hr => ?_)
      · refine j_iconst (pc := 40) d_Md_keeps_40 ?_
        exact mJ_weak (ls' := [(2, v0), (0, v1), (0, v2), (9, 0), (9, 0), (9, 0), (9, 0), (9, 0), (9, 0)]) (mwk_s (mwk_s (mwk_s (mwk_s (mwk_s (mwk_s (mwk_s (mwk_s (mwk_s mwk_n))))))))) (t_Md_keeps_J41  hr)
      · refine j_iconst (pc := 36) d_Md_keeps_36 ?_
        refine j_goto (pc := 37) (tgt := 41) d_Md_keeps_37 ?_
        exact mJ_weak (ls' := [(2, v0), (0, v1), (0, v2), (9, 0), (9, 0), (9, 0), (9, 0), (9, 0), (9, 0)]) (mwk_s (mwk_s (mwk_s (mwk_s (mwk_s (mwk_s (mwk_s (mwk_s (mwk_s mwk_n))))))))) (t_Md_keeps_J41  hr)
    · exact mJ_weak (ls' := [(2, v0), (0, v1), (0, v2), (9, 0), (9, 0), (9, 0), (9, 0), (9, 0), (9, 0)]) (mwk_s (mwk_s (mwk_s (mwk_s (mwk_s (mwk_s (mwk_s (mwk_s (mwk_s mwk_n))))))))) (t_Md_keeps_J25  hr)
def M_Md_isFact : mM := ("NineBarsModel", ⟨"NineBarsModel", "isFact", "(II)Z"⟩, prog_13_method_100_code, 3, some .boolean, [], 5)
theorem tb_co_Md_isFact : mTB (Cond.code ⟨"NineBarsModel", "isFact", "(II)Z"⟩ prog_13_method_100_code 3 (some .boolean)) := tbq9 34 (by decide +kernel) rfl
theorem mc_Md_isFact {M : mM} (hd : 5 < mDp M) : mCal M M_Md_isFact 2 := ⟨tb_co_Md_isFact, tb_in_NineBarsModel, ⟨by decide +kernel, by decide +kernel⟩, by decide +kernel, hd, by decide⟩
theorem d_Md_isFact_0 : decode prog_13_method_100_code 0 = .ok (.aload_n 0, 1) := by decide +kernel
theorem d_Md_isFact_1 : decode prog_13_method_100_code 1 = .ok (.iload_n 2, 1) := by decide +kernel
theorem d_Md_isFact_2 : decode prog_13_method_100_code 2 = .ok (.iload_n 1, 1) := by decide +kernel
theorem d_Md_isFact_3 : decode prog_13_method_100_code 3 = .ok (.bipush 100, 2) := by decide +kernel
theorem d_Md_isFact_5 : decode prog_13_method_100_code 5 = .ok (.idiv, 1) := by decide +kernel
theorem d_Md_isFact_6 : decode prog_13_method_100_code 6 = .ok (.invokevirtual 271, 3) := by decide +kernel
theorem d_Md_isFact_9 : decode prog_13_method_100_code 9 = .ok (.iload_n 1, 1) := by decide +kernel
theorem d_Md_isFact_10 : decode prog_13_method_100_code 10 = .ok (.bipush 10, 2) := by decide +kernel
theorem d_Md_isFact_12 : decode prog_13_method_100_code 12 = .ok (.irem, 1) := by decide +kernel
theorem d_Md_isFact_13 : decode prog_13_method_100_code 13 = .ok (.if_icmp .ne 7, 3) := by decide +kernel
theorem d_Md_isFact_20 : decode prog_13_method_100_code 20 = .ok (.iconst 0, 1) := by decide +kernel
theorem d_Md_isFact_21 : decode prog_13_method_100_code 21 = .ok (.iload_n 1, 1) := by decide +kernel
theorem d_Md_isFact_22 : decode prog_13_method_100_code 22 = .ok (.bipush 10, 2) := by decide +kernel
theorem d_Md_isFact_24 : decode prog_13_method_100_code 24 = .ok (.idiv, 1) := by decide +kernel
theorem d_Md_isFact_25 : decode prog_13_method_100_code 25 = .ok (.bipush 10, 2) := by decide +kernel
theorem d_Md_isFact_27 : decode prog_13_method_100_code 27 = .ok (.irem, 1) := by decide +kernel
theorem d_Md_isFact_28 : decode prog_13_method_100_code 28 = .ok (.ifCond .ne 7, 3) := by decide +kernel
theorem d_Md_isFact_35 : decode prog_13_method_100_code 35 = .ok (.iconst 0, 1) := by decide +kernel
theorem d_Md_isFact_36 : decode prog_13_method_100_code 36 = .ok (.if_icmp .ne 7, 3) := by decide +kernel
theorem d_Md_isFact_43 : decode prog_13_method_100_code 43 = .ok (.iconst 0, 1) := by decide +kernel
theorem d_Md_isFact_44 : decode prog_13_method_100_code 44 = .ok (.ireturn, 1) := by decide +kernel
theorem d_Md_isFact_39 : decode prog_13_method_100_code 39 = .ok (.iconst 1, 1) := by decide +kernel
theorem d_Md_isFact_40 : decode prog_13_method_100_code 40 = .ok (.goto 4, 3) := by decide +kernel
theorem d_Md_isFact_31 : decode prog_13_method_100_code 31 = .ok (.iconst 1, 1) := by decide +kernel
theorem d_Md_isFact_32 : decode prog_13_method_100_code 32 = .ok (.goto 4, 3) := by decide +kernel
theorem d_Md_isFact_16 : decode prog_13_method_100_code 16 = .ok (.iconst 1, 1) := by decide +kernel
theorem d_Md_isFact_17 : decode prog_13_method_100_code 17 = .ok (.goto 4, 3) := by decide +kernel
theorem t_Md_isFact_J36 {G : mG} {r : mR} {s0 s1 : Int} {h : mH}  (hr : f_Md_isFact_J36 s0 s1 h = some r) : mJ G M_Md_isFact 36 [(9, 0), (9, 0), (9, 0)] [(0, s1), (0, s0)] h r := by
  unfold f_Md_isFact_J36 at hr
  refine j_icmp_ne (pc := 36) (tgt := 43) d_Md_isFact_36 hr (fun hr => ?_) (fun hr => ?_)
  · refine j_iconst (pc := 43) d_Md_isFact_43 ?_
    exact j_zret (pc := 44) d_Md_isFact_44 rfl hr
  · refine j_iconst (pc := 39) d_Md_isFact_39 ?_
    refine j_goto (pc := 40) (tgt := 44) d_Md_isFact_40 ?_
    exact j_zret (pc := 44) d_Md_isFact_44 rfl hr
theorem t_Md_isFact_J21 {G : mG} {r : mR} {v1 s0 : Int} {h : mH}  (hr : f_Md_isFact_J21 v1 s0 h = some r) : mJ G M_Md_isFact 21 [(9, 0), (0, v1), (9, 0)] [(0, s0)] h r := by
  unfold f_Md_isFact_J21 at hr
  refine j_iload_n (pc := 21) d_Md_isFact_21 rfl ?_
  refine j_bipush (pc := 22) d_Md_isFact_22 ?_
  refine j_idiv (pc := 24) d_Md_isFact_24 hr (fun hr => ?_)
  refine j_bipush (pc := 25) d_Md_isFact_25 ?_
  refine j_irem (pc := 27) d_Md_isFact_27 hr (fun hr => ?_)
  refine j_if_ne (pc := 28) (tgt := 35) d_Md_isFact_28 hr (fun hr => ?_) (fun hr => ?_)
  · refine j_iconst (pc := 35) d_Md_isFact_35 ?_
    exact mJ_weak (ls' := [(9, 0), (9, 0), (9, 0)]) (mwk_s (mwk_d (mwk_s mwk_n))) (t_Md_isFact_J36  hr)
  · refine j_iconst (pc := 31) d_Md_isFact_31 ?_
    refine j_goto (pc := 32) (tgt := 36) d_Md_isFact_32 ?_
    exact mJ_weak (ls' := [(9, 0), (9, 0), (9, 0)]) (mwk_s (mwk_d (mwk_s mwk_n))) (t_Md_isFact_J36  hr)
theorem t_Md_isFact {G : mG} (h : mH) (v0 v1 v2 : Int) (r : mR) (hr : f_Md_isFact h v0 v1 v2 = some r) : mJM G M_Md_isFact [(2, v0), (0, v1), (0, v2)] h r := by
  refine mJM_of (L := [(2, v0), (0, v1), (0, v2)]) rfl rfl rfl (Nat.le_of_ble_eq_true rfl) ?_
  unfold f_Md_isFact at hr
  refine j_aload_n (pc := 0) d_Md_isFact_0 rfl ?_
  refine j_iload_n (pc := 1) d_Md_isFact_1 rfl ?_
  refine j_iload_n (pc := 2) d_Md_isFact_2 rfl ?_
  refine j_bipush (pc := 3) d_Md_isFact_3 ?_
  refine j_idiv (pc := 5) d_Md_isFact_5 hr (fun hr => ?_)
  obtain ⟨ha, hr⟩ := chk_some hr
  refine j_callG (pc := 6) (stk := [(0, w32 (Int.tdiv v1 100)), (0, v2), (2, v0)]) (as := [(2, v0), (0, v2), (0, w32 (Int.tdiv v1 100))]) (P := (fun v9 => ((0 : Nat), v9) :: [])) (tg := 0) (My := M_Md_placeOf) (mRunV (as := [(0, v2), (0, w32 (Int.tdiv v1 100))]) (st := []) d_Md_isFact_6 (mc_Md_placeOf (by decide)) rfl (mv_Md_placeOf tb_ml_Md_271) rfl (Nat.le_of_ble_eq_true rfl) ha) (fun v => rfl) rfl hr (fun r1 h1 => t_Md_placeOf _ _ _ _ _ h1) (fun x2 h1 hr => ?_)
  refine j_iload_n (pc := 9) d_Md_isFact_9 rfl ?_
  refine j_bipush (pc := 10) d_Md_isFact_10 ?_
  refine j_irem (pc := 12) d_Md_isFact_12 hr (fun hr => ?_)
  refine j_icmp_ne (pc := 13) (tgt := 20) d_Md_isFact_13 hr (fun hr => ?_) (fun hr => ?_)
  · refine j_iconst (pc := 20) d_Md_isFact_20 ?_
    exact mJ_weak (ls' := [(9, 0), (0, v1), (9, 0)]) (mwk_d (mwk_s (mwk_d mwk_n))) (t_Md_isFact_J21  hr)
  · refine j_iconst (pc := 16) d_Md_isFact_16 ?_
    refine j_goto (pc := 17) (tgt := 21) d_Md_isFact_17 ?_
    exact mJ_weak (ls' := [(9, 0), (0, v1), (9, 0)]) (mwk_d (mwk_s (mwk_d mwk_n))) (t_Md_isFact_J21  hr)
def M_Md_isAsTold : mM := ("NineBarsModel", ⟨"NineBarsModel", "isAsTold", "(II)Z"⟩, prog_13_method_101_code, 6, some .boolean, [], 7)
theorem tb_co_Md_isAsTold : mTB (Cond.code ⟨"NineBarsModel", "isAsTold", "(II)Z"⟩ prog_13_method_101_code 6 (some .boolean)) := tbq9 30 (by decide +kernel) rfl
theorem mc_Md_isAsTold {M : mM} (hd : 7 < mDp M) : mCal M M_Md_isAsTold 2 := ⟨tb_co_Md_isAsTold, tb_in_NineBarsModel, ⟨by decide +kernel, by decide +kernel⟩, by decide +kernel, hd, by decide⟩
theorem d_Md_isAsTold_0 : decode prog_13_method_101_code 0 = .ok (.iconst 0, 1) := by decide +kernel
theorem d_Md_isAsTold_1 : decode prog_13_method_101_code 1 = .ok (.istore_n 3, 1) := by decide +kernel
theorem d_Md_isAsTold_2 : decode prog_13_method_101_code 2 = .ok (.iload_n 3, 1) := by decide +kernel
theorem d_Md_isAsTold_3 : decode prog_13_method_101_code 3 = .ok (.aload_n 0, 1) := by decide +kernel
theorem d_Md_isAsTold_4 : decode prog_13_method_101_code 4 = .ok (.getfield 80, 3) := by decide +kernel
theorem d_Md_isAsTold_7 : decode prog_13_method_101_code 7 = .ok (.iload_n 1, 1) := by decide +kernel
theorem d_Md_isAsTold_8 : decode prog_13_method_101_code 8 = .ok (.iaload, 1) := by decide +kernel
theorem d_Md_isAsTold_9 : decode prog_13_method_101_code 9 = .ok (.if_icmp .ge 55, 3) := by decide +kernel
theorem d_Md_isAsTold_64 : decode prog_13_method_101_code 64 = .ok (.iconst 1, 1) := by decide +kernel
theorem d_Md_isAsTold_65 : decode prog_13_method_101_code 65 = .ok (.ireturn, 1) := by decide +kernel
theorem d_Md_isAsTold_12 : decode prog_13_method_101_code 12 = .ok (.aload_n 0, 1) := by decide +kernel
theorem d_Md_isAsTold_13 : decode prog_13_method_101_code 13 = .ok (.getfield 83, 3) := by decide +kernel
theorem d_Md_isAsTold_16 : decode prog_13_method_101_code 16 = .ok (.bipush 40, 2) := by decide +kernel
theorem d_Md_isAsTold_18 : decode prog_13_method_101_code 18 = .ok (.iload_n 1, 1) := by decide +kernel
theorem d_Md_isAsTold_19 : decode prog_13_method_101_code 19 = .ok (.imul, 1) := by decide +kernel
theorem d_Md_isAsTold_20 : decode prog_13_method_101_code 20 = .ok (.iload_n 3, 1) := by decide +kernel
theorem d_Md_isAsTold_21 : decode prog_13_method_101_code 21 = .ok (.iadd, 1) := by decide +kernel
theorem d_Md_isAsTold_22 : decode prog_13_method_101_code 22 = .ok (.laload, 1) := by decide +kernel
theorem d_Md_isAsTold_23 : decode prog_13_method_101_code 23 = .ok (.lstore 4, 2) := by decide +kernel
theorem d_Md_isAsTold_25 : decode prog_13_method_101_code 25 = .ok (.aload_n 0, 1) := by decide +kernel
theorem d_Md_isAsTold_26 : decode prog_13_method_101_code 26 = .ok (.iload_n 2, 1) := by decide +kernel
theorem d_Md_isAsTold_27 : decode prog_13_method_101_code 27 = .ok (.lload 4, 2) := by decide +kernel
theorem d_Md_isAsTold_29 : decode prog_13_method_101_code 29 = .ok (.ldc2_w 287, 3) := by decide +kernel
theorem d_Md_isAsTold_32 : decode prog_13_method_101_code 32 = .ok (.ldiv, 1) := by decide +kernel
theorem d_Md_isAsTold_33 : decode prog_13_method_101_code 33 = .ok (.l2i, 1) := by decide +kernel
theorem d_Md_isAsTold_34 : decode prog_13_method_101_code 34 = .ok (.invokevirtual 396, 3) := by decide +kernel
theorem tb_ml_Md_396 : mTB (Cond.methodLink "NineBarsModel" 396 ⟨"NineBarsModel", "isFact", "(II)Z"⟩) := tbq9 31 (by decide +kernel) rfl
theorem tb_im_Md_isFact : mTB (Cond.instanceMethod ⟨"NineBarsModel", "isFact", "(II)Z"⟩) := tbq9 33 (by decide +kernel) rfl
theorem tb_se_Md_isFact : mTB (Cond.selects "NineBarsModel" ⟨"NineBarsModel", "isFact", "(II)Z"⟩ ⟨"NineBarsModel", "isFact", "(II)Z"⟩) := tbqp 104 (by decide +kernel) rfl
theorem mv_Md_isFact {M : mM} {idx : Nat} (h : mTB (Cond.methodLink (mO M) idx ⟨"NineBarsModel", "isFact", "(II)Z"⟩)) : mCaV M M_Md_isFact idx 11 := ⟨h, tb_im_Md_isFact, tb_se_Md_isFact, by decide, TX11, 40, rfl⟩
theorem d_Md_isAsTold_37 : decode prog_13_method_101_code 37 = .ok (.lload 4, 2) := by decide +kernel
theorem d_Md_isAsTold_39 : decode prog_13_method_101_code 39 = .ok (.ldc2_w 287, 3) := by decide +kernel
theorem d_Md_isAsTold_42 : decode prog_13_method_101_code 42 = .ok (.lrem, 1) := by decide +kernel
theorem d_Md_isAsTold_43 : decode prog_13_method_101_code 43 = .ok (.lconst 1, 1) := by decide +kernel
theorem d_Md_isAsTold_44 : decode prog_13_method_101_code 44 = .ok (.lcmp, 1) := by decide +kernel
theorem d_Md_isAsTold_45 : decode prog_13_method_101_code 45 = .ok (.ifCond .ne 7, 3) := by decide +kernel
theorem d_Md_isAsTold_52 : decode prog_13_method_101_code 52 = .ok (.iconst 0, 1) := by decide +kernel
theorem d_Md_isAsTold_53 : decode prog_13_method_101_code 53 = .ok (.if_icmp .eq 5, 3) := by decide +kernel
theorem d_Md_isAsTold_58 : decode prog_13_method_101_code 58 = .ok (.iinc 3 1, 3) := by decide +kernel
theorem d_Md_isAsTold_61 : decode prog_13_method_101_code 61 = .ok (.goto (-59), 3) := by decide +kernel
theorem d_Md_isAsTold_56 : decode prog_13_method_101_code 56 = .ok (.iconst 0, 1) := by decide +kernel
theorem d_Md_isAsTold_57 : decode prog_13_method_101_code 57 = .ok (.ireturn, 1) := by decide +kernel
theorem d_Md_isAsTold_48 : decode prog_13_method_101_code 48 = .ok (.iconst 1, 1) := by decide +kernel
theorem d_Md_isAsTold_49 : decode prog_13_method_101_code 49 = .ok (.goto 4, 3) := by decide +kernel
theorem t_Md_isAsTold_J53 {G : mG} {r : mR} {v0 v1 v2 v3 s0 s1 : Int} {h : mH} {R2 : mH → Int → Option mR} (hR2 : ∀ (h : mH) (w3 : Int) , R2 h w3 = some r → mJ G M_Md_isAsTold 2 [(2, v0), (0, v1), (0, v2), (0, w3), (9, 0), (9, 0)] [] h r) (hr : f_Md_isAsTold_J53 R2 v3 s0 s1 h = some r) : mJ G M_Md_isAsTold 53 [(2, v0), (0, v1), (0, v2), (0, v3), (9, 0), (9, 0)] [(0, s1), (0, s0)] h r := by
  unfold f_Md_isAsTold_J53 at hr
  refine j_icmp_eq (pc := 53) (tgt := 58) d_Md_isAsTold_53 hr (fun hr => ?_) (fun hr => ?_)
  · refine j_iincW (pc := 58) (L := fun x1 => [(2, v0), (0, v1), (0, v2), (0, x1), (9, 0), (9, 0)]) d_Md_isAsTold_58 rfl (fun _ => rfl) hr (fun x1 hr => ?_)
    refine j_goto (pc := 61) (tgt := 2) d_Md_isAsTold_61 ?_
    exact mJ_weak (ls' := [(2, v0), (0, v1), (0, v2), (0, x1), (9, 0), (9, 0)]) (mwk_s (mwk_s (mwk_s (mwk_s (mwk_s (mwk_s mwk_n)))))) (hR2 h _ hr)
  · refine j_iconst (pc := 56) d_Md_isAsTold_56 ?_
    exact j_zret (pc := 57) d_Md_isAsTold_57 rfl hr
theorem t_Md_isAsTold_L2 {G : mG} {r : mR} {v0 v1 v2 : Int}  : ∀ (n : Nat) (h : mH) (v3 : Int), f_Md_isAsTold_L2 v0 v1 v2 n h v3 = some r → mJ G M_Md_isAsTold 2 [(2, v0), (0, v1), (0, v2), (0, v3), (9, 0), (9, 0)] [] h r := by
  intro n
  induction n with
  | zero =>
    intro h v3 hr
    rw [f_Md_isAsTold_L2] at hr
    cases hr
  | succ n hR2 =>
    intro h v3 hr
    rw [f_Md_isAsTold_L2] at hr
    refine j_iload_n (pc := 2) d_Md_isAsTold_2 rfl ?_
    refine j_aload_n (pc := 3) d_Md_isAsTold_3 rfl ?_
    refine j_getf (pc := 4) d_Md_isAsTold_4 (fd_Md_80 rfl) hr (fun hr => ?_)
    refine j_iload_n (pc := 7) d_Md_isAsTold_7 rfl ?_
    refine j_iaload (pc := 8) d_Md_isAsTold_8 hr (fun hr => ?_)
    refine j_icmp_ge (pc := 9) (tgt := 64) d_Md_isAsTold_9 hr (fun hr => ?_) (fun hr => ?_)
    · refine j_iconst (pc := 64) d_Md_isAsTold_64 ?_
      exact j_zret (pc := 65) d_Md_isAsTold_65 rfl hr
    · refine j_aload_n (pc := 12) d_Md_isAsTold_12 rfl ?_
      refine j_getf (pc := 13) d_Md_isAsTold_13 (fd_Md_83 rfl) hr (fun hr => ?_)
      refine j_bipush (pc := 16) d_Md_isAsTold_16 ?_
      refine j_iload_n (pc := 18) d_Md_isAsTold_18 rfl ?_
      refine j_imul (pc := 19) d_Md_isAsTold_19 ?_
      refine j_iload_n (pc := 20) d_Md_isAsTold_20 rfl ?_
      refine j_iadd (pc := 21) d_Md_isAsTold_21 ?_
      refine j_laload (pc := 22) d_Md_isAsTold_22 hr (fun hr => ?_)
      refine j_lstoreW (pc := 23) (L := fun x1 => [(2, v0), (0, v1), (0, v2), (0, v3), (1, x1), (9, 0)]) d_Md_isAsTold_23 (fun _ => rfl) hr (fun x1 hr => ?_)
      refine j_aload_n (pc := 25) d_Md_isAsTold_25 rfl ?_
      refine j_iload_n (pc := 26) d_Md_isAsTold_26 rfl ?_
      refine j_lload (pc := 27) d_Md_isAsTold_27 rfl ?_
      refine j_ldc2 (pc := 29) (z := 2) d_Md_isAsTold_29 tb_cj_Md_287 rfl ?_
      refine j_ldiv (pc := 32) d_Md_isAsTold_32 hr (fun hr => ?_)
      refine j_l2i (pc := 33) d_Md_isAsTold_33 ?_
      obtain ⟨ha, hr⟩ := chk_some hr
      refine j_callG (pc := 34) (stk := [(0, w32 (w64 (Int.tdiv x1 2))), (0, v2), (2, v0)]) (as := [(2, v0), (0, v2), (0, w32 (w64 (Int.tdiv x1 2)))]) (P := (fun v9 => ((0 : Nat), v9) :: [])) (tg := 0) (My := M_Md_isFact) (mRunV (as := [(0, v2), (0, w32 (w64 (Int.tdiv x1 2)))]) (st := []) d_Md_isAsTold_34 (mc_Md_isFact (by decide)) rfl (mv_Md_isFact tb_ml_Md_396) rfl (Nat.le_of_ble_eq_true rfl) ha) (fun v => rfl) rfl hr (fun r1 h1 => t_Md_isFact _ _ _ _ _ h1) (fun x3 h2 hr => ?_)
      refine j_lload (pc := 37) d_Md_isAsTold_37 rfl ?_
      refine j_ldc2 (pc := 39) (z := 2) d_Md_isAsTold_39 tb_cj_Md_287 rfl ?_
      refine j_lrem (pc := 42) d_Md_isAsTold_42 hr (fun hr => ?_)
      refine j_lconst (pc := 43) (z := 1) d_Md_isAsTold_43 ?_
      refine j_lcmp (pc := 44) d_Md_isAsTold_44 ?_
      refine j_if_ne (pc := 45) (tgt := 52) d_Md_isAsTold_45 hr (fun hr => ?_) (fun hr => ?_)
      · refine j_iconst (pc := 52) d_Md_isAsTold_52 ?_
        exact mJ_weak (ls' := [(2, v0), (0, v1), (0, v2), (0, v3), (9, 0), (9, 0)]) (mwk_s (mwk_s (mwk_s (mwk_s (mwk_d (mwk_s mwk_n)))))) (t_Md_isAsTold_J53 hR2 hr)
      · refine j_iconst (pc := 48) d_Md_isAsTold_48 ?_
        refine j_goto (pc := 49) (tgt := 53) d_Md_isAsTold_49 ?_
        exact mJ_weak (ls' := [(2, v0), (0, v1), (0, v2), (0, v3), (9, 0), (9, 0)]) (mwk_s (mwk_s (mwk_s (mwk_s (mwk_d (mwk_s mwk_n)))))) (t_Md_isAsTold_J53 hR2 hr)
theorem t_Md_isAsTold {G : mG} (h : mH) (v0 v1 v2 : Int) (r : mR) (hr : f_Md_isAsTold h v0 v1 v2 = some r) : mJM G M_Md_isAsTold [(2, v0), (0, v1), (0, v2)] h r := by
  refine mJM_of (L := [(2, v0), (0, v1), (0, v2), (9, 0), (9, 0), (9, 0)]) rfl rfl rfl (Nat.le_of_ble_eq_true rfl) ?_
  unfold f_Md_isAsTold at hr
  refine j_iconst (pc := 0) d_Md_isAsTold_0 ?_
  refine j_istore_n (pc := 1) (ls' := [(2, v0), (0, v1), (0, v2), (0, 0), (9, 0), (9, 0)]) d_Md_isAsTold_1 rfl ?_
  refine mJ_weak (ls' := [(2, v0), (0, v1), (0, v2), (0, 0), (9, 0), (9, 0)]) (mwk_s (mwk_s (mwk_s (mwk_s (mwk_s (mwk_s mwk_n)))))) (t_Md_isAsTold_L2  _ _ _ hr)
def M_Md_laysFacts : mM := ("NineBarsModel", ⟨"NineBarsModel", "laysFacts", "(II)I"⟩, prog_13_method_102_code, 7, some .int, [], 9)
theorem tb_co_Md_laysFacts : mTB (Cond.code ⟨"NineBarsModel", "laysFacts", "(II)I"⟩ prog_13_method_102_code 7 (some .int)) := tbq9 26 (by decide +kernel) rfl
theorem mc_Md_laysFacts {M : mM} (hd : 9 < mDp M) : mCal M M_Md_laysFacts 2 := ⟨tb_co_Md_laysFacts, tb_in_NineBarsModel, ⟨by decide +kernel, by decide +kernel⟩, by decide +kernel, hd, by decide⟩
theorem d_Md_laysFacts_0 : decode prog_13_method_102_code 0 = .ok (.iload_n 1, 1) := by decide +kernel
theorem d_Md_laysFacts_1 : decode prog_13_method_102_code 1 = .ok (.ifCond .lt 21, 3) := by decide +kernel
theorem d_Md_laysFacts_22 : decode prog_13_method_102_code 22 = .ok (.iconst 1, 1) := by decide +kernel
theorem d_Md_laysFacts_23 : decode prog_13_method_102_code 23 = .ok (.ireturn, 1) := by decide +kernel
theorem d_Md_laysFacts_4 : decode prog_13_method_102_code 4 = .ok (.aload_n 0, 1) := by decide +kernel
theorem d_Md_laysFacts_5 : decode prog_13_method_102_code 5 = .ok (.iload_n 1, 1) := by decide +kernel
theorem d_Md_laysFacts_6 : decode prog_13_method_102_code 6 = .ok (.iconst 2, 1) := by decide +kernel
theorem d_Md_laysFacts_7 : decode prog_13_method_102_code 7 = .ok (.idiv, 1) := by decide +kernel
theorem d_Md_laysFacts_8 : decode prog_13_method_102_code 8 = .ok (.i2l, 1) := by decide +kernel
theorem d_Md_laysFacts_9 : decode prog_13_method_102_code 9 = .ok (.invokevirtual 226, 3) := by decide +kernel
theorem d_Md_laysFacts_12 : decode prog_13_method_102_code 12 = .ok (.ifCond .eq 10, 3) := by decide +kernel
theorem d_Md_laysFacts_15 : decode prog_13_method_102_code 15 = .ok (.iload_n 2, 1) := by decide +kernel
theorem d_Md_laysFacts_16 : decode prog_13_method_102_code 16 = .ok (.invokestatic 284, 3) := by decide +kernel
theorem d_Md_laysFacts_19 : decode prog_13_method_102_code 19 = .ok (.ifCond .ne 5, 3) := by decide +kernel
theorem d_Md_laysFacts_24 : decode prog_13_method_102_code 24 = .ok (.aload_n 0, 1) := by decide +kernel
theorem d_Md_laysFacts_25 : decode prog_13_method_102_code 25 = .ok (.getfield 77, 3) := by decide +kernel
theorem d_Md_laysFacts_28 : decode prog_13_method_102_code 28 = .ok (.iload_n 2, 1) := by decide +kernel
theorem d_Md_laysFacts_29 : decode prog_13_method_102_code 29 = .ok (.iaload, 1) := by decide +kernel
theorem d_Md_laysFacts_30 : decode prog_13_method_102_code 30 = .ok (.iconst (-1), 1) := by decide +kernel
theorem d_Md_laysFacts_31 : decode prog_13_method_102_code 31 = .ok (.if_icmp .eq 10, 3) := by decide +kernel
theorem d_Md_laysFacts_41 : decode prog_13_method_102_code 41 = .ok (.iconst 2, 1) := by decide +kernel
theorem d_Md_laysFacts_42 : decode prog_13_method_102_code 42 = .ok (.ireturn, 1) := by decide +kernel
theorem d_Md_laysFacts_34 : decode prog_13_method_102_code 34 = .ok (.aload_n 0, 1) := by decide +kernel
theorem d_Md_laysFacts_35 : decode prog_13_method_102_code 35 = .ok (.invokevirtual 261, 3) := by decide +kernel
theorem d_Md_laysFacts_38 : decode prog_13_method_102_code 38 = .ok (.ifCond .eq 5, 3) := by decide +kernel
theorem d_Md_laysFacts_43 : decode prog_13_method_102_code 43 = .ok (.iconst 0, 1) := by decide +kernel
theorem d_Md_laysFacts_44 : decode prog_13_method_102_code 44 = .ok (.istore_n 3, 1) := by decide +kernel
theorem d_Md_laysFacts_45 : decode prog_13_method_102_code 45 = .ok (.iload_n 3, 1) := by decide +kernel
theorem d_Md_laysFacts_46 : decode prog_13_method_102_code 46 = .ok (.aload_n 0, 1) := by decide +kernel
theorem d_Md_laysFacts_47 : decode prog_13_method_102_code 47 = .ok (.getfield 80, 3) := by decide +kernel
theorem d_Md_laysFacts_50 : decode prog_13_method_102_code 50 = .ok (.iload_n 2, 1) := by decide +kernel
theorem d_Md_laysFacts_51 : decode prog_13_method_102_code 51 = .ok (.iaload, 1) := by decide +kernel
theorem d_Md_laysFacts_52 : decode prog_13_method_102_code 52 = .ok (.if_icmp .ge 40, 3) := by decide +kernel
theorem d_Md_laysFacts_55 : decode prog_13_method_102_code 55 = .ok (.aload_n 0, 1) := by decide +kernel
theorem d_Md_laysFacts_56 : decode prog_13_method_102_code 56 = .ok (.getfield 83, 3) := by decide +kernel
theorem d_Md_laysFacts_59 : decode prog_13_method_102_code 59 = .ok (.bipush 40, 2) := by decide +kernel
theorem d_Md_laysFacts_61 : decode prog_13_method_102_code 61 = .ok (.iload_n 2, 1) := by decide +kernel
theorem d_Md_laysFacts_62 : decode prog_13_method_102_code 62 = .ok (.imul, 1) := by decide +kernel
theorem d_Md_laysFacts_63 : decode prog_13_method_102_code 63 = .ok (.iload_n 3, 1) := by decide +kernel
theorem d_Md_laysFacts_64 : decode prog_13_method_102_code 64 = .ok (.iadd, 1) := by decide +kernel
theorem d_Md_laysFacts_65 : decode prog_13_method_102_code 65 = .ok (.laload, 1) := by decide +kernel
theorem d_Md_laysFacts_66 : decode prog_13_method_102_code 66 = .ok (.lconst 0, 1) := by decide +kernel
theorem d_Md_laysFacts_67 : decode prog_13_method_102_code 67 = .ok (.ldc2_w 287, 3) := by decide +kernel
theorem d_Md_laysFacts_70 : decode prog_13_method_102_code 70 = .ok (.aload_n 0, 1) := by decide +kernel
theorem d_Md_laysFacts_71 : decode prog_13_method_102_code 71 = .ok (.invokevirtual 219, 3) := by decide +kernel
theorem d_Md_laysFacts_74 : decode prog_13_method_102_code 74 = .ok (.i2l, 1) := by decide +kernel
theorem d_Md_laysFacts_75 : decode prog_13_method_102_code 75 = .ok (.lmul, 1) := by decide +kernel
theorem d_Md_laysFacts_76 : decode prog_13_method_102_code 76 = .ok (.lconst 1, 1) := by decide +kernel
theorem d_Md_laysFacts_77 : decode prog_13_method_102_code 77 = .ok (.lsub, 1) := by decide +kernel
theorem d_Md_laysFacts_78 : decode prog_13_method_102_code 78 = .ok (.invokestatic 147, 3) := by decide +kernel
theorem d_Md_laysFacts_81 : decode prog_13_method_102_code 81 = .ok (.ifCond .ne 5, 3) := by decide +kernel
theorem d_Md_laysFacts_86 : decode prog_13_method_102_code 86 = .ok (.iinc 3 1, 3) := by decide +kernel
theorem d_Md_laysFacts_89 : decode prog_13_method_102_code 89 = .ok (.goto (-44), 3) := by decide +kernel
theorem d_Md_laysFacts_84 : decode prog_13_method_102_code 84 = .ok (.iconst 3, 1) := by decide +kernel
theorem d_Md_laysFacts_85 : decode prog_13_method_102_code 85 = .ok (.ireturn, 1) := by decide +kernel
theorem d_Md_laysFacts_92 : decode prog_13_method_102_code 92 = .ok (.aload_n 0, 1) := by decide +kernel
theorem d_Md_laysFacts_93 : decode prog_13_method_102_code 93 = .ok (.iconst 0, 1) := by decide +kernel
theorem tb_fl_Md_399 : mTB (Cond.fieldLink "NineBarsModel" 399 "NineBarsModel" "factMany" "I") := tbq7 1 (by decide +kernel) rfl
theorem fd_Md_399 {M : mM} (h : mO M = "NineBarsModel") : mFld M 399 11 34 0 := ⟨_, _, _, tyX11, rfl, by decide, by decide, rfl, uw_11, tyX11_ok, nmX11, by rw [h]; exact Or.inl tb_fl_Md_399⟩
theorem d_Md_laysFacts_94 : decode prog_13_method_102_code 94 = .ok (.putfield 399, 3) := by decide +kernel
theorem d_Md_laysFacts_97 : decode prog_13_method_102_code 97 = .ok (.iconst 0, 1) := by decide +kernel
theorem d_Md_laysFacts_98 : decode prog_13_method_102_code 98 = .ok (.istore_n 3, 1) := by decide +kernel
theorem d_Md_laysFacts_99 : decode prog_13_method_102_code 99 = .ok (.iload_n 3, 1) := by decide +kernel
theorem d_Md_laysFacts_100 : decode prog_13_method_102_code 100 = .ok (.aload_n 0, 1) := by decide +kernel
theorem d_Md_laysFacts_101 : decode prog_13_method_102_code 101 = .ok (.invokevirtual 210, 3) := by decide +kernel
theorem d_Md_laysFacts_104 : decode prog_13_method_102_code 104 = .ok (.if_icmp .ge 100, 3) := by decide +kernel
theorem d_Md_laysFacts_204 : decode prog_13_method_102_code 204 = .ok (.iconst 0, 1) := by decide +kernel
theorem d_Md_laysFacts_205 : decode prog_13_method_102_code 205 = .ok (.ireturn, 1) := by decide +kernel
theorem d_Md_laysFacts_107 : decode prog_13_method_102_code 107 = .ok (.iconst 0, 1) := by decide +kernel
theorem d_Md_laysFacts_108 : decode prog_13_method_102_code 108 = .ok (.istore 4, 2) := by decide +kernel
theorem d_Md_laysFacts_110 : decode prog_13_method_102_code 110 = .ok (.iload 4, 2) := by decide +kernel
theorem d_Md_laysFacts_112 : decode prog_13_method_102_code 112 = .ok (.iconst 2, 1) := by decide +kernel
theorem d_Md_laysFacts_113 : decode prog_13_method_102_code 113 = .ok (.if_icmp .ge 85, 3) := by decide +kernel
theorem d_Md_laysFacts_116 : decode prog_13_method_102_code 116 = .ok (.iload_n 3, 1) := by decide +kernel
theorem d_Md_laysFacts_117 : decode prog_13_method_102_code 117 = .ok (.iload_n 1, 1) := by decide +kernel
theorem d_Md_laysFacts_118 : decode prog_13_method_102_code 118 = .ok (.iconst 2, 1) := by decide +kernel
theorem d_Md_laysFacts_119 : decode prog_13_method_102_code 119 = .ok (.idiv, 1) := by decide +kernel
theorem d_Md_laysFacts_120 : decode prog_13_method_102_code 120 = .ok (.if_icmp .eq 78, 3) := by decide +kernel
theorem d_Md_laysFacts_123 : decode prog_13_method_102_code 123 = .ok (.iconst 0, 1) := by decide +kernel
theorem d_Md_laysFacts_124 : decode prog_13_method_102_code 124 = .ok (.istore 5, 2) := by decide +kernel
theorem d_Md_laysFacts_126 : decode prog_13_method_102_code 126 = .ok (.iload 5, 2) := by decide +kernel
theorem d_Md_laysFacts_128 : decode prog_13_method_102_code 128 = .ok (.aload_n 0, 1) := by decide +kernel
theorem d_Md_laysFacts_129 : decode prog_13_method_102_code 129 = .ok (.iload_n 3, 1) := by decide +kernel
theorem d_Md_laysFacts_130 : decode prog_13_method_102_code 130 = .ok (.iconst 0, 1) := by decide +kernel
theorem d_Md_laysFacts_131 : decode prog_13_method_102_code 131 = .ok (.invokevirtual 213, 3) := by decide +kernel
theorem d_Md_laysFacts_134 : decode prog_13_method_102_code 134 = .ok (.if_icmp .ge 58, 3) := by decide +kernel
theorem d_Md_laysFacts_137 : decode prog_13_method_102_code 137 = .ok (.bipush 100, 2) := by decide +kernel
theorem d_Md_laysFacts_139 : decode prog_13_method_102_code 139 = .ok (.iload_n 3, 1) := by decide +kernel
theorem d_Md_laysFacts_140 : decode prog_13_method_102_code 140 = .ok (.imul, 1) := by decide +kernel
theorem d_Md_laysFacts_141 : decode prog_13_method_102_code 141 = .ok (.bipush 10, 2) := by decide +kernel
theorem d_Md_laysFacts_143 : decode prog_13_method_102_code 143 = .ok (.iload 4, 2) := by decide +kernel
theorem d_Md_laysFacts_145 : decode prog_13_method_102_code 145 = .ok (.imul, 1) := by decide +kernel
theorem d_Md_laysFacts_146 : decode prog_13_method_102_code 146 = .ok (.iadd, 1) := by decide +kernel
theorem d_Md_laysFacts_147 : decode prog_13_method_102_code 147 = .ok (.iload 5, 2) := by decide +kernel
theorem d_Md_laysFacts_149 : decode prog_13_method_102_code 149 = .ok (.iadd, 1) := by decide +kernel
theorem d_Md_laysFacts_150 : decode prog_13_method_102_code 150 = .ok (.istore 6, 2) := by decide +kernel
theorem d_Md_laysFacts_152 : decode prog_13_method_102_code 152 = .ok (.aload_n 0, 1) := by decide +kernel
theorem d_Md_laysFacts_153 : decode prog_13_method_102_code 153 = .ok (.iload_n 2, 1) := by decide +kernel
theorem d_Md_laysFacts_154 : decode prog_13_method_102_code 154 = .ok (.iload 6, 2) := by decide +kernel
theorem d_Md_laysFacts_156 : decode prog_13_method_102_code 156 = .ok (.invokevirtual 402, 3) := by decide +kernel
theorem tb_ml_Md_402 : mTB (Cond.methodLink "NineBarsModel" 402 ⟨"NineBarsModel", "isAsTold", "(II)Z"⟩) := tbq9 27 (by decide +kernel) rfl
theorem tb_im_Md_isAsTold : mTB (Cond.instanceMethod ⟨"NineBarsModel", "isAsTold", "(II)Z"⟩) := tbq9 29 (by decide +kernel) rfl
theorem tb_se_Md_isAsTold : mTB (Cond.selects "NineBarsModel" ⟨"NineBarsModel", "isAsTold", "(II)Z"⟩ ⟨"NineBarsModel", "isAsTold", "(II)Z"⟩) := tbqp 103 (by decide +kernel) rfl
theorem mv_Md_isAsTold {M : mM} {idx : Nat} (h : mTB (Cond.methodLink (mO M) idx ⟨"NineBarsModel", "isAsTold", "(II)Z"⟩)) : mCaV M M_Md_isAsTold idx 11 := ⟨h, tb_im_Md_isAsTold, tb_se_Md_isAsTold, by decide, TX11, 40, rfl⟩
theorem d_Md_laysFacts_159 : decode prog_13_method_102_code 159 = .ok (.ifCond .ne 6, 3) := by decide +kernel
theorem d_Md_laysFacts_165 : decode prog_13_method_102_code 165 = .ok (.aload_n 0, 1) := by decide +kernel
theorem d_Md_laysFacts_166 : decode prog_13_method_102_code 166 = .ok (.getfield 68, 3) := by decide +kernel
theorem d_Md_laysFacts_169 : decode prog_13_method_102_code 169 = .ok (.aload_n 0, 1) := by decide +kernel
theorem d_Md_laysFacts_170 : decode prog_13_method_102_code 170 = .ok (.getfield 399, 3) := by decide +kernel
theorem d_Md_laysFacts_173 : decode prog_13_method_102_code 173 = .ok (.iload 6, 2) := by decide +kernel
theorem d_Md_laysFacts_175 : decode prog_13_method_102_code 175 = .ok (.iastore, 1) := by decide +kernel
theorem d_Md_laysFacts_176 : decode prog_13_method_102_code 176 = .ok (.aload_n 0, 1) := by decide +kernel
theorem d_Md_laysFacts_177 : decode prog_13_method_102_code 177 = .ok (.dup, 1) := by decide +kernel
theorem d_Md_laysFacts_178 : decode prog_13_method_102_code 178 = .ok (.getfield 399, 3) := by decide +kernel
theorem d_Md_laysFacts_181 : decode prog_13_method_102_code 181 = .ok (.iconst 1, 1) := by decide +kernel
theorem d_Md_laysFacts_182 : decode prog_13_method_102_code 182 = .ok (.iadd, 1) := by decide +kernel
theorem d_Md_laysFacts_183 : decode prog_13_method_102_code 183 = .ok (.putfield 399, 3) := by decide +kernel
theorem d_Md_laysFacts_186 : decode prog_13_method_102_code 186 = .ok (.iinc 5 1, 3) := by decide +kernel
theorem d_Md_laysFacts_189 : decode prog_13_method_102_code 189 = .ok (.goto (-63), 3) := by decide +kernel
theorem d_Md_laysFacts_162 : decode prog_13_method_102_code 162 = .ok (.goto 24, 3) := by decide +kernel
theorem d_Md_laysFacts_192 : decode prog_13_method_102_code 192 = .ok (.iinc 4 1, 3) := by decide +kernel
theorem d_Md_laysFacts_195 : decode prog_13_method_102_code 195 = .ok (.goto (-85), 3) := by decide +kernel
theorem d_Md_laysFacts_198 : decode prog_13_method_102_code 198 = .ok (.iinc 3 1, 3) := by decide +kernel
theorem d_Md_laysFacts_201 : decode prog_13_method_102_code 201 = .ok (.goto (-102), 3) := by decide +kernel
theorem t_Md_laysFacts_L45 {G : mG} {r : mR} {v0 v1 v2 : Int} {K92 : mH → Option mR} (hK92 : ∀ (h : mH) , K92 h  = some r → mJ G M_Md_laysFacts 92 [(2, v0), (0, v1), (0, v2), (9, 0), (9, 0), (9, 0), (9, 0)] [] h r) : ∀ (n : Nat) (h : mH) (v3 : Int), f_Md_laysFacts_L45 K92 v0 v2 n h v3 = some r → mJ G M_Md_laysFacts 45 [(2, v0), (0, v1), (0, v2), (0, v3), (9, 0), (9, 0), (9, 0)] [] h r := by
  intro n
  induction n with
  | zero =>
    intro h v3 hr
    rw [f_Md_laysFacts_L45] at hr
    cases hr
  | succ n hR45 =>
    intro h v3 hr
    rw [f_Md_laysFacts_L45] at hr
    refine j_iload_n (pc := 45) d_Md_laysFacts_45 rfl ?_
    refine j_aload_n (pc := 46) d_Md_laysFacts_46 rfl ?_
    refine j_getf (pc := 47) d_Md_laysFacts_47 (fd_Md_80 rfl) hr (fun hr => ?_)
    refine j_iload_n (pc := 50) d_Md_laysFacts_50 rfl ?_
    refine j_iaload (pc := 51) d_Md_laysFacts_51 hr (fun hr => ?_)
    refine j_icmp_ge (pc := 52) (tgt := 92) d_Md_laysFacts_52 hr (fun hr => ?_) (fun hr => ?_)
    · exact mJ_weak (ls' := [(2, v0), (0, v1), (0, v2), (9, 0), (9, 0), (9, 0), (9, 0)]) (mwk_s (mwk_s (mwk_s (mwk_d (mwk_s (mwk_s (mwk_s mwk_n))))))) (hK92 h  hr)
    · refine j_aload_n (pc := 55) d_Md_laysFacts_55 rfl ?_
      refine j_getf (pc := 56) d_Md_laysFacts_56 (fd_Md_83 rfl) hr (fun hr => ?_)
      refine j_bipush (pc := 59) d_Md_laysFacts_59 ?_
      refine j_iload_n (pc := 61) d_Md_laysFacts_61 rfl ?_
      refine j_imul (pc := 62) d_Md_laysFacts_62 ?_
      refine j_iload_n (pc := 63) d_Md_laysFacts_63 rfl ?_
      refine j_iadd (pc := 64) d_Md_laysFacts_64 ?_
      refine j_laload (pc := 65) d_Md_laysFacts_65 hr (fun hr => ?_)
      refine j_lconst (pc := 66) (z := 0) d_Md_laysFacts_66 ?_
      refine j_ldc2 (pc := 67) (z := 2) d_Md_laysFacts_67 tb_cj_Md_287 rfl ?_
      refine j_aload_n (pc := 70) d_Md_laysFacts_70 rfl ?_
      obtain ⟨ha, hr⟩ := chk_some hr
      refine j_callG (pc := 71) (stk := [(2, v0), (1, 2), (1, 0), (1, hpV h (hpV h v0 39) (w32 ((w32 (40 * v2)) + v3)))]) (as := [(2, v0)]) (P := (fun v9 => ((0 : Nat), v9) :: [(1, 2), (1, 0), (1, hpV h (hpV h v0 39) (w32 ((w32 (40 * v2)) + v3)))])) (tg := 0) (My := M_Md_stands) (mRunV (as := []) (st := [(1, 2), (1, 0), (1, hpV h (hpV h v0 39) (w32 ((w32 (40 * v2)) + v3)))]) d_Md_laysFacts_71 (mc_Md_stands (by decide)) rfl (mv_Md_stands tb_ml_Md_219) rfl (Nat.le_of_ble_eq_true rfl) ha) (fun v => rfl) rfl hr (fun r1 h1 => t_Md_stands _ _ _ h1) (fun x2 h1 hr => ?_)
      refine j_i2l (pc := 74) d_Md_laysFacts_74 ?_
      refine j_lmul (pc := 75) d_Md_laysFacts_75 ?_
      refine j_lconst (pc := 76) (z := 1) d_Md_laysFacts_76 ?_
      refine j_lsub (pc := 77) d_Md_laysFacts_77 ?_
      refine j_callG (pc := 78) (stk := [(1, w64 ((w64 (2 * x2)) - 1)), (1, 0), (1, hpV h (hpV h v0 39) (w32 ((w32 (40 * v2)) + v3)))]) (as := [(1, hpV h (hpV h v0 39) (w32 ((w32 (40 * v2)) + v3))), (1, 0), (1, w64 ((w64 (2 * x2)) - 1))]) (P := (fun v9 => ((0 : Nat), v9) :: [])) (tg := 0) (My := M_Md_amid) (mRunS (as := [(1, hpV h (hpV h v0 39) (w32 ((w32 (40 * v2)) + v3))), (1, 0), (1, w64 ((w64 (2 * x2)) - 1))]) (st := []) d_Md_laysFacts_78 (mc_Md_amid (by decide)) rfl ⟨tb_ml_Md_147, tb_sm_Md_amid⟩ rfl (Nat.le_of_ble_eq_true rfl)) (fun v => rfl) rfl hr (fun r1 h1 => t_Md_amid _ _ _ _ _ h1) (fun x4 h3 hr => ?_)
      refine j_if_ne (pc := 81) (tgt := 86) d_Md_laysFacts_81 hr (fun hr => ?_) (fun hr => ?_)
      · refine j_iincW (pc := 86) (L := fun x5 => [(2, v0), (0, v1), (0, v2), (0, x5), (9, 0), (9, 0), (9, 0)]) d_Md_laysFacts_86 rfl (fun _ => rfl) hr (fun x5 hr => ?_)
        refine j_goto (pc := 89) (tgt := 45) d_Md_laysFacts_89 ?_
        exact mJ_weak (ls' := [(2, v0), (0, v1), (0, v2), (0, x5), (9, 0), (9, 0), (9, 0)]) (mwk_s (mwk_s (mwk_s (mwk_s (mwk_s (mwk_s (mwk_s mwk_n))))))) (hR45 h3 _ hr)
      · refine j_iconst (pc := 84) d_Md_laysFacts_84 ?_
        exact j_iret (pc := 85) d_Md_laysFacts_85 rfl hr
theorem t_Md_laysFacts_J186 {G : mG} {r : mR} {v0 v1 v2 v3 v4 v5 : Int} {h : mH} {R126 : mH → Int → Option mR} (hR126 : ∀ (h : mH) (w5 : Int) , R126 h w5 = some r → mJ G M_Md_laysFacts 126 [(2, v0), (0, v1), (0, v2), (0, v3), (0, v4), (0, w5), (9, 0)] [] h r) (hr : f_Md_laysFacts_J186 R126 v5 h = some r) : mJ G M_Md_laysFacts 186 [(2, v0), (0, v1), (0, v2), (0, v3), (0, v4), (0, v5), (9, 0)] [] h r := by
  unfold f_Md_laysFacts_J186 at hr
  refine j_iincW (pc := 186) (L := fun x1 => [(2, v0), (0, v1), (0, v2), (0, v3), (0, v4), (0, x1), (9, 0)]) d_Md_laysFacts_186 rfl (fun _ => rfl) hr (fun x1 hr => ?_)
  refine j_goto (pc := 189) (tgt := 126) d_Md_laysFacts_189 ?_
  exact mJ_weak (ls' := [(2, v0), (0, v1), (0, v2), (0, v3), (0, v4), (0, x1), (9, 0)]) (mwk_s (mwk_s (mwk_s (mwk_s (mwk_s (mwk_s (mwk_s mwk_n))))))) (hR126 h _ hr)
theorem t_Md_laysFacts_L126 {G : mG} {r : mR} {v0 v1 v2 v3 v4 : Int} {K192 : mH → Option mR} (hK192 : ∀ (h : mH) , K192 h  = some r → mJ G M_Md_laysFacts 192 [(2, v0), (0, v1), (0, v2), (0, v3), (0, v4), (9, 0), (9, 0)] [] h r) : ∀ (n : Nat) (h : mH) (v5 : Int), f_Md_laysFacts_L126 K192 v0 v2 v3 v4 n h v5 = some r → mJ G M_Md_laysFacts 126 [(2, v0), (0, v1), (0, v2), (0, v3), (0, v4), (0, v5), (9, 0)] [] h r := by
  intro n
  induction n with
  | zero =>
    intro h v5 hr
    rw [f_Md_laysFacts_L126] at hr
    cases hr
  | succ n hR126 =>
    intro h v5 hr
    rw [f_Md_laysFacts_L126] at hr
    refine j_iload (pc := 126) d_Md_laysFacts_126 rfl ?_
    refine j_aload_n (pc := 128) d_Md_laysFacts_128 rfl ?_
    refine j_iload_n (pc := 129) d_Md_laysFacts_129 rfl ?_
    refine j_iconst (pc := 130) d_Md_laysFacts_130 ?_
    obtain ⟨ha, hr⟩ := chk_some hr
    refine j_callG (pc := 131) (stk := [(0, 0), (0, v3), (2, v0), (0, v5)]) (as := [(2, v0), (0, v3), (0, 0)]) (P := (fun v9 => ((0 : Nat), v9) :: [(0, v5)])) (tg := 0) (My := M_Md_of) (mRunV (as := [(0, v3), (0, 0)]) (st := [(0, v5)]) d_Md_laysFacts_131 (mc_Md_of (by decide)) rfl (mv_Md_of tb_ml_Md_213) rfl (Nat.le_of_ble_eq_true rfl) ha) (fun v => rfl) rfl hr (fun r1 h1 => t_Md_of _ _ _ _ _ h1) (fun x2 h1 hr => ?_)
    refine j_icmp_ge (pc := 134) (tgt := 192) d_Md_laysFacts_134 hr (fun hr => ?_) (fun hr => ?_)
    · exact mJ_weak (ls' := [(2, v0), (0, v1), (0, v2), (0, v3), (0, v4), (9, 0), (9, 0)]) (mwk_s (mwk_s (mwk_s (mwk_s (mwk_s (mwk_d (mwk_s mwk_n))))))) (hK192 h1  hr)
    · refine j_bipush (pc := 137) d_Md_laysFacts_137 ?_
      refine j_iload_n (pc := 139) d_Md_laysFacts_139 rfl ?_
      refine j_imul (pc := 140) d_Md_laysFacts_140 ?_
      refine j_bipush (pc := 141) d_Md_laysFacts_141 ?_
      refine j_iload (pc := 143) d_Md_laysFacts_143 rfl ?_
      refine j_imul (pc := 145) d_Md_laysFacts_145 ?_
      refine j_iadd (pc := 146) d_Md_laysFacts_146 ?_
      refine j_iload (pc := 147) d_Md_laysFacts_147 rfl ?_
      refine j_iadd (pc := 149) d_Md_laysFacts_149 ?_
      refine j_istoreW (pc := 150) (L := fun x3 => [(2, v0), (0, v1), (0, v2), (0, v3), (0, v4), (0, v5), (0, x3)]) d_Md_laysFacts_150 (fun _ => rfl) hr (fun x3 hr => ?_)
      refine j_aload_n (pc := 152) d_Md_laysFacts_152 rfl ?_
      refine j_iload_n (pc := 153) d_Md_laysFacts_153 rfl ?_
      refine j_iload (pc := 154) d_Md_laysFacts_154 rfl ?_
      obtain ⟨ha, hr⟩ := chk_some hr
      refine j_callG (pc := 156) (stk := [(0, x3), (0, v2), (2, v0)]) (as := [(2, v0), (0, v2), (0, x3)]) (P := (fun v9 => ((0 : Nat), v9) :: [])) (tg := 0) (My := M_Md_isAsTold) (mRunV (as := [(0, v2), (0, x3)]) (st := []) d_Md_laysFacts_156 (mc_Md_isAsTold (by decide)) rfl (mv_Md_isAsTold tb_ml_Md_402) rfl (Nat.le_of_ble_eq_true rfl) ha) (fun v => rfl) rfl hr (fun r1 h1 => t_Md_isAsTold _ _ _ _ _ h1) (fun x5 h4 hr => ?_)
      refine j_if_ne (pc := 159) (tgt := 165) d_Md_laysFacts_159 hr (fun hr => ?_) (fun hr => ?_)
      · refine j_aload_n (pc := 165) d_Md_laysFacts_165 rfl ?_
        refine j_getf (pc := 166) d_Md_laysFacts_166 (fd_Md_68 rfl) hr (fun hr => ?_)
        refine j_aload_n (pc := 169) d_Md_laysFacts_169 rfl ?_
        refine j_getf (pc := 170) d_Md_laysFacts_170 (fd_Md_399 rfl) hr (fun hr => ?_)
        refine j_iload (pc := 173) d_Md_laysFacts_173 rfl ?_
        refine j_iastore (pc := 175) d_Md_laysFacts_175 hr (fun h6 hr => ?_)
        refine j_aload_n (pc := 176) d_Md_laysFacts_176 rfl ?_
        refine j_dup (pc := 177) d_Md_laysFacts_177 ?_
        refine j_getf (pc := 178) d_Md_laysFacts_178 (fd_Md_399 rfl) hr (fun hr => ?_)
        refine j_iconst (pc := 181) d_Md_laysFacts_181 ?_
        refine j_iadd (pc := 182) d_Md_laysFacts_182 ?_
        refine j_puti (pc := 183) d_Md_laysFacts_183 (fd_Md_399 rfl) (⟨_, _, _, rfl, Or.inl rfl, rfl⟩ : mFldW M_Md_laysFacts 399 11 34 .int) hr (fun h7 hr => ?_)
        exact mJ_weak (ls' := [(2, v0), (0, v1), (0, v2), (0, v3), (0, v4), (0, v5), (9, 0)]) (mwk_s (mwk_s (mwk_s (mwk_s (mwk_s (mwk_s (mwk_d mwk_n))))))) (t_Md_laysFacts_J186 hR126 hr)
      · refine j_goto (pc := 162) (tgt := 186) d_Md_laysFacts_162 ?_
        exact mJ_weak (ls' := [(2, v0), (0, v1), (0, v2), (0, v3), (0, v4), (0, v5), (9, 0)]) (mwk_s (mwk_s (mwk_s (mwk_s (mwk_s (mwk_s (mwk_d mwk_n))))))) (t_Md_laysFacts_J186 hR126 hr)
theorem t_Md_laysFacts_L110 {G : mG} {r : mR} {v0 v1 v2 v3 : Int} {K198 : mH → Option mR} (hK198 : ∀ (h : mH) , K198 h  = some r → mJ G M_Md_laysFacts 198 [(2, v0), (0, v1), (0, v2), (0, v3), (9, 0), (9, 0), (9, 0)] [] h r) : ∀ (n : Nat) (h : mH) (v4 : Int), f_Md_laysFacts_L110 K198 v0 v1 v2 v3 n h v4 = some r → mJ G M_Md_laysFacts 110 [(2, v0), (0, v1), (0, v2), (0, v3), (0, v4), (9, 0), (9, 0)] [] h r := by
  intro n
  induction n with
  | zero =>
    intro h v4 hr
    rw [f_Md_laysFacts_L110] at hr
    cases hr
  | succ n hR110 =>
    intro h v4 hr
    rw [f_Md_laysFacts_L110] at hr
    refine j_iload (pc := 110) d_Md_laysFacts_110 rfl ?_
    refine j_iconst (pc := 112) d_Md_laysFacts_112 ?_
    refine j_icmp_ge (pc := 113) (tgt := 198) d_Md_laysFacts_113 hr (fun hr => ?_) (fun hr => ?_)
    · exact mJ_weak (ls' := [(2, v0), (0, v1), (0, v2), (0, v3), (9, 0), (9, 0), (9, 0)]) (mwk_s (mwk_s (mwk_s (mwk_s (mwk_d (mwk_s (mwk_s mwk_n))))))) (hK198 h  hr)
    · refine j_iload_n (pc := 116) d_Md_laysFacts_116 rfl ?_
      refine j_iload_n (pc := 117) d_Md_laysFacts_117 rfl ?_
      refine j_iconst (pc := 118) d_Md_laysFacts_118 ?_
      refine j_idiv (pc := 119) d_Md_laysFacts_119 hr (fun hr => ?_)
      refine j_icmp_eq (pc := 120) (tgt := 198) d_Md_laysFacts_120 hr (fun hr => ?_) (fun hr => ?_)
      · exact mJ_weak (ls' := [(2, v0), (0, v1), (0, v2), (0, v3), (9, 0), (9, 0), (9, 0)]) (mwk_s (mwk_s (mwk_s (mwk_s (mwk_d (mwk_s (mwk_s mwk_n))))))) (hK198 h  hr)
      · refine j_iconst (pc := 123) d_Md_laysFacts_123 ?_
        refine j_istore (pc := 124) (ls' := [(2, v0), (0, v1), (0, v2), (0, v3), (0, v4), (0, 0), (9, 0)]) d_Md_laysFacts_124 rfl ?_
        refine mJ_weak (ls' := [(2, v0), (0, v1), (0, v2), (0, v3), (0, v4), (0, 0), (9, 0)]) (mwk_s (mwk_s (mwk_s (mwk_s (mwk_s (mwk_s (mwk_s mwk_n))))))) (t_Md_laysFacts_L126 (fun h1  hr => ?_) _ _ _ hr)
        · refine j_iincW (pc := 192) (L := fun x2 => [(2, v0), (0, v1), (0, v2), (0, v3), (0, x2), (9, 0), (9, 0)]) d_Md_laysFacts_192 rfl (fun _ => rfl) hr (fun x2 hr => ?_)
          refine j_goto (pc := 195) (tgt := 110) d_Md_laysFacts_195 ?_
          exact mJ_weak (ls' := [(2, v0), (0, v1), (0, v2), (0, v3), (0, x2), (9, 0), (9, 0)]) (mwk_s (mwk_s (mwk_s (mwk_s (mwk_s (mwk_s (mwk_s mwk_n))))))) (hR110 h1 _ hr)
theorem t_Md_laysFacts_J198 {G : mG} {r : mR} {v0 v1 v2 v3 : Int} {h : mH} {R99 : mH → Int → Option mR} (hR99 : ∀ (h : mH) (w3 : Int) , R99 h w3 = some r → mJ G M_Md_laysFacts 99 [(2, v0), (0, v1), (0, v2), (0, w3), (9, 0), (9, 0), (9, 0)] [] h r) (hr : f_Md_laysFacts_J198 R99 v3 h = some r) : mJ G M_Md_laysFacts 198 [(2, v0), (0, v1), (0, v2), (0, v3), (9, 0), (9, 0), (9, 0)] [] h r := by
  unfold f_Md_laysFacts_J198 at hr
  refine j_iincW (pc := 198) (L := fun x1 => [(2, v0), (0, v1), (0, v2), (0, x1), (9, 0), (9, 0), (9, 0)]) d_Md_laysFacts_198 rfl (fun _ => rfl) hr (fun x1 hr => ?_)
  refine j_goto (pc := 201) (tgt := 99) d_Md_laysFacts_201 ?_
  exact mJ_weak (ls' := [(2, v0), (0, v1), (0, v2), (0, x1), (9, 0), (9, 0), (9, 0)]) (mwk_s (mwk_s (mwk_s (mwk_s (mwk_s (mwk_s (mwk_s mwk_n))))))) (hR99 h _ hr)
theorem t_Md_laysFacts_L99 {G : mG} {r : mR} {v0 v1 v2 : Int}  : ∀ (n : Nat) (h : mH) (v3 : Int), f_Md_laysFacts_L99 v0 v1 v2 n h v3 = some r → mJ G M_Md_laysFacts 99 [(2, v0), (0, v1), (0, v2), (0, v3), (9, 0), (9, 0), (9, 0)] [] h r := by
  intro n
  induction n with
  | zero =>
    intro h v3 hr
    rw [f_Md_laysFacts_L99] at hr
    cases hr
  | succ n hR99 =>
    intro h v3 hr
    rw [f_Md_laysFacts_L99] at hr
    refine j_iload_n (pc := 99) d_Md_laysFacts_99 rfl ?_
    refine j_aload_n (pc := 100) d_Md_laysFacts_100 rfl ?_
    obtain ⟨ha, hr⟩ := chk_some hr
    refine j_callG (pc := 101) (stk := [(2, v0), (0, v3)]) (as := [(2, v0)]) (P := (fun v9 => ((0 : Nat), v9) :: [(0, v3)])) (tg := 0) (My := M_Md_bars) (mRunV (as := []) (st := [(0, v3)]) d_Md_laysFacts_101 (mc_Md_bars (by decide)) rfl (mv_Md_bars tb_ml_Md_210) rfl (Nat.le_of_ble_eq_true rfl) ha) (fun v => rfl) rfl hr (fun r1 h1 => t_Md_bars _ _ _ h1) (fun x2 h1 hr => ?_)
    refine j_icmp_ge (pc := 104) (tgt := 204) d_Md_laysFacts_104 hr (fun hr => ?_) (fun hr => ?_)
    · refine j_iconst (pc := 204) d_Md_laysFacts_204 ?_
      exact j_iret (pc := 205) d_Md_laysFacts_205 rfl hr
    · refine j_iconst (pc := 107) d_Md_laysFacts_107 ?_
      refine j_istore (pc := 108) (ls' := [(2, v0), (0, v1), (0, v2), (0, v3), (0, 0), (9, 0), (9, 0)]) d_Md_laysFacts_108 rfl ?_
      refine mJ_weak (ls' := [(2, v0), (0, v1), (0, v2), (0, v3), (0, 0), (9, 0), (9, 0)]) (mwk_s (mwk_s (mwk_s (mwk_s (mwk_s (mwk_s (mwk_s mwk_n))))))) (t_Md_laysFacts_L110 (fun h3  hr => ?_) _ _ _ hr)
      · exact mJ_weak (ls' := [(2, v0), (0, v1), (0, v2), (0, v3), (9, 0), (9, 0), (9, 0)]) (mwk_s (mwk_s (mwk_s (mwk_s (mwk_s (mwk_s (mwk_s mwk_n))))))) (t_Md_laysFacts_J198 hR99 hr)
theorem t_Md_laysFacts {G : mG} (h : mH) (v0 v1 v2 : Int) (r : mR) (hr : f_Md_laysFacts h v0 v1 v2 = some r) : mJM G M_Md_laysFacts [(2, v0), (0, v1), (0, v2)] h r := by
  refine mJM_of (L := [(2, v0), (0, v1), (0, v2), (9, 0), (9, 0), (9, 0), (9, 0)]) rfl rfl rfl (Nat.le_of_ble_eq_true rfl) ?_
  unfold f_Md_laysFacts at hr
  refine j_iload_n (pc := 0) d_Md_laysFacts_0 rfl ?_
  refine j_if_lt (pc := 1) (tgt := 22) d_Md_laysFacts_1 hr (fun hr => ?_) (fun hr => ?_)
  · refine j_iconst (pc := 22) d_Md_laysFacts_22 ?_
    exact j_iret (pc := 23) d_Md_laysFacts_23 rfl hr
  · refine j_aload_n (pc := 4) d_Md_laysFacts_4 rfl ?_
    refine j_iload_n (pc := 5) d_Md_laysFacts_5 rfl ?_
    refine j_iconst (pc := 6) d_Md_laysFacts_6 ?_
    refine j_idiv (pc := 7) d_Md_laysFacts_7 hr (fun hr => ?_)
    refine j_i2l (pc := 8) d_Md_laysFacts_8 ?_
    obtain ⟨ha, hr⟩ := chk_some hr
    refine j_callG (pc := 9) (stk := [(1, w32 (Int.tdiv v1 2)), (2, v0)]) (as := [(2, v0), (1, w32 (Int.tdiv v1 2))]) (P := (fun v9 => ((0 : Nat), v9) :: [])) (tg := 0) (My := M_Md_isBar) (mRunV (as := [(1, w32 (Int.tdiv v1 2))]) (st := []) d_Md_laysFacts_9 (mc_Md_isBar (by decide)) rfl (mv_Md_isBar tb_ml_Md_226) rfl (Nat.le_of_ble_eq_true rfl) ha) (fun v => rfl) rfl hr (fun r1 h1 => t_Md_isBar _ _ _ _ h1) (fun x2 h1 hr => ?_)
    refine j_if_eq (pc := 12) (tgt := 22) d_Md_laysFacts_12 hr (fun hr => ?_) (fun hr => ?_)
    · refine j_iconst (pc := 22) d_Md_laysFacts_22 ?_
      exact j_iret (pc := 23) d_Md_laysFacts_23 rfl hr
    · refine j_iload_n (pc := 15) d_Md_laysFacts_15 rfl ?_
      refine j_callG (pc := 16) (stk := [(0, v2)]) (as := [(0, v2)]) (P := (fun v9 => ((0 : Nat), v9) :: [])) (tg := 0) (My := M_Md_isTray) (mRunS (as := [(0, v2)]) (st := []) d_Md_laysFacts_16 (mc_Md_isTray (by decide)) rfl ⟨tb_ml_Md_284, tb_sm_Md_isTray⟩ rfl (Nat.le_of_ble_eq_true rfl)) (fun v => rfl) rfl hr (fun r1 h1 => t_Md_isTray _ _ _ h1) (fun x4 h3 hr => ?_)
      refine j_if_ne (pc := 19) (tgt := 24) d_Md_laysFacts_19 hr (fun hr => ?_) (fun hr => ?_)
      · refine j_aload_n (pc := 24) d_Md_laysFacts_24 rfl ?_
        refine j_getf (pc := 25) d_Md_laysFacts_25 (fd_Md_77 rfl) hr (fun hr => ?_)
        refine j_iload_n (pc := 28) d_Md_laysFacts_28 rfl ?_
        refine j_iaload (pc := 29) d_Md_laysFacts_29 hr (fun hr => ?_)
        refine j_iconst (pc := 30) d_Md_laysFacts_30 ?_
        refine j_icmp_eq (pc := 31) (tgt := 41) d_Md_laysFacts_31 hr (fun hr => ?_) (fun hr => ?_)
        · refine j_iconst (pc := 41) d_Md_laysFacts_41 ?_
          exact j_iret (pc := 42) d_Md_laysFacts_42 rfl hr
        · refine j_aload_n (pc := 34) d_Md_laysFacts_34 rfl ?_
          obtain ⟨ha, hr⟩ := chk_some hr
          refine j_callG (pc := 35) (stk := [(2, v0)]) (as := [(2, v0)]) (P := (fun v9 => ((0 : Nat), v9) :: [])) (tg := 0) (My := M_Md_isSpent) (mRunV (as := []) (st := []) d_Md_laysFacts_35 (mc_Md_isSpent (by decide)) rfl (mv_Md_isSpent tb_ml_Md_261) rfl (Nat.le_of_ble_eq_true rfl) ha) (fun v => rfl) rfl hr (fun r1 h1 => t_Md_isSpent _ _ _ h1) (fun x6 h5 hr => ?_)
          refine j_if_eq (pc := 38) (tgt := 43) d_Md_laysFacts_38 hr (fun hr => ?_) (fun hr => ?_)
          · refine j_iconst (pc := 43) d_Md_laysFacts_43 ?_
            refine j_istore_n (pc := 44) (ls' := [(2, v0), (0, v1), (0, v2), (0, 0), (9, 0), (9, 0), (9, 0)]) d_Md_laysFacts_44 rfl ?_
            refine mJ_weak (ls' := [(2, v0), (0, v1), (0, v2), (0, 0), (9, 0), (9, 0), (9, 0)]) (mwk_s (mwk_s (mwk_s (mwk_s (mwk_s (mwk_s (mwk_s mwk_n))))))) (t_Md_laysFacts_L45 (fun h7  hr => ?_) _ _ _ hr)
            · refine j_aload_n (pc := 92) d_Md_laysFacts_92 rfl ?_
              refine j_iconst (pc := 93) d_Md_laysFacts_93 ?_
              refine j_puti (pc := 94) d_Md_laysFacts_94 (fd_Md_399 rfl) (⟨_, _, _, rfl, Or.inl rfl, rfl⟩ : mFldW M_Md_laysFacts 399 11 34 .int) hr (fun h8 hr => ?_)
              refine j_iconst (pc := 97) d_Md_laysFacts_97 ?_
              refine j_istore_n (pc := 98) (ls' := [(2, v0), (0, v1), (0, v2), (0, 0), (9, 0), (9, 0), (9, 0)]) d_Md_laysFacts_98 rfl ?_
              refine mJ_weak (ls' := [(2, v0), (0, v1), (0, v2), (0, 0), (9, 0), (9, 0), (9, 0)]) (mwk_s (mwk_s (mwk_s (mwk_s (mwk_s (mwk_s (mwk_s mwk_n))))))) (t_Md_laysFacts_L99  _ _ _ hr)
          · refine j_iconst (pc := 41) d_Md_laysFacts_41 ?_
            exact j_iret (pc := 42) d_Md_laysFacts_42 rfl hr
      · refine j_iconst (pc := 22) d_Md_laysFacts_22 ?_
        exact j_iret (pc := 23) d_Md_laysFacts_23 rfl hr
def M_Md_fits : mM := ("NineBarsModel", ⟨"NineBarsModel", "fits", "(III)I"⟩, prog_13_method_103_code, 4, some .int, [], 11)
theorem tb_co_Md_fits : mTB (Cond.code ⟨"NineBarsModel", "fits", "(III)I"⟩ prog_13_method_103_code 4 (some .int)) := tbq9 22 (by decide +kernel) rfl
theorem mc_Md_fits {M : mM} (hd : 11 < mDp M) : mCal M M_Md_fits 3 := ⟨tb_co_Md_fits, tb_in_NineBarsModel, ⟨by decide +kernel, by decide +kernel⟩, by decide +kernel, hd, by decide⟩
theorem d_Md_fits_0 : decode prog_13_method_103_code 0 = .ok (.aload_n 0, 1) := by decide +kernel
theorem d_Md_fits_1 : decode prog_13_method_103_code 1 = .ok (.aload_n 0, 1) := by decide +kernel
theorem d_Md_fits_2 : decode prog_13_method_103_code 2 = .ok (.iload_n 1, 1) := by decide +kernel
theorem d_Md_fits_3 : decode prog_13_method_103_code 3 = .ok (.iload_n 2, 1) := by decide +kernel
theorem d_Md_fits_4 : decode prog_13_method_103_code 4 = .ok (.invokevirtual 405, 3) := by decide +kernel
theorem tb_ml_Md_405 : mTB (Cond.methodLink "NineBarsModel" 405 ⟨"NineBarsModel", "laysFacts", "(II)I"⟩) := tbq9 23 (by decide +kernel) rfl
theorem tb_im_Md_laysFacts : mTB (Cond.instanceMethod ⟨"NineBarsModel", "laysFacts", "(II)I"⟩) := tbq9 25 (by decide +kernel) rfl
theorem tb_se_Md_laysFacts : mTB (Cond.selects "NineBarsModel" ⟨"NineBarsModel", "laysFacts", "(II)I"⟩ ⟨"NineBarsModel", "laysFacts", "(II)I"⟩) := tbqp 102 (by decide +kernel) rfl
theorem mv_Md_laysFacts {M : mM} {idx : Nat} (h : mTB (Cond.methodLink (mO M) idx ⟨"NineBarsModel", "laysFacts", "(II)I"⟩)) : mCaV M M_Md_laysFacts idx 11 := ⟨h, tb_im_Md_laysFacts, tb_se_Md_laysFacts, by decide, TX11, 40, rfl⟩
theorem d_Md_fits_7 : decode prog_13_method_103_code 7 = .ok (.putfield 86, 3) := by decide +kernel
theorem d_Md_fits_10 : decode prog_13_method_103_code 10 = .ok (.aload_n 0, 1) := by decide +kernel
theorem d_Md_fits_11 : decode prog_13_method_103_code 11 = .ok (.getfield 86, 3) := by decide +kernel
theorem d_Md_fits_14 : decode prog_13_method_103_code 14 = .ok (.ifCond .le 5, 3) := by decide +kernel
theorem d_Md_fits_19 : decode prog_13_method_103_code 19 = .ok (.iload_n 3, 1) := by decide +kernel
theorem d_Md_fits_20 : decode prog_13_method_103_code 20 = .ok (.iconst (-1), 1) := by decide +kernel
theorem d_Md_fits_21 : decode prog_13_method_103_code 21 = .ok (.if_icmp .ne 10, 3) := by decide +kernel
theorem d_Md_fits_31 : decode prog_13_method_103_code 31 = .ok (.iload_n 3, 1) := by decide +kernel
theorem d_Md_fits_32 : decode prog_13_method_103_code 32 = .ok (.i2l, 1) := by decide +kernel
theorem d_Md_fits_33 : decode prog_13_method_103_code 33 = .ok (.lconst 0, 1) := by decide +kernel
theorem d_Md_fits_34 : decode prog_13_method_103_code 34 = .ok (.aload_n 0, 1) := by decide +kernel
theorem d_Md_fits_35 : decode prog_13_method_103_code 35 = .ok (.getfield 399, 3) := by decide +kernel
theorem d_Md_fits_38 : decode prog_13_method_103_code 38 = .ok (.iconst 1, 1) := by decide +kernel
theorem d_Md_fits_39 : decode prog_13_method_103_code 39 = .ok (.isub, 1) := by decide +kernel
theorem d_Md_fits_40 : decode prog_13_method_103_code 40 = .ok (.i2l, 1) := by decide +kernel
theorem d_Md_fits_41 : decode prog_13_method_103_code 41 = .ok (.invokestatic 147, 3) := by decide +kernel
theorem d_Md_fits_44 : decode prog_13_method_103_code 44 = .ok (.ifCond .eq 12, 3) := by decide +kernel
theorem d_Md_fits_56 : decode prog_13_method_103_code 56 = .ok (.iconst (-1), 1) := by decide +kernel
theorem d_Md_fits_57 : decode prog_13_method_103_code 57 = .ok (.ireturn, 1) := by decide +kernel
theorem d_Md_fits_47 : decode prog_13_method_103_code 47 = .ok (.aload_n 0, 1) := by decide +kernel
theorem d_Md_fits_48 : decode prog_13_method_103_code 48 = .ok (.getfield 68, 3) := by decide +kernel
theorem d_Md_fits_51 : decode prog_13_method_103_code 51 = .ok (.iload_n 3, 1) := by decide +kernel
theorem d_Md_fits_52 : decode prog_13_method_103_code 52 = .ok (.iaload, 1) := by decide +kernel
theorem d_Md_fits_53 : decode prog_13_method_103_code 53 = .ok (.goto 4, 3) := by decide +kernel
theorem d_Md_fits_24 : decode prog_13_method_103_code 24 = .ok (.aload_n 0, 1) := by decide +kernel
theorem d_Md_fits_25 : decode prog_13_method_103_code 25 = .ok (.getfield 399, 3) := by decide +kernel
theorem d_Md_fits_28 : decode prog_13_method_103_code 28 = .ok (.goto 29, 3) := by decide +kernel
theorem d_Md_fits_17 : decode prog_13_method_103_code 17 = .ok (.iconst 0, 1) := by decide +kernel
theorem d_Md_fits_18 : decode prog_13_method_103_code 18 = .ok (.ireturn, 1) := by decide +kernel
theorem t_Md_fits {G : mG} (h : mH) (v0 v1 v2 v3 : Int) (r : mR) (hr : f_Md_fits h v0 v1 v2 v3 = some r) : mJM G M_Md_fits [(2, v0), (0, v1), (0, v2), (0, v3)] h r := by
  refine mJM_of (L := [(2, v0), (0, v1), (0, v2), (0, v3)]) rfl rfl rfl (Nat.le_of_ble_eq_true rfl) ?_
  unfold f_Md_fits at hr
  refine j_aload_n (pc := 0) d_Md_fits_0 rfl ?_
  refine j_aload_n (pc := 1) d_Md_fits_1 rfl ?_
  refine j_iload_n (pc := 2) d_Md_fits_2 rfl ?_
  refine j_iload_n (pc := 3) d_Md_fits_3 rfl ?_
  obtain ⟨ha, hr⟩ := chk_some hr
  refine j_callG (pc := 4) (stk := [(0, v2), (0, v1), (2, v0), (2, v0)]) (as := [(2, v0), (0, v1), (0, v2)]) (P := (fun v9 => ((0 : Nat), v9) :: [(2, v0)])) (tg := 0) (My := M_Md_laysFacts) (mRunV (as := [(0, v1), (0, v2)]) (st := [(2, v0)]) d_Md_fits_4 (mc_Md_laysFacts (by decide)) rfl (mv_Md_laysFacts tb_ml_Md_405) rfl (Nat.le_of_ble_eq_true rfl) ha) (fun v => rfl) rfl hr (fun r1 h1 => t_Md_laysFacts _ _ _ _ _ h1) (fun x2 h1 hr => ?_)
  refine j_puti (pc := 7) d_Md_fits_7 (fd_Md_86 rfl) (⟨_, _, _, rfl, Or.inl rfl, rfl⟩ : mFldW M_Md_fits 86 11 5 .int) hr (fun h3 hr => ?_)
  refine j_aload_n (pc := 10) d_Md_fits_10 rfl ?_
  refine j_getf (pc := 11) d_Md_fits_11 (fd_Md_86 rfl) hr (fun hr => ?_)
  refine j_if_le (pc := 14) (tgt := 19) d_Md_fits_14 hr (fun hr => ?_) (fun hr => ?_)
  · refine j_iload_n (pc := 19) d_Md_fits_19 rfl ?_
    refine j_iconst (pc := 20) d_Md_fits_20 ?_
    refine j_icmp_ne (pc := 21) (tgt := 31) d_Md_fits_21 hr (fun hr => ?_) (fun hr => ?_)
    · refine j_iload_n (pc := 31) d_Md_fits_31 rfl ?_
      refine j_i2l (pc := 32) d_Md_fits_32 ?_
      refine j_lconst (pc := 33) (z := 0) d_Md_fits_33 ?_
      refine j_aload_n (pc := 34) d_Md_fits_34 rfl ?_
      refine j_getf (pc := 35) d_Md_fits_35 (fd_Md_399 rfl) hr (fun hr => ?_)
      refine j_iconst (pc := 38) d_Md_fits_38 ?_
      refine j_isub (pc := 39) d_Md_fits_39 ?_
      refine j_i2l (pc := 40) d_Md_fits_40 ?_
      refine j_callG (pc := 41) (stk := [(1, w32 ((hpV h3 v0 34) - 1)), (1, 0), (1, v3)]) (as := [(1, v3), (1, 0), (1, w32 ((hpV h3 v0 34) - 1))]) (P := (fun v9 => ((0 : Nat), v9) :: [])) (tg := 0) (My := M_Md_amid) (mRunS (as := [(1, v3), (1, 0), (1, w32 ((hpV h3 v0 34) - 1))]) (st := []) d_Md_fits_41 (mc_Md_amid (by decide)) rfl ⟨tb_ml_Md_147, tb_sm_Md_amid⟩ rfl (Nat.le_of_ble_eq_true rfl)) (fun v => rfl) rfl hr (fun r1 h1 => t_Md_amid _ _ _ _ _ h1) (fun x5 h4 hr => ?_)
      refine j_if_eq (pc := 44) (tgt := 56) d_Md_fits_44 hr (fun hr => ?_) (fun hr => ?_)
      · refine j_iconst (pc := 56) d_Md_fits_56 ?_
        exact j_iret (pc := 57) d_Md_fits_57 rfl hr
      · refine j_aload_n (pc := 47) d_Md_fits_47 rfl ?_
        refine j_getf (pc := 48) d_Md_fits_48 (fd_Md_68 rfl) hr (fun hr => ?_)
        refine j_iload_n (pc := 51) d_Md_fits_51 rfl ?_
        refine j_iaload (pc := 52) d_Md_fits_52 hr (fun hr => ?_)
        refine j_goto (pc := 53) (tgt := 57) d_Md_fits_53 ?_
        exact j_iret (pc := 57) d_Md_fits_57 rfl hr
    · refine j_aload_n (pc := 24) d_Md_fits_24 rfl ?_
      refine j_getf (pc := 25) d_Md_fits_25 (fd_Md_399 rfl) hr (fun hr => ?_)
      refine j_goto (pc := 28) (tgt := 57) d_Md_fits_28 ?_
      exact j_iret (pc := 57) d_Md_fits_57 rfl hr
  · refine j_iconst (pc := 17) d_Md_fits_17 ?_
    exact j_iret (pc := 18) d_Md_fits_18 rfl hr
def M_Md_tries : mM := ("NineBarsModel", ⟨"NineBarsModel", "tries", "(III)I"⟩, prog_13_method_104_code, 9, some .int, [], 11)
theorem tb_co_Md_tries : mTB (Cond.code ⟨"NineBarsModel", "tries", "(III)I"⟩ prog_13_method_104_code 9 (some .int)) := tbq9 38 (by decide +kernel) rfl
theorem mc_Md_tries {M : mM} (hd : 11 < mDp M) : mCal M M_Md_tries 3 := ⟨tb_co_Md_tries, tb_in_NineBarsModel, ⟨by decide +kernel, by decide +kernel⟩, by decide +kernel, hd, by decide⟩
theorem d_Md_tries_0 : decode prog_13_method_104_code 0 = .ok (.aload_n 0, 1) := by decide +kernel
theorem d_Md_tries_1 : decode prog_13_method_104_code 1 = .ok (.aload_n 0, 1) := by decide +kernel
theorem d_Md_tries_2 : decode prog_13_method_104_code 2 = .ok (.iload_n 1, 1) := by decide +kernel
theorem d_Md_tries_3 : decode prog_13_method_104_code 3 = .ok (.iload_n 2, 1) := by decide +kernel
theorem d_Md_tries_4 : decode prog_13_method_104_code 4 = .ok (.invokevirtual 405, 3) := by decide +kernel
theorem d_Md_tries_7 : decode prog_13_method_104_code 7 = .ok (.putfield 86, 3) := by decide +kernel
theorem d_Md_tries_10 : decode prog_13_method_104_code 10 = .ok (.aload_n 0, 1) := by decide +kernel
theorem d_Md_tries_11 : decode prog_13_method_104_code 11 = .ok (.getfield 86, 3) := by decide +kernel
theorem d_Md_tries_14 : decode prog_13_method_104_code 14 = .ok (.ifCond .ne 18, 3) := by decide +kernel
theorem d_Md_tries_32 : decode prog_13_method_104_code 32 = .ok (.aload_n 0, 1) := by decide +kernel
theorem d_Md_tries_33 : decode prog_13_method_104_code 33 = .ok (.getfield 86, 3) := by decide +kernel
theorem d_Md_tries_36 : decode prog_13_method_104_code 36 = .ok (.ifCond .le 5, 3) := by decide +kernel
theorem d_Md_tries_41 : decode prog_13_method_104_code 41 = .ok (.aload_n 0, 1) := by decide +kernel
theorem d_Md_tries_42 : decode prog_13_method_104_code 42 = .ok (.getfield 399, 3) := by decide +kernel
theorem d_Md_tries_45 : decode prog_13_method_104_code 45 = .ok (.iconst 2, 1) := by decide +kernel
theorem d_Md_tries_46 : decode prog_13_method_104_code 46 = .ok (.if_icmp .ge 5, 3) := by decide +kernel
theorem d_Md_tries_51 : decode prog_13_method_104_code 51 = .ok (.iconst (-1), 1) := by decide +kernel
theorem d_Md_tries_52 : decode prog_13_method_104_code 52 = .ok (.istore 4, 2) := by decide +kernel
theorem d_Md_tries_54 : decode prog_13_method_104_code 54 = .ok (.iconst 0, 1) := by decide +kernel
theorem d_Md_tries_55 : decode prog_13_method_104_code 55 = .ok (.istore 5, 2) := by decide +kernel
theorem d_Md_tries_57 : decode prog_13_method_104_code 57 = .ok (.iconst 0, 1) := by decide +kernel
theorem d_Md_tries_58 : decode prog_13_method_104_code 58 = .ok (.istore 6, 2) := by decide +kernel
theorem d_Md_tries_60 : decode prog_13_method_104_code 60 = .ok (.iload 6, 2) := by decide +kernel
theorem d_Md_tries_62 : decode prog_13_method_104_code 62 = .ok (.aload_n 0, 1) := by decide +kernel
theorem d_Md_tries_63 : decode prog_13_method_104_code 63 = .ok (.invokevirtual 219, 3) := by decide +kernel
theorem d_Md_tries_66 : decode prog_13_method_104_code 66 = .ok (.if_icmp .ge 94, 3) := by decide +kernel
theorem d_Md_tries_69 : decode prog_13_method_104_code 69 = .ok (.iconst 0, 1) := by decide +kernel
theorem d_Md_tries_70 : decode prog_13_method_104_code 70 = .ok (.istore 7, 2) := by decide +kernel
theorem d_Md_tries_72 : decode prog_13_method_104_code 72 = .ok (.iconst 0, 1) := by decide +kernel
theorem d_Md_tries_73 : decode prog_13_method_104_code 73 = .ok (.istore 8, 2) := by decide +kernel
theorem d_Md_tries_75 : decode prog_13_method_104_code 75 = .ok (.iload 8, 2) := by decide +kernel
theorem d_Md_tries_77 : decode prog_13_method_104_code 77 = .ok (.aload_n 0, 1) := by decide +kernel
theorem d_Md_tries_78 : decode prog_13_method_104_code 78 = .ok (.getfield 399, 3) := by decide +kernel
theorem d_Md_tries_81 : decode prog_13_method_104_code 81 = .ok (.if_icmp .ge 35, 3) := by decide +kernel
theorem d_Md_tries_84 : decode prog_13_method_104_code 84 = .ok (.iload 7, 2) := by decide +kernel
theorem d_Md_tries_86 : decode prog_13_method_104_code 86 = .ok (.aload_n 0, 1) := by decide +kernel
theorem d_Md_tries_87 : decode prog_13_method_104_code 87 = .ok (.aload_n 0, 1) := by decide +kernel
theorem d_Md_tries_88 : decode prog_13_method_104_code 88 = .ok (.getfield 68, 3) := by decide +kernel
theorem d_Md_tries_91 : decode prog_13_method_104_code 91 = .ok (.iload 8, 2) := by decide +kernel
theorem d_Md_tries_93 : decode prog_13_method_104_code 93 = .ok (.iaload, 1) := by decide +kernel
theorem d_Md_tries_94 : decode prog_13_method_104_code 94 = .ok (.iload 6, 2) := by decide +kernel
theorem d_Md_tries_96 : decode prog_13_method_104_code 96 = .ok (.invokevirtual 396, 3) := by decide +kernel
theorem d_Md_tries_99 : decode prog_13_method_104_code 99 = .ok (.ifCond .eq 7, 3) := by decide +kernel
theorem d_Md_tries_106 : decode prog_13_method_104_code 106 = .ok (.iconst 0, 1) := by decide +kernel
theorem d_Md_tries_107 : decode prog_13_method_104_code 107 = .ok (.iadd, 1) := by decide +kernel
theorem d_Md_tries_108 : decode prog_13_method_104_code 108 = .ok (.istore 7, 2) := by decide +kernel
theorem d_Md_tries_110 : decode prog_13_method_104_code 110 = .ok (.iinc 8 1, 3) := by decide +kernel
theorem d_Md_tries_113 : decode prog_13_method_104_code 113 = .ok (.goto (-38), 3) := by decide +kernel
theorem d_Md_tries_102 : decode prog_13_method_104_code 102 = .ok (.iconst 1, 1) := by decide +kernel
theorem d_Md_tries_103 : decode prog_13_method_104_code 103 = .ok (.goto 4, 3) := by decide +kernel
theorem d_Md_tries_116 : decode prog_13_method_104_code 116 = .ok (.iload 7, 2) := by decide +kernel
theorem d_Md_tries_118 : decode prog_13_method_104_code 118 = .ok (.aload_n 0, 1) := by decide +kernel
theorem d_Md_tries_119 : decode prog_13_method_104_code 119 = .ok (.getfield 399, 3) := by decide +kernel
theorem d_Md_tries_122 : decode prog_13_method_104_code 122 = .ok (.iload 7, 2) := by decide +kernel
theorem d_Md_tries_124 : decode prog_13_method_104_code 124 = .ok (.isub, 1) := by decide +kernel
theorem d_Md_tries_125 : decode prog_13_method_104_code 125 = .ok (.invokestatic 408, 3) := by decide +kernel
theorem tb_ml_Md_408 : mTB (Cond.methodLink "NineBarsModel" 408 ⟨"java/lang/Math", "max", "(II)I"⟩) := tbq9 39 (by decide +kernel) rfl
theorem d_Md_tries_128 : decode prog_13_method_104_code 128 = .ok (.istore 8, 2) := by decide +kernel
theorem d_Md_tries_130 : decode prog_13_method_104_code 130 = .ok (.iload 4, 2) := by decide +kernel
theorem d_Md_tries_132 : decode prog_13_method_104_code 132 = .ok (.iconst (-1), 1) := by decide +kernel
theorem d_Md_tries_133 : decode prog_13_method_104_code 133 = .ok (.if_icmp .eq 13, 3) := by decide +kernel
theorem d_Md_tries_146 : decode prog_13_method_104_code 146 = .ok (.iload 6, 2) := by decide +kernel
theorem d_Md_tries_148 : decode prog_13_method_104_code 148 = .ok (.istore 4, 2) := by decide +kernel
theorem d_Md_tries_150 : decode prog_13_method_104_code 150 = .ok (.iload 8, 2) := by decide +kernel
theorem d_Md_tries_152 : decode prog_13_method_104_code 152 = .ok (.istore 5, 2) := by decide +kernel
theorem d_Md_tries_154 : decode prog_13_method_104_code 154 = .ok (.iinc 6 1, 3) := by decide +kernel
theorem d_Md_tries_157 : decode prog_13_method_104_code 157 = .ok (.goto (-97), 3) := by decide +kernel
theorem d_Md_tries_136 : decode prog_13_method_104_code 136 = .ok (.iload 8, 2) := by decide +kernel
theorem d_Md_tries_138 : decode prog_13_method_104_code 138 = .ok (.iload 5, 2) := by decide +kernel
theorem d_Md_tries_140 : decode prog_13_method_104_code 140 = .ok (.if_icmp .lt 6, 3) := by decide +kernel
theorem d_Md_tries_143 : decode prog_13_method_104_code 143 = .ok (.goto 11, 3) := by decide +kernel
theorem d_Md_tries_160 : decode prog_13_method_104_code 160 = .ok (.iload_n 3, 1) := by decide +kernel
theorem d_Md_tries_161 : decode prog_13_method_104_code 161 = .ok (.ifCond .ne 8, 3) := by decide +kernel
theorem d_Md_tries_169 : decode prog_13_method_104_code 169 = .ok (.iload 5, 2) := by decide +kernel
theorem d_Md_tries_171 : decode prog_13_method_104_code 171 = .ok (.ireturn, 1) := by decide +kernel
theorem d_Md_tries_164 : decode prog_13_method_104_code 164 = .ok (.iload 4, 2) := by decide +kernel
theorem d_Md_tries_166 : decode prog_13_method_104_code 166 = .ok (.goto 5, 3) := by decide +kernel
theorem d_Md_tries_49 : decode prog_13_method_104_code 49 = .ok (.iconst (-1), 1) := by decide +kernel
theorem d_Md_tries_50 : decode prog_13_method_104_code 50 = .ok (.ireturn, 1) := by decide +kernel
theorem d_Md_tries_39 : decode prog_13_method_104_code 39 = .ok (.iconst 0, 1) := by decide +kernel
theorem d_Md_tries_40 : decode prog_13_method_104_code 40 = .ok (.ireturn, 1) := by decide +kernel
theorem d_Md_tries_17 : decode prog_13_method_104_code 17 = .ok (.iload_n 3, 1) := by decide +kernel
theorem d_Md_tries_18 : decode prog_13_method_104_code 18 = .ok (.i2l, 1) := by decide +kernel
theorem d_Md_tries_19 : decode prog_13_method_104_code 19 = .ok (.lconst 0, 1) := by decide +kernel
theorem d_Md_tries_20 : decode prog_13_method_104_code 20 = .ok (.lconst 1, 1) := by decide +kernel
theorem d_Md_tries_21 : decode prog_13_method_104_code 21 = .ok (.invokestatic 147, 3) := by decide +kernel
theorem d_Md_tries_24 : decode prog_13_method_104_code 24 = .ok (.ifCond .ne 8, 3) := by decide +kernel
theorem d_Md_tries_27 : decode prog_13_method_104_code 27 = .ok (.aload_n 0, 1) := by decide +kernel
theorem d_Md_tries_28 : decode prog_13_method_104_code 28 = .ok (.iconst 3, 1) := by decide +kernel
theorem d_Md_tries_29 : decode prog_13_method_104_code 29 = .ok (.putfield 86, 3) := by decide +kernel
theorem t_Md_tries_J107 {G : mG} {r : mR} {v0 v3 v4 v5 v6 v8 s0 s1 : Int} {h : mH} {R75 : mH → Int → Int → Option mR} (hR75 : ∀ (h : mH) (w7 w8 : Int) , R75 h w7 w8 = some r → mJ G M_Md_tries 75 [(2, v0), (9, 0), (9, 0), (0, v3), (0, v4), (0, v5), (0, v6), (0, w7), (0, w8)] [] h r) (hr : f_Md_tries_J107 R75 v8 s0 s1 h = some r) : mJ G M_Md_tries 107 [(2, v0), (9, 0), (9, 0), (0, v3), (0, v4), (0, v5), (0, v6), (9, 0), (0, v8)] [(0, s1), (0, s0)] h r := by
  unfold f_Md_tries_J107 at hr
  refine j_iadd (pc := 107) d_Md_tries_107 ?_
  refine j_istoreW (pc := 108) (L := fun x1 => [(2, v0), (9, 0), (9, 0), (0, v3), (0, v4), (0, v5), (0, v6), (0, x1), (0, v8)]) d_Md_tries_108 (fun _ => rfl) hr (fun x1 hr => ?_)
  refine j_iincW (pc := 110) (L := fun x2 => [(2, v0), (9, 0), (9, 0), (0, v3), (0, v4), (0, v5), (0, v6), (0, x1), (0, x2)]) d_Md_tries_110 rfl (fun _ => rfl) hr (fun x2 hr => ?_)
  refine j_goto (pc := 113) (tgt := 75) d_Md_tries_113 ?_
  exact mJ_weak (ls' := [(2, v0), (9, 0), (9, 0), (0, v3), (0, v4), (0, v5), (0, v6), (0, x1), (0, x2)]) (mwk_s (mwk_s (mwk_s (mwk_s (mwk_s (mwk_s (mwk_s (mwk_s (mwk_s mwk_n))))))))) (hR75 h _ _ hr)
theorem t_Md_tries_L75 {G : mG} {r : mR} {v0 v3 v4 v5 v6 : Int} {K116 : mH → Int → Option mR} (hK116 : ∀ (h : mH) (w7 : Int) , K116 h w7 = some r → mJ G M_Md_tries 116 [(2, v0), (9, 0), (9, 0), (0, v3), (0, v4), (0, v5), (0, v6), (0, w7), (9, 0)] [] h r) : ∀ (n : Nat) (h : mH) (v7 v8 : Int), f_Md_tries_L75 K116 v0 v6 n h v7 v8 = some r → mJ G M_Md_tries 75 [(2, v0), (9, 0), (9, 0), (0, v3), (0, v4), (0, v5), (0, v6), (0, v7), (0, v8)] [] h r := by
  intro n
  induction n with
  | zero =>
    intro h v7 v8 hr
    rw [f_Md_tries_L75] at hr
    cases hr
  | succ n hR75 =>
    intro h v7 v8 hr
    rw [f_Md_tries_L75] at hr
    refine j_iload (pc := 75) d_Md_tries_75 rfl ?_
    refine j_aload_n (pc := 77) d_Md_tries_77 rfl ?_
    refine j_getf (pc := 78) d_Md_tries_78 (fd_Md_399 rfl) hr (fun hr => ?_)
    refine j_icmp_ge (pc := 81) (tgt := 116) d_Md_tries_81 hr (fun hr => ?_) (fun hr => ?_)
    · exact mJ_weak (ls' := [(2, v0), (9, 0), (9, 0), (0, v3), (0, v4), (0, v5), (0, v6), (0, v7), (9, 0)]) (mwk_s (mwk_s (mwk_s (mwk_s (mwk_s (mwk_s (mwk_s (mwk_s (mwk_d mwk_n))))))))) (hK116 h _ hr)
    · refine j_iload (pc := 84) d_Md_tries_84 rfl ?_
      refine j_aload_n (pc := 86) d_Md_tries_86 rfl ?_
      refine j_aload_n (pc := 87) d_Md_tries_87 rfl ?_
      refine j_getf (pc := 88) d_Md_tries_88 (fd_Md_68 rfl) hr (fun hr => ?_)
      refine j_iload (pc := 91) d_Md_tries_91 rfl ?_
      refine j_iaload (pc := 93) d_Md_tries_93 hr (fun hr => ?_)
      refine j_iload (pc := 94) d_Md_tries_94 rfl ?_
      obtain ⟨ha, hr⟩ := chk_some hr
      refine j_callG (pc := 96) (stk := [(0, v6), (0, hpV h (hpV h v0 33) v8), (2, v0), (0, v7)]) (as := [(2, v0), (0, hpV h (hpV h v0 33) v8), (0, v6)]) (P := (fun v9 => ((0 : Nat), v9) :: [(0, v7)])) (tg := 0) (My := M_Md_isFact) (mRunV (as := [(0, hpV h (hpV h v0 33) v8), (0, v6)]) (st := [(0, v7)]) d_Md_tries_96 (mc_Md_isFact (by decide)) rfl (mv_Md_isFact tb_ml_Md_396) rfl (Nat.le_of_ble_eq_true rfl) ha) (fun v => rfl) rfl hr (fun r1 h1 => t_Md_isFact _ _ _ _ _ h1) (fun x2 h1 hr => ?_)
      refine j_if_eq (pc := 99) (tgt := 106) d_Md_tries_99 hr (fun hr => ?_) (fun hr => ?_)
      · refine j_iconst (pc := 106) d_Md_tries_106 ?_
        exact mJ_weak (ls' := [(2, v0), (9, 0), (9, 0), (0, v3), (0, v4), (0, v5), (0, v6), (9, 0), (0, v8)]) (mwk_s (mwk_s (mwk_s (mwk_s (mwk_s (mwk_s (mwk_s (mwk_d (mwk_s mwk_n))))))))) (t_Md_tries_J107 hR75 hr)
      · refine j_iconst (pc := 102) d_Md_tries_102 ?_
        refine j_goto (pc := 103) (tgt := 107) d_Md_tries_103 ?_
        exact mJ_weak (ls' := [(2, v0), (9, 0), (9, 0), (0, v3), (0, v4), (0, v5), (0, v6), (9, 0), (0, v8)]) (mwk_s (mwk_s (mwk_s (mwk_s (mwk_s (mwk_s (mwk_s (mwk_d (mwk_s mwk_n))))))))) (t_Md_tries_J107 hR75 hr)
theorem t_Md_tries_J154 {G : mG} {r : mR} {v0 v3 v4 v5 v6 : Int} {h : mH} {R60 : mH → Int → Int → Int → Option mR} (hR60 : ∀ (h : mH) (w4 w5 w6 : Int) , R60 h w4 w5 w6 = some r → mJ G M_Md_tries 60 [(2, v0), (9, 0), (9, 0), (0, v3), (0, w4), (0, w5), (0, w6), (9, 0), (9, 0)] [] h r) (hr : f_Md_tries_J154 R60 v4 v5 v6 h = some r) : mJ G M_Md_tries 154 [(2, v0), (9, 0), (9, 0), (0, v3), (0, v4), (0, v5), (0, v6), (9, 0), (9, 0)] [] h r := by
  unfold f_Md_tries_J154 at hr
  refine j_iincW (pc := 154) (L := fun x1 => [(2, v0), (9, 0), (9, 0), (0, v3), (0, v4), (0, v5), (0, x1), (9, 0), (9, 0)]) d_Md_tries_154 rfl (fun _ => rfl) hr (fun x1 hr => ?_)
  refine j_goto (pc := 157) (tgt := 60) d_Md_tries_157 ?_
  exact mJ_weak (ls' := [(2, v0), (9, 0), (9, 0), (0, v3), (0, v4), (0, v5), (0, x1), (9, 0), (9, 0)]) (mwk_s (mwk_s (mwk_s (mwk_s (mwk_s (mwk_s (mwk_s (mwk_s (mwk_s mwk_n))))))))) (hR60 h _ _ _ hr)
theorem t_Md_tries_J146 {G : mG} {r : mR} {v0 v3 v6 v8 : Int} {h : mH} {R60 : mH → Int → Int → Int → Option mR} (hR60 : ∀ (h : mH) (w4 w5 w6 : Int) , R60 h w4 w5 w6 = some r → mJ G M_Md_tries 60 [(2, v0), (9, 0), (9, 0), (0, v3), (0, w4), (0, w5), (0, w6), (9, 0), (9, 0)] [] h r) (hr : f_Md_tries_J146 R60 v6 v8 h = some r) : mJ G M_Md_tries 146 [(2, v0), (9, 0), (9, 0), (0, v3), (9, 0), (9, 0), (0, v6), (9, 0), (0, v8)] [] h r := by
  unfold f_Md_tries_J146 at hr
  refine j_iload (pc := 146) d_Md_tries_146 rfl ?_
  refine j_istore (pc := 148) (ls' := [(2, v0), (9, 0), (9, 0), (0, v3), (0, v6), (9, 0), (0, v6), (9, 0), (0, v8)]) d_Md_tries_148 rfl ?_
  refine j_iload (pc := 150) d_Md_tries_150 rfl ?_
  refine j_istore (pc := 152) (ls' := [(2, v0), (9, 0), (9, 0), (0, v3), (0, v6), (0, v8), (0, v6), (9, 0), (0, v8)]) d_Md_tries_152 rfl ?_
  exact mJ_weak (ls' := [(2, v0), (9, 0), (9, 0), (0, v3), (0, v6), (0, v8), (0, v6), (9, 0), (9, 0)]) (mwk_s (mwk_s (mwk_s (mwk_s (mwk_s (mwk_s (mwk_s (mwk_s (mwk_d mwk_n))))))))) (t_Md_tries_J154 hR60 hr)
theorem t_Md_tries_L60 {G : mG} {r : mR} {v0 v3 : Int} {K160 : mH → Int → Int → Option mR} (hK160 : ∀ (h : mH) (w4 w5 : Int) , K160 h w4 w5 = some r → mJ G M_Md_tries 160 [(9, 0), (9, 0), (9, 0), (0, v3), (0, w4), (0, w5), (9, 0), (9, 0), (9, 0)] [] h r) : ∀ (n : Nat) (h : mH) (v4 v5 v6 : Int), f_Md_tries_L60 K160 v0 n h v4 v5 v6 = some r → mJ G M_Md_tries 60 [(2, v0), (9, 0), (9, 0), (0, v3), (0, v4), (0, v5), (0, v6), (9, 0), (9, 0)] [] h r := by
  intro n
  induction n with
  | zero =>
    intro h v4 v5 v6 hr
    rw [f_Md_tries_L60] at hr
    cases hr
  | succ n hR60 =>
    intro h v4 v5 v6 hr
    rw [f_Md_tries_L60] at hr
    refine j_iload (pc := 60) d_Md_tries_60 rfl ?_
    refine j_aload_n (pc := 62) d_Md_tries_62 rfl ?_
    obtain ⟨ha, hr⟩ := chk_some hr
    refine j_callG (pc := 63) (stk := [(2, v0), (0, v6)]) (as := [(2, v0)]) (P := (fun v9 => ((0 : Nat), v9) :: [(0, v6)])) (tg := 0) (My := M_Md_stands) (mRunV (as := []) (st := [(0, v6)]) d_Md_tries_63 (mc_Md_stands (by decide)) rfl (mv_Md_stands tb_ml_Md_219) rfl (Nat.le_of_ble_eq_true rfl) ha) (fun v => rfl) rfl hr (fun r1 h1 => t_Md_stands _ _ _ h1) (fun x2 h1 hr => ?_)
    refine j_icmp_ge (pc := 66) (tgt := 160) d_Md_tries_66 hr (fun hr => ?_) (fun hr => ?_)
    · exact mJ_weak (ls' := [(9, 0), (9, 0), (9, 0), (0, v3), (0, v4), (0, v5), (9, 0), (9, 0), (9, 0)]) (mwk_d (mwk_s (mwk_s (mwk_s (mwk_s (mwk_s (mwk_d (mwk_s (mwk_s mwk_n))))))))) (hK160 h1 _ _ hr)
    · refine j_iconst (pc := 69) d_Md_tries_69 ?_
      refine j_istore (pc := 70) (ls' := [(2, v0), (9, 0), (9, 0), (0, v3), (0, v4), (0, v5), (0, v6), (0, 0), (9, 0)]) d_Md_tries_70 rfl ?_
      refine j_iconst (pc := 72) d_Md_tries_72 ?_
      refine j_istore (pc := 73) (ls' := [(2, v0), (9, 0), (9, 0), (0, v3), (0, v4), (0, v5), (0, v6), (0, 0), (0, 0)]) d_Md_tries_73 rfl ?_
      refine mJ_weak (ls' := [(2, v0), (9, 0), (9, 0), (0, v3), (0, v4), (0, v5), (0, v6), (0, 0), (0, 0)]) (mwk_s (mwk_s (mwk_s (mwk_s (mwk_s (mwk_s (mwk_s (mwk_s (mwk_s mwk_n))))))))) (t_Md_tries_L75 (fun h3 x4 hr => ?_) _ _ _ _ hr)
      · refine j_iload (pc := 116) d_Md_tries_116 rfl ?_
        refine j_aload_n (pc := 118) d_Md_tries_118 rfl ?_
        refine j_getf (pc := 119) d_Md_tries_119 (fd_Md_399 rfl) hr (fun hr => ?_)
        refine j_iload (pc := 122) d_Md_tries_122 rfl ?_
        refine j_isub (pc := 124) d_Md_tries_124 ?_
        refine j_max (pc := 125) d_Md_tries_125 tb_ml_Md_408 tb_sm_Math_max tb_in_java_lang_Math tb_co_Math_max (Nat.le_of_ble_eq_true rfl) ?_
        refine j_istoreW (pc := 128) (L := fun x5 => [(2, v0), (9, 0), (9, 0), (0, v3), (0, v4), (0, v5), (0, v6), (0, x4), (0, x5)]) d_Md_tries_128 (fun _ => rfl) hr (fun x5 hr => ?_)
        refine j_iload (pc := 130) d_Md_tries_130 rfl ?_
        refine j_iconst (pc := 132) d_Md_tries_132 ?_
        refine j_icmp_eq (pc := 133) (tgt := 146) d_Md_tries_133 hr (fun hr => ?_) (fun hr => ?_)
        · exact mJ_weak (ls' := [(2, v0), (9, 0), (9, 0), (0, v3), (9, 0), (9, 0), (0, v6), (9, 0), (0, x5)]) (mwk_s (mwk_s (mwk_s (mwk_s (mwk_d (mwk_d (mwk_s (mwk_d (mwk_s mwk_n))))))))) (t_Md_tries_J146 hR60 hr)
        · refine j_iload (pc := 136) d_Md_tries_136 rfl ?_
          refine j_iload (pc := 138) d_Md_tries_138 rfl ?_
          refine j_icmp_lt (pc := 140) (tgt := 146) d_Md_tries_140 hr (fun hr => ?_) (fun hr => ?_)
          · exact mJ_weak (ls' := [(2, v0), (9, 0), (9, 0), (0, v3), (9, 0), (9, 0), (0, v6), (9, 0), (0, x5)]) (mwk_s (mwk_s (mwk_s (mwk_s (mwk_d (mwk_d (mwk_s (mwk_d (mwk_s mwk_n))))))))) (t_Md_tries_J146 hR60 hr)
          · refine j_goto (pc := 143) (tgt := 154) d_Md_tries_143 ?_
            exact mJ_weak (ls' := [(2, v0), (9, 0), (9, 0), (0, v3), (0, v4), (0, v5), (0, v6), (9, 0), (9, 0)]) (mwk_s (mwk_s (mwk_s (mwk_s (mwk_s (mwk_s (mwk_s (mwk_d (mwk_d mwk_n))))))))) (t_Md_tries_J154 hR60 hr)
theorem t_Md_tries_J32 {G : mG} {r : mR} {v0 v3 : Int} {h : mH}  (hr : f_Md_tries_J32 v0 v3 h = some r) : mJ G M_Md_tries 32 [(2, v0), (9, 0), (9, 0), (0, v3), (9, 0), (9, 0), (9, 0), (9, 0), (9, 0)] [] h r := by
  unfold f_Md_tries_J32 at hr
  refine j_aload_n (pc := 32) d_Md_tries_32 rfl ?_
  refine j_getf (pc := 33) d_Md_tries_33 (fd_Md_86 rfl) hr (fun hr => ?_)
  refine j_if_le (pc := 36) (tgt := 41) d_Md_tries_36 hr (fun hr => ?_) (fun hr => ?_)
  · refine j_aload_n (pc := 41) d_Md_tries_41 rfl ?_
    refine j_getf (pc := 42) d_Md_tries_42 (fd_Md_399 rfl) hr (fun hr => ?_)
    refine j_iconst (pc := 45) d_Md_tries_45 ?_
    refine j_icmp_ge (pc := 46) (tgt := 51) d_Md_tries_46 hr (fun hr => ?_) (fun hr => ?_)
    · refine j_iconst (pc := 51) d_Md_tries_51 ?_
      refine j_istore (pc := 52) (ls' := [(2, v0), (9, 0), (9, 0), (0, v3), (0, (-1)), (9, 0), (9, 0), (9, 0), (9, 0)]) d_Md_tries_52 rfl ?_
      refine j_iconst (pc := 54) d_Md_tries_54 ?_
      refine j_istore (pc := 55) (ls' := [(2, v0), (9, 0), (9, 0), (0, v3), (0, (-1)), (0, 0), (9, 0), (9, 0), (9, 0)]) d_Md_tries_55 rfl ?_
      refine j_iconst (pc := 57) d_Md_tries_57 ?_
      refine j_istore (pc := 58) (ls' := [(2, v0), (9, 0), (9, 0), (0, v3), (0, (-1)), (0, 0), (0, 0), (9, 0), (9, 0)]) d_Md_tries_58 rfl ?_
      refine mJ_weak (ls' := [(2, v0), (9, 0), (9, 0), (0, v3), (0, (-1)), (0, 0), (0, 0), (9, 0), (9, 0)]) (mwk_s (mwk_s (mwk_s (mwk_s (mwk_s (mwk_s (mwk_s (mwk_s (mwk_s mwk_n))))))))) (t_Md_tries_L60 (fun h1 x2 x3 hr => ?_) _ _ _ _ _ hr)
      · refine j_iload_n (pc := 160) d_Md_tries_160 rfl ?_
        refine j_if_ne (pc := 161) (tgt := 169) d_Md_tries_161 hr (fun hr => ?_) (fun hr => ?_)
        · refine j_iload (pc := 169) d_Md_tries_169 rfl ?_
          exact j_iret (pc := 171) d_Md_tries_171 rfl hr
        · refine j_iload (pc := 164) d_Md_tries_164 rfl ?_
          refine j_goto (pc := 166) (tgt := 171) d_Md_tries_166 ?_
          exact j_iret (pc := 171) d_Md_tries_171 rfl hr
    · refine j_iconst (pc := 49) d_Md_tries_49 ?_
      exact j_iret (pc := 50) d_Md_tries_50 rfl hr
  · refine j_iconst (pc := 39) d_Md_tries_39 ?_
    exact j_iret (pc := 40) d_Md_tries_40 rfl hr
theorem t_Md_tries {G : mG} (h : mH) (v0 v1 v2 v3 : Int) (r : mR) (hr : f_Md_tries h v0 v1 v2 v3 = some r) : mJM G M_Md_tries [(2, v0), (0, v1), (0, v2), (0, v3)] h r := by
  refine mJM_of (L := [(2, v0), (0, v1), (0, v2), (0, v3), (9, 0), (9, 0), (9, 0), (9, 0), (9, 0)]) rfl rfl rfl (Nat.le_of_ble_eq_true rfl) ?_
  unfold f_Md_tries at hr
  refine j_aload_n (pc := 0) d_Md_tries_0 rfl ?_
  refine j_aload_n (pc := 1) d_Md_tries_1 rfl ?_
  refine j_iload_n (pc := 2) d_Md_tries_2 rfl ?_
  refine j_iload_n (pc := 3) d_Md_tries_3 rfl ?_
  obtain ⟨ha, hr⟩ := chk_some hr
  refine j_callG (pc := 4) (stk := [(0, v2), (0, v1), (2, v0), (2, v0)]) (as := [(2, v0), (0, v1), (0, v2)]) (P := (fun v9 => ((0 : Nat), v9) :: [(2, v0)])) (tg := 0) (My := M_Md_laysFacts) (mRunV (as := [(0, v1), (0, v2)]) (st := [(2, v0)]) d_Md_tries_4 (mc_Md_laysFacts (by decide)) rfl (mv_Md_laysFacts tb_ml_Md_405) rfl (Nat.le_of_ble_eq_true rfl) ha) (fun v => rfl) rfl hr (fun r1 h1 => t_Md_laysFacts _ _ _ _ _ h1) (fun x2 h1 hr => ?_)
  refine j_puti (pc := 7) d_Md_tries_7 (fd_Md_86 rfl) (⟨_, _, _, rfl, Or.inl rfl, rfl⟩ : mFldW M_Md_tries 86 11 5 .int) hr (fun h3 hr => ?_)
  refine j_aload_n (pc := 10) d_Md_tries_10 rfl ?_
  refine j_getf (pc := 11) d_Md_tries_11 (fd_Md_86 rfl) hr (fun hr => ?_)
  refine j_if_ne (pc := 14) (tgt := 32) d_Md_tries_14 hr (fun hr => ?_) (fun hr => ?_)
  · exact mJ_weak (ls' := [(2, v0), (9, 0), (9, 0), (0, v3), (9, 0), (9, 0), (9, 0), (9, 0), (9, 0)]) (mwk_s (mwk_d (mwk_d (mwk_s (mwk_s (mwk_s (mwk_s (mwk_s (mwk_s mwk_n))))))))) (t_Md_tries_J32  hr)
  · refine j_iload_n (pc := 17) d_Md_tries_17 rfl ?_
    refine j_i2l (pc := 18) d_Md_tries_18 ?_
    refine j_lconst (pc := 19) (z := 0) d_Md_tries_19 ?_
    refine j_lconst (pc := 20) (z := 1) d_Md_tries_20 ?_
    refine j_callG (pc := 21) (stk := [(1, 1), (1, 0), (1, v3)]) (as := [(1, v3), (1, 0), (1, 1)]) (P := (fun v9 => ((0 : Nat), v9) :: [])) (tg := 0) (My := M_Md_amid) (mRunS (as := [(1, v3), (1, 0), (1, 1)]) (st := []) d_Md_tries_21 (mc_Md_amid (by decide)) rfl ⟨tb_ml_Md_147, tb_sm_Md_amid⟩ rfl (Nat.le_of_ble_eq_true rfl)) (fun v => rfl) rfl hr (fun r1 h1 => t_Md_amid _ _ _ _ _ h1) (fun x5 h4 hr => ?_)
    refine j_if_ne (pc := 24) (tgt := 32) d_Md_tries_24 hr (fun hr => ?_) (fun hr => ?_)
    · exact mJ_weak (ls' := [(2, v0), (9, 0), (9, 0), (0, v3), (9, 0), (9, 0), (9, 0), (9, 0), (9, 0)]) (mwk_s (mwk_d (mwk_d (mwk_s (mwk_s (mwk_s (mwk_s (mwk_s (mwk_s mwk_n))))))))) (t_Md_tries_J32  hr)
    · refine j_aload_n (pc := 27) d_Md_tries_27 rfl ?_
      refine j_iconst (pc := 28) d_Md_tries_28 ?_
      refine j_puti (pc := 29) d_Md_tries_29 (fd_Md_86 rfl) (⟨_, _, _, rfl, Or.inl rfl, rfl⟩ : mFldW M_Md_tries 86 11 5 .int) hr (fun h6 hr => ?_)
      exact mJ_weak (ls' := [(2, v0), (9, 0), (9, 0), (0, v3), (9, 0), (9, 0), (9, 0), (9, 0), (9, 0)]) (mwk_s (mwk_d (mwk_d (mwk_s (mwk_s (mwk_s (mwk_s (mwk_s (mwk_s mwk_n))))))))) (t_Md_tries_J32  hr)
def M_Md_rows : mM := ("NineBarsModel", ⟨"NineBarsModel", "rows", "(IZ)J"⟩, prog_13_method_105_code, 8, some .long, [], 11)
theorem tb_co_Md_rows : mTB (Cond.code ⟨"NineBarsModel", "rows", "(IZ)J"⟩ prog_13_method_105_code 8 (some .long)) := tbq9 43 (by decide +kernel) rfl
theorem mc_Md_rows {M : mM} (hd : 11 < mDp M) : mCal M M_Md_rows 2 := ⟨tb_co_Md_rows, tb_in_NineBarsModel, ⟨by decide +kernel, by decide +kernel⟩, by decide +kernel, hd, by decide⟩
theorem d_Md_rows_0 : decode prog_13_method_105_code 0 = .ok (.aload_n 0, 1) := by decide +kernel
theorem d_Md_rows_1 : decode prog_13_method_105_code 1 = .ok (.iload_n 1, 1) := by decide +kernel
theorem d_Md_rows_2 : decode prog_13_method_105_code 2 = .ok (.i2l, 1) := by decide +kernel
theorem d_Md_rows_3 : decode prog_13_method_105_code 3 = .ok (.lconst 0, 1) := by decide +kernel
theorem tb_cj_Md_413 : mTB (Cond.constantLong "NineBarsModel" 413 20) := tbq9 44 (by decide +kernel) rfl
theorem d_Md_rows_4 : decode prog_13_method_105_code 4 = .ok (.ldc2_w 413, 3) := by decide +kernel
theorem d_Md_rows_7 : decode prog_13_method_105_code 7 = .ok (.invokestatic 147, 3) := by decide +kernel
theorem d_Md_rows_10 : decode prog_13_method_105_code 10 = .ok (.ifCond .ne 7, 3) := by decide +kernel
theorem d_Md_rows_17 : decode prog_13_method_105_code 17 = .ok (.aload_n 0, 1) := by decide +kernel
theorem d_Md_rows_18 : decode prog_13_method_105_code 18 = .ok (.invokevirtual 261, 3) := by decide +kernel
theorem d_Md_rows_21 : decode prog_13_method_105_code 21 = .ok (.ifCond .eq 7, 3) := by decide +kernel
theorem d_Md_rows_28 : decode prog_13_method_105_code 28 = .ok (.iconst 0, 1) := by decide +kernel
theorem d_Md_rows_29 : decode prog_13_method_105_code 29 = .ok (.putfield 86, 3) := by decide +kernel
theorem d_Md_rows_32 : decode prog_13_method_105_code 32 = .ok (.aload_n 0, 1) := by decide +kernel
theorem d_Md_rows_33 : decode prog_13_method_105_code 33 = .ok (.getfield 86, 3) := by decide +kernel
theorem d_Md_rows_36 : decode prog_13_method_105_code 36 = .ok (.ifCond .le 5, 3) := by decide +kernel
theorem d_Md_rows_41 : decode prog_13_method_105_code 41 = .ok (.aload_n 0, 1) := by decide +kernel
theorem d_Md_rows_42 : decode prog_13_method_105_code 42 = .ok (.invokevirtual 376, 3) := by decide +kernel
theorem d_Md_rows_45 : decode prog_13_method_105_code 45 = .ok (.lconst 0, 1) := by decide +kernel
theorem d_Md_rows_46 : decode prog_13_method_105_code 46 = .ok (.lstore_n 3, 1) := by decide +kernel
theorem d_Md_rows_47 : decode prog_13_method_105_code 47 = .ok (.lconst 0, 1) := by decide +kernel
theorem d_Md_rows_48 : decode prog_13_method_105_code 48 = .ok (.lstore 5, 2) := by decide +kernel
theorem d_Md_rows_50 : decode prog_13_method_105_code 50 = .ok (.aload_n 0, 1) := by decide +kernel
theorem d_Md_rows_51 : decode prog_13_method_105_code 51 = .ok (.invokevirtual 379, 3) := by decide +kernel
theorem d_Md_rows_54 : decode prog_13_method_105_code 54 = .ok (.iconst 0, 1) := by decide +kernel
theorem d_Md_rows_55 : decode prog_13_method_105_code 55 = .ok (.istore 7, 2) := by decide +kernel
theorem d_Md_rows_57 : decode prog_13_method_105_code 57 = .ok (.iload 7, 2) := by decide +kernel
theorem d_Md_rows_59 : decode prog_13_method_105_code 59 = .ok (.iload_n 1, 1) := by decide +kernel
theorem d_Md_rows_60 : decode prog_13_method_105_code 60 = .ok (.if_icmp .ge 16, 3) := by decide +kernel
theorem d_Md_rows_63 : decode prog_13_method_105_code 63 = .ok (.aload_n 0, 1) := by decide +kernel
theorem d_Md_rows_64 : decode prog_13_method_105_code 64 = .ok (.ldc2_w 374, 3) := by decide +kernel
theorem d_Md_rows_67 : decode prog_13_method_105_code 67 = .ok (.invokevirtual 382, 3) := by decide +kernel
theorem d_Md_rows_70 : decode prog_13_method_105_code 70 = .ok (.iinc 7 1, 3) := by decide +kernel
theorem d_Md_rows_73 : decode prog_13_method_105_code 73 = .ok (.goto (-16), 3) := by decide +kernel
theorem d_Md_rows_76 : decode prog_13_method_105_code 76 = .ok (.iconst 0, 1) := by decide +kernel
theorem d_Md_rows_77 : decode prog_13_method_105_code 77 = .ok (.istore 7, 2) := by decide +kernel
theorem d_Md_rows_79 : decode prog_13_method_105_code 79 = .ok (.iload 7, 2) := by decide +kernel
theorem d_Md_rows_81 : decode prog_13_method_105_code 81 = .ok (.aload_n 0, 1) := by decide +kernel
theorem d_Md_rows_82 : decode prog_13_method_105_code 82 = .ok (.invokevirtual 219, 3) := by decide +kernel
theorem d_Md_rows_85 : decode prog_13_method_105_code 85 = .ok (.if_icmp .ge 19, 3) := by decide +kernel
theorem d_Md_rows_88 : decode prog_13_method_105_code 88 = .ok (.lload_n 3, 1) := by decide +kernel
theorem d_Md_rows_89 : decode prog_13_method_105_code 89 = .ok (.aload_n 0, 1) := by decide +kernel
theorem d_Md_rows_90 : decode prog_13_method_105_code 90 = .ok (.getfield 45, 3) := by decide +kernel
theorem d_Md_rows_93 : decode prog_13_method_105_code 93 = .ok (.iload 7, 2) := by decide +kernel
theorem d_Md_rows_95 : decode prog_13_method_105_code 95 = .ok (.laload, 1) := by decide +kernel
theorem d_Md_rows_96 : decode prog_13_method_105_code 96 = .ok (.ladd, 1) := by decide +kernel
theorem d_Md_rows_97 : decode prog_13_method_105_code 97 = .ok (.lstore_n 3, 1) := by decide +kernel
theorem d_Md_rows_98 : decode prog_13_method_105_code 98 = .ok (.iinc 7 1, 3) := by decide +kernel
theorem d_Md_rows_101 : decode prog_13_method_105_code 101 = .ok (.goto (-22), 3) := by decide +kernel
theorem d_Md_rows_104 : decode prog_13_method_105_code 104 = .ok (.aload_n 0, 1) := by decide +kernel
theorem d_Md_rows_105 : decode prog_13_method_105_code 105 = .ok (.invokevirtual 379, 3) := by decide +kernel
theorem d_Md_rows_108 : decode prog_13_method_105_code 108 = .ok (.aload_n 0, 1) := by decide +kernel
theorem d_Md_rows_109 : decode prog_13_method_105_code 109 = .ok (.getfield 45, 3) := by decide +kernel
theorem d_Md_rows_112 : decode prog_13_method_105_code 112 = .ok (.aload_n 0, 1) := by decide +kernel
theorem d_Md_rows_113 : decode prog_13_method_105_code 113 = .ok (.invokevirtual 341, 3) := by decide +kernel
theorem d_Md_rows_116 : decode prog_13_method_105_code 116 = .ok (.lconst 0, 1) := by decide +kernel
theorem d_Md_rows_117 : decode prog_13_method_105_code 117 = .ok (.lastore, 1) := by decide +kernel
theorem d_Md_rows_118 : decode prog_13_method_105_code 118 = .ok (.iconst 0, 1) := by decide +kernel
theorem d_Md_rows_119 : decode prog_13_method_105_code 119 = .ok (.istore 7, 2) := by decide +kernel
theorem d_Md_rows_121 : decode prog_13_method_105_code 121 = .ok (.iload 7, 2) := by decide +kernel
theorem d_Md_rows_123 : decode prog_13_method_105_code 123 = .ok (.iload_n 1, 1) := by decide +kernel
theorem d_Md_rows_124 : decode prog_13_method_105_code 124 = .ok (.if_icmp .ge 26, 3) := by decide +kernel
theorem d_Md_rows_127 : decode prog_13_method_105_code 127 = .ok (.aload_n 0, 1) := by decide +kernel
theorem d_Md_rows_128 : decode prog_13_method_105_code 128 = .ok (.ldc2_w 374, 3) := by decide +kernel
theorem d_Md_rows_131 : decode prog_13_method_105_code 131 = .ok (.invokevirtual 382, 3) := by decide +kernel
theorem d_Md_rows_134 : decode prog_13_method_105_code 134 = .ok (.aload_n 0, 1) := by decide +kernel
theorem d_Md_rows_135 : decode prog_13_method_105_code 135 = .ok (.getfield 45, 3) := by decide +kernel
theorem d_Md_rows_138 : decode prog_13_method_105_code 138 = .ok (.aload_n 0, 1) := by decide +kernel
theorem d_Md_rows_139 : decode prog_13_method_105_code 139 = .ok (.invokevirtual 341, 3) := by decide +kernel
theorem d_Md_rows_142 : decode prog_13_method_105_code 142 = .ok (.lconst 0, 1) := by decide +kernel
theorem d_Md_rows_143 : decode prog_13_method_105_code 143 = .ok (.lastore, 1) := by decide +kernel
theorem d_Md_rows_144 : decode prog_13_method_105_code 144 = .ok (.iinc 7 1, 3) := by decide +kernel
theorem d_Md_rows_147 : decode prog_13_method_105_code 147 = .ok (.goto (-26), 3) := by decide +kernel
theorem d_Md_rows_150 : decode prog_13_method_105_code 150 = .ok (.iconst 0, 1) := by decide +kernel
theorem d_Md_rows_151 : decode prog_13_method_105_code 151 = .ok (.istore 7, 2) := by decide +kernel
theorem d_Md_rows_153 : decode prog_13_method_105_code 153 = .ok (.iload 7, 2) := by decide +kernel
theorem d_Md_rows_155 : decode prog_13_method_105_code 155 = .ok (.aload_n 0, 1) := by decide +kernel
theorem d_Md_rows_156 : decode prog_13_method_105_code 156 = .ok (.invokevirtual 219, 3) := by decide +kernel
theorem d_Md_rows_159 : decode prog_13_method_105_code 159 = .ok (.if_icmp .ge 21, 3) := by decide +kernel
theorem d_Md_rows_162 : decode prog_13_method_105_code 162 = .ok (.lload 5, 2) := by decide +kernel
theorem d_Md_rows_164 : decode prog_13_method_105_code 164 = .ok (.aload_n 0, 1) := by decide +kernel
theorem d_Md_rows_165 : decode prog_13_method_105_code 165 = .ok (.getfield 45, 3) := by decide +kernel
theorem d_Md_rows_168 : decode prog_13_method_105_code 168 = .ok (.iload 7, 2) := by decide +kernel
theorem d_Md_rows_170 : decode prog_13_method_105_code 170 = .ok (.laload, 1) := by decide +kernel
theorem d_Md_rows_171 : decode prog_13_method_105_code 171 = .ok (.ladd, 1) := by decide +kernel
theorem d_Md_rows_172 : decode prog_13_method_105_code 172 = .ok (.lstore 5, 2) := by decide +kernel
theorem d_Md_rows_174 : decode prog_13_method_105_code 174 = .ok (.iinc 7 1, 3) := by decide +kernel
theorem d_Md_rows_177 : decode prog_13_method_105_code 177 = .ok (.goto (-24), 3) := by decide +kernel
theorem d_Md_rows_180 : decode prog_13_method_105_code 180 = .ok (.iload_n 2, 1) := by decide +kernel
theorem d_Md_rows_181 : decode prog_13_method_105_code 181 = .ok (.ifCond .eq 10, 3) := by decide +kernel
theorem d_Md_rows_191 : decode prog_13_method_105_code 191 = .ok (.lload_n 3, 1) := by decide +kernel
theorem d_Md_rows_192 : decode prog_13_method_105_code 192 = .ok (.lreturn, 1) := by decide +kernel
theorem d_Md_rows_184 : decode prog_13_method_105_code 184 = .ok (.lload_n 3, 1) := by decide +kernel
theorem d_Md_rows_185 : decode prog_13_method_105_code 185 = .ok (.lload 5, 2) := by decide +kernel
theorem d_Md_rows_187 : decode prog_13_method_105_code 187 = .ok (.lsub, 1) := by decide +kernel
theorem d_Md_rows_188 : decode prog_13_method_105_code 188 = .ok (.goto 4, 3) := by decide +kernel
theorem d_Md_rows_39 : decode prog_13_method_105_code 39 = .ok (.lconst 0, 1) := by decide +kernel
theorem d_Md_rows_40 : decode prog_13_method_105_code 40 = .ok (.lreturn, 1) := by decide +kernel
theorem d_Md_rows_24 : decode prog_13_method_105_code 24 = .ok (.iconst 2, 1) := by decide +kernel
theorem d_Md_rows_25 : decode prog_13_method_105_code 25 = .ok (.goto 4, 3) := by decide +kernel
theorem d_Md_rows_13 : decode prog_13_method_105_code 13 = .ok (.iconst 1, 1) := by decide +kernel
theorem d_Md_rows_14 : decode prog_13_method_105_code 14 = .ok (.goto 15, 3) := by decide +kernel
theorem t_Md_rows_L57 {G : mG} {r : mR} {v0 v1 v2 v3 v5 : Int} {K76 : mH → Option mR} (hK76 : ∀ (h : mH) , K76 h  = some r → mJ G M_Md_rows 76 [(2, v0), (0, v1), (0, v2), (1, v3), (9, 0), (1, v5), (9, 0), (9, 0)] [] h r) : ∀ (n : Nat) (h : mH) (v7 : Int), f_Md_rows_L57 K76 v0 v1 n h v7 = some r → mJ G M_Md_rows 57 [(2, v0), (0, v1), (0, v2), (1, v3), (9, 0), (1, v5), (9, 0), (0, v7)] [] h r := by
  intro n
  induction n with
  | zero =>
    intro h v7 hr
    rw [f_Md_rows_L57] at hr
    cases hr
  | succ n hR57 =>
    intro h v7 hr
    rw [f_Md_rows_L57] at hr
    refine j_iload (pc := 57) d_Md_rows_57 rfl ?_
    refine j_iload_n (pc := 59) d_Md_rows_59 rfl ?_
    refine j_icmp_ge (pc := 60) (tgt := 76) d_Md_rows_60 hr (fun hr => ?_) (fun hr => ?_)
    · exact mJ_weak (ls' := [(2, v0), (0, v1), (0, v2), (1, v3), (9, 0), (1, v5), (9, 0), (9, 0)]) (mwk_s (mwk_s (mwk_s (mwk_s (mwk_s (mwk_s (mwk_s (mwk_d mwk_n)))))))) (hK76 h  hr)
    · refine j_aload_n (pc := 63) d_Md_rows_63 rfl ?_
      refine j_ldc2 (pc := 64) (z := (-1)) d_Md_rows_64 tb_cj_Md_374 rfl ?_
      obtain ⟨ha, hr⟩ := chk_some hr
      refine j_callG (pc := 67) (stk := [(1, (-1)), (2, v0)]) (as := [(2, v0), (1, (-1))]) (P := (fun v9 => [])) (tg := 3) (My := M_Md_waysGo) (mRunV (as := [(1, (-1))]) (st := []) d_Md_rows_67 (mc_Md_waysGo (by decide)) rfl (mv_Md_waysGo tb_ml_Md_382) rfl (Nat.le_of_ble_eq_true rfl) ha) (fun v => rfl) rfl hr (fun r1 h1 => t_Md_waysGo _ _ _ _ h1) (fun x2 h1 hr => ?_)
      refine j_iincW (pc := 70) (L := fun x3 => [(2, v0), (0, v1), (0, v2), (1, v3), (9, 0), (1, v5), (9, 0), (0, x3)]) d_Md_rows_70 rfl (fun _ => rfl) hr (fun x3 hr => ?_)
      refine j_goto (pc := 73) (tgt := 57) d_Md_rows_73 ?_
      exact mJ_weak (ls' := [(2, v0), (0, v1), (0, v2), (1, v3), (9, 0), (1, v5), (9, 0), (0, x3)]) (mwk_s (mwk_s (mwk_s (mwk_s (mwk_s (mwk_s (mwk_s (mwk_s mwk_n)))))))) (hR57 h1 _ hr)
theorem t_Md_rows_L79 {G : mG} {r : mR} {v0 v1 v2 v5 : Int} {K104 : mH → Int → Option mR} (hK104 : ∀ (h : mH) (w3 : Int) , K104 h w3 = some r → mJ G M_Md_rows 104 [(2, v0), (0, v1), (0, v2), (1, w3), (9, 0), (1, v5), (9, 0), (9, 0)] [] h r) : ∀ (n : Nat) (h : mH) (v3 v7 : Int), f_Md_rows_L79 K104 v0 n h v3 v7 = some r → mJ G M_Md_rows 79 [(2, v0), (0, v1), (0, v2), (1, v3), (9, 0), (1, v5), (9, 0), (0, v7)] [] h r := by
  intro n
  induction n with
  | zero =>
    intro h v3 v7 hr
    rw [f_Md_rows_L79] at hr
    cases hr
  | succ n hR79 =>
    intro h v3 v7 hr
    rw [f_Md_rows_L79] at hr
    refine j_iload (pc := 79) d_Md_rows_79 rfl ?_
    refine j_aload_n (pc := 81) d_Md_rows_81 rfl ?_
    obtain ⟨ha, hr⟩ := chk_some hr
    refine j_callG (pc := 82) (stk := [(2, v0), (0, v7)]) (as := [(2, v0)]) (P := (fun v9 => ((0 : Nat), v9) :: [(0, v7)])) (tg := 0) (My := M_Md_stands) (mRunV (as := []) (st := [(0, v7)]) d_Md_rows_82 (mc_Md_stands (by decide)) rfl (mv_Md_stands tb_ml_Md_219) rfl (Nat.le_of_ble_eq_true rfl) ha) (fun v => rfl) rfl hr (fun r1 h1 => t_Md_stands _ _ _ h1) (fun x2 h1 hr => ?_)
    refine j_icmp_ge (pc := 85) (tgt := 104) d_Md_rows_85 hr (fun hr => ?_) (fun hr => ?_)
    · exact mJ_weak (ls' := [(2, v0), (0, v1), (0, v2), (1, v3), (9, 0), (1, v5), (9, 0), (9, 0)]) (mwk_s (mwk_s (mwk_s (mwk_s (mwk_s (mwk_s (mwk_s (mwk_d mwk_n)))))))) (hK104 h1 _ hr)
    · refine j_lload_n (pc := 88) d_Md_rows_88 rfl ?_
      refine j_aload_n (pc := 89) d_Md_rows_89 rfl ?_
      refine j_getf (pc := 90) d_Md_rows_90 (fd_Md_45 rfl) hr (fun hr => ?_)
      refine j_iload (pc := 93) d_Md_rows_93 rfl ?_
      refine j_laload (pc := 95) d_Md_rows_95 hr (fun hr => ?_)
      refine j_ladd (pc := 96) d_Md_rows_96 ?_
      refine j_lstoreW_n (pc := 97) (L := fun x3 => [(2, v0), (0, v1), (0, v2), (1, x3), (9, 0), (1, v5), (9, 0), (0, v7)]) d_Md_rows_97 (fun _ => rfl) hr (fun x3 hr => ?_)
      refine j_iincW (pc := 98) (L := fun x4 => [(2, v0), (0, v1), (0, v2), (1, x3), (9, 0), (1, v5), (9, 0), (0, x4)]) d_Md_rows_98 rfl (fun _ => rfl) hr (fun x4 hr => ?_)
      refine j_goto (pc := 101) (tgt := 79) d_Md_rows_101 ?_
      exact mJ_weak (ls' := [(2, v0), (0, v1), (0, v2), (1, x3), (9, 0), (1, v5), (9, 0), (0, x4)]) (mwk_s (mwk_s (mwk_s (mwk_s (mwk_s (mwk_s (mwk_s (mwk_s mwk_n)))))))) (hR79 h1 _ _ hr)
theorem t_Md_rows_L121 {G : mG} {r : mR} {v0 v1 v2 v3 v5 : Int} {K150 : mH → Option mR} (hK150 : ∀ (h : mH) , K150 h  = some r → mJ G M_Md_rows 150 [(2, v0), (9, 0), (0, v2), (1, v3), (9, 0), (1, v5), (9, 0), (9, 0)] [] h r) : ∀ (n : Nat) (h : mH) (v7 : Int), f_Md_rows_L121 K150 v0 v1 n h v7 = some r → mJ G M_Md_rows 121 [(2, v0), (0, v1), (0, v2), (1, v3), (9, 0), (1, v5), (9, 0), (0, v7)] [] h r := by
  intro n
  induction n with
  | zero =>
    intro h v7 hr
    rw [f_Md_rows_L121] at hr
    cases hr
  | succ n hR121 =>
    intro h v7 hr
    rw [f_Md_rows_L121] at hr
    refine j_iload (pc := 121) d_Md_rows_121 rfl ?_
    refine j_iload_n (pc := 123) d_Md_rows_123 rfl ?_
    refine j_icmp_ge (pc := 124) (tgt := 150) d_Md_rows_124 hr (fun hr => ?_) (fun hr => ?_)
    · exact mJ_weak (ls' := [(2, v0), (9, 0), (0, v2), (1, v3), (9, 0), (1, v5), (9, 0), (9, 0)]) (mwk_s (mwk_d (mwk_s (mwk_s (mwk_s (mwk_s (mwk_s (mwk_d mwk_n)))))))) (hK150 h  hr)
    · refine j_aload_n (pc := 127) d_Md_rows_127 rfl ?_
      refine j_ldc2 (pc := 128) (z := (-1)) d_Md_rows_128 tb_cj_Md_374 rfl ?_
      obtain ⟨ha, hr⟩ := chk_some hr
      refine j_callG (pc := 131) (stk := [(1, (-1)), (2, v0)]) (as := [(2, v0), (1, (-1))]) (P := (fun v9 => [])) (tg := 3) (My := M_Md_waysGo) (mRunV (as := [(1, (-1))]) (st := []) d_Md_rows_131 (mc_Md_waysGo (by decide)) rfl (mv_Md_waysGo tb_ml_Md_382) rfl (Nat.le_of_ble_eq_true rfl) ha) (fun v => rfl) rfl hr (fun r1 h1 => t_Md_waysGo _ _ _ _ h1) (fun x2 h1 hr => ?_)
      refine j_aload_n (pc := 134) d_Md_rows_134 rfl ?_
      refine j_getf (pc := 135) d_Md_rows_135 (fd_Md_45 rfl) hr (fun hr => ?_)
      refine j_aload_n (pc := 138) d_Md_rows_138 rfl ?_
      obtain ⟨ha, hr⟩ := chk_some hr
      refine j_callG (pc := 139) (stk := [(2, v0), (2, hpV h1 v0 25)]) (as := [(2, v0)]) (P := (fun v9 => ((0 : Nat), v9) :: [(2, hpV h1 v0 25)])) (tg := 0) (My := M_Md_openStand) (mRunV (as := []) (st := [(2, hpV h1 v0 25)]) d_Md_rows_139 (mc_Md_openStand (by decide)) rfl (mv_Md_openStand tb_ml_Md_341) rfl (Nat.le_of_ble_eq_true rfl) ha) (fun v => rfl) rfl hr (fun r1 h1 => t_Md_openStand _ _ _ h1) (fun x4 h3 hr => ?_)
      refine j_lconst (pc := 142) (z := 0) d_Md_rows_142 ?_
      refine j_lastore (pc := 143) d_Md_rows_143 hr (fun h5 hr => ?_)
      refine j_iincW (pc := 144) (L := fun x6 => [(2, v0), (0, v1), (0, v2), (1, v3), (9, 0), (1, v5), (9, 0), (0, x6)]) d_Md_rows_144 rfl (fun _ => rfl) hr (fun x6 hr => ?_)
      refine j_goto (pc := 147) (tgt := 121) d_Md_rows_147 ?_
      exact mJ_weak (ls' := [(2, v0), (0, v1), (0, v2), (1, v3), (9, 0), (1, v5), (9, 0), (0, x6)]) (mwk_s (mwk_s (mwk_s (mwk_s (mwk_s (mwk_s (mwk_s (mwk_s mwk_n)))))))) (hR121 h5 _ hr)
theorem t_Md_rows_L153 {G : mG} {r : mR} {v0 v2 v3 : Int} {K180 : mH → Int → Option mR} (hK180 : ∀ (h : mH) (w5 : Int) , K180 h w5 = some r → mJ G M_Md_rows 180 [(9, 0), (9, 0), (0, v2), (1, v3), (9, 0), (1, w5), (9, 0), (9, 0)] [] h r) : ∀ (n : Nat) (h : mH) (v5 v7 : Int), f_Md_rows_L153 K180 v0 n h v5 v7 = some r → mJ G M_Md_rows 153 [(2, v0), (9, 0), (0, v2), (1, v3), (9, 0), (1, v5), (9, 0), (0, v7)] [] h r := by
  intro n
  induction n with
  | zero =>
    intro h v5 v7 hr
    rw [f_Md_rows_L153] at hr
    cases hr
  | succ n hR153 =>
    intro h v5 v7 hr
    rw [f_Md_rows_L153] at hr
    refine j_iload (pc := 153) d_Md_rows_153 rfl ?_
    refine j_aload_n (pc := 155) d_Md_rows_155 rfl ?_
    obtain ⟨ha, hr⟩ := chk_some hr
    refine j_callG (pc := 156) (stk := [(2, v0), (0, v7)]) (as := [(2, v0)]) (P := (fun v9 => ((0 : Nat), v9) :: [(0, v7)])) (tg := 0) (My := M_Md_stands) (mRunV (as := []) (st := [(0, v7)]) d_Md_rows_156 (mc_Md_stands (by decide)) rfl (mv_Md_stands tb_ml_Md_219) rfl (Nat.le_of_ble_eq_true rfl) ha) (fun v => rfl) rfl hr (fun r1 h1 => t_Md_stands _ _ _ h1) (fun x2 h1 hr => ?_)
    refine j_icmp_ge (pc := 159) (tgt := 180) d_Md_rows_159 hr (fun hr => ?_) (fun hr => ?_)
    · exact mJ_weak (ls' := [(9, 0), (9, 0), (0, v2), (1, v3), (9, 0), (1, v5), (9, 0), (9, 0)]) (mwk_d (mwk_s (mwk_s (mwk_s (mwk_s (mwk_s (mwk_s (mwk_d mwk_n)))))))) (hK180 h1 _ hr)
    · refine j_lload (pc := 162) d_Md_rows_162 rfl ?_
      refine j_aload_n (pc := 164) d_Md_rows_164 rfl ?_
      refine j_getf (pc := 165) d_Md_rows_165 (fd_Md_45 rfl) hr (fun hr => ?_)
      refine j_iload (pc := 168) d_Md_rows_168 rfl ?_
      refine j_laload (pc := 170) d_Md_rows_170 hr (fun hr => ?_)
      refine j_ladd (pc := 171) d_Md_rows_171 ?_
      refine j_lstoreW (pc := 172) (L := fun x3 => [(2, v0), (9, 0), (0, v2), (1, v3), (9, 0), (1, x3), (9, 0), (0, v7)]) d_Md_rows_172 (fun _ => rfl) hr (fun x3 hr => ?_)
      refine j_iincW (pc := 174) (L := fun x4 => [(2, v0), (9, 0), (0, v2), (1, v3), (9, 0), (1, x3), (9, 0), (0, x4)]) d_Md_rows_174 rfl (fun _ => rfl) hr (fun x4 hr => ?_)
      refine j_goto (pc := 177) (tgt := 153) d_Md_rows_177 ?_
      exact mJ_weak (ls' := [(2, v0), (9, 0), (0, v2), (1, v3), (9, 0), (1, x3), (9, 0), (0, x4)]) (mwk_s (mwk_s (mwk_s (mwk_s (mwk_s (mwk_s (mwk_s (mwk_s mwk_n)))))))) (hR153 h1 _ _ hr)
theorem t_Md_rows_J29 {G : mG} {r : mR} {v0 v1 v2 s0 s1 : Int} {h : mH}  (hr : f_Md_rows_J29 v0 v1 v2 s0 s1 h = some r) : mJ G M_Md_rows 29 [(2, v0), (0, v1), (0, v2), (9, 0), (9, 0), (9, 0), (9, 0), (9, 0)] [(0, s1), (2, s0)] h r := by
  unfold f_Md_rows_J29 at hr
  refine j_puti (pc := 29) d_Md_rows_29 (fd_Md_86 rfl) (⟨_, _, _, rfl, Or.inl rfl, rfl⟩ : mFldW M_Md_rows 86 11 5 .int) hr (fun h1 hr => ?_)
  refine j_aload_n (pc := 32) d_Md_rows_32 rfl ?_
  refine j_getf (pc := 33) d_Md_rows_33 (fd_Md_86 rfl) hr (fun hr => ?_)
  refine j_if_le (pc := 36) (tgt := 41) d_Md_rows_36 hr (fun hr => ?_) (fun hr => ?_)
  · refine j_aload_n (pc := 41) d_Md_rows_41 rfl ?_
    obtain ⟨ha, hr⟩ := chk_some hr
    refine j_callG (pc := 42) (stk := [(2, v0)]) (as := [(2, v0)]) (P := (fun v9 => [])) (tg := 3) (My := M_Md_laysLeads) (mRunV (as := []) (st := []) d_Md_rows_42 (mc_Md_laysLeads (by decide)) rfl (mv_Md_laysLeads tb_ml_Md_376) rfl (Nat.le_of_ble_eq_true rfl) ha) (fun v => rfl) rfl hr (fun r1 h1 => t_Md_laysLeads _ _ _ h1) (fun x3 h2 hr => ?_)
    refine j_lconst (pc := 45) (z := 0) d_Md_rows_45 ?_
    refine j_lstore_n (pc := 46) (ls' := [(2, v0), (0, v1), (0, v2), (1, 0), (9, 0), (9, 0), (9, 0), (9, 0)]) d_Md_rows_46 rfl ?_
    refine j_lconst (pc := 47) (z := 0) d_Md_rows_47 ?_
    refine j_lstore (pc := 48) (ls' := [(2, v0), (0, v1), (0, v2), (1, 0), (9, 0), (1, 0), (9, 0), (9, 0)]) d_Md_rows_48 rfl ?_
    refine j_aload_n (pc := 50) d_Md_rows_50 rfl ?_
    obtain ⟨ha, hr⟩ := chk_some hr
    refine j_callG (pc := 51) (stk := [(2, v0)]) (as := [(2, v0)]) (P := (fun v9 => [])) (tg := 3) (My := M_Md_waysBegin) (mRunV (as := []) (st := []) d_Md_rows_51 (mc_Md_waysBegin (by decide)) rfl (mv_Md_waysBegin tb_ml_Md_379) rfl (Nat.le_of_ble_eq_true rfl) ha) (fun v => rfl) rfl hr (fun r1 h1 => t_Md_waysBegin _ _ _ h1) (fun x5 h4 hr => ?_)
    refine j_iconst (pc := 54) d_Md_rows_54 ?_
    refine j_istore (pc := 55) (ls' := [(2, v0), (0, v1), (0, v2), (1, 0), (9, 0), (1, 0), (9, 0), (0, 0)]) d_Md_rows_55 rfl ?_
    refine mJ_weak (ls' := [(2, v0), (0, v1), (0, v2), (1, 0), (9, 0), (1, 0), (9, 0), (0, 0)]) (mwk_s (mwk_s (mwk_s (mwk_s (mwk_s (mwk_s (mwk_s (mwk_s mwk_n)))))))) (t_Md_rows_L57 (fun h6  hr => ?_) _ _ _ hr)
    · refine j_iconst (pc := 76) d_Md_rows_76 ?_
      refine j_istore (pc := 77) (ls' := [(2, v0), (0, v1), (0, v2), (1, 0), (9, 0), (1, 0), (9, 0), (0, 0)]) d_Md_rows_77 rfl ?_
      refine mJ_weak (ls' := [(2, v0), (0, v1), (0, v2), (1, 0), (9, 0), (1, 0), (9, 0), (0, 0)]) (mwk_s (mwk_s (mwk_s (mwk_s (mwk_s (mwk_s (mwk_s (mwk_s mwk_n)))))))) (t_Md_rows_L79 (fun h7 x8 hr => ?_) _ _ _ _ hr)
      · refine j_aload_n (pc := 104) d_Md_rows_104 rfl ?_
        obtain ⟨ha, hr⟩ := chk_some hr
        refine j_callG (pc := 105) (stk := [(2, v0)]) (as := [(2, v0)]) (P := (fun v9 => [])) (tg := 3) (My := M_Md_waysBegin) (mRunV (as := []) (st := []) d_Md_rows_105 (mc_Md_waysBegin (by decide)) rfl (mv_Md_waysBegin tb_ml_Md_379) rfl (Nat.le_of_ble_eq_true rfl) ha) (fun v => rfl) rfl hr (fun r1 h1 => t_Md_waysBegin _ _ _ h1) (fun x10 h9 hr => ?_)
        refine j_aload_n (pc := 108) d_Md_rows_108 rfl ?_
        refine j_getf (pc := 109) d_Md_rows_109 (fd_Md_45 rfl) hr (fun hr => ?_)
        refine j_aload_n (pc := 112) d_Md_rows_112 rfl ?_
        obtain ⟨ha, hr⟩ := chk_some hr
        refine j_callG (pc := 113) (stk := [(2, v0), (2, hpV h9 v0 25)]) (as := [(2, v0)]) (P := (fun v9 => ((0 : Nat), v9) :: [(2, hpV h9 v0 25)])) (tg := 0) (My := M_Md_openStand) (mRunV (as := []) (st := [(2, hpV h9 v0 25)]) d_Md_rows_113 (mc_Md_openStand (by decide)) rfl (mv_Md_openStand tb_ml_Md_341) rfl (Nat.le_of_ble_eq_true rfl) ha) (fun v => rfl) rfl hr (fun r1 h1 => t_Md_openStand _ _ _ h1) (fun x12 h11 hr => ?_)
        refine j_lconst (pc := 116) (z := 0) d_Md_rows_116 ?_
        refine j_lastore (pc := 117) d_Md_rows_117 hr (fun h13 hr => ?_)
        refine j_iconst (pc := 118) d_Md_rows_118 ?_
        refine j_istore (pc := 119) (ls' := [(2, v0), (0, v1), (0, v2), (1, x8), (9, 0), (1, 0), (9, 0), (0, 0)]) d_Md_rows_119 rfl ?_
        refine mJ_weak (ls' := [(2, v0), (0, v1), (0, v2), (1, x8), (9, 0), (1, 0), (9, 0), (0, 0)]) (mwk_s (mwk_s (mwk_s (mwk_s (mwk_s (mwk_s (mwk_s (mwk_s mwk_n)))))))) (t_Md_rows_L121 (fun h14  hr => ?_) _ _ _ hr)
        · refine j_iconst (pc := 150) d_Md_rows_150 ?_
          refine j_istore (pc := 151) (ls' := [(2, v0), (9, 0), (0, v2), (1, x8), (9, 0), (1, 0), (9, 0), (0, 0)]) d_Md_rows_151 rfl ?_
          refine mJ_weak (ls' := [(2, v0), (9, 0), (0, v2), (1, x8), (9, 0), (1, 0), (9, 0), (0, 0)]) (mwk_s (mwk_s (mwk_s (mwk_s (mwk_s (mwk_s (mwk_s (mwk_s mwk_n)))))))) (t_Md_rows_L153 (fun h15 x16 hr => ?_) _ _ _ _ hr)
          · refine j_iload_n (pc := 180) d_Md_rows_180 rfl ?_
            refine j_if_eq (pc := 181) (tgt := 191) d_Md_rows_181 hr (fun hr => ?_) (fun hr => ?_)
            · refine j_lload_n (pc := 191) d_Md_rows_191 rfl ?_
              exact j_lret (pc := 192) d_Md_rows_192 rfl hr
            · refine j_lload_n (pc := 184) d_Md_rows_184 rfl ?_
              refine j_lload (pc := 185) d_Md_rows_185 rfl ?_
              refine j_lsub (pc := 187) d_Md_rows_187 ?_
              refine j_goto (pc := 188) (tgt := 192) d_Md_rows_188 ?_
              exact j_lret (pc := 192) d_Md_rows_192 rfl hr
  · refine j_lconst (pc := 39) (z := 0) d_Md_rows_39 ?_
    exact j_lret (pc := 40) d_Md_rows_40 rfl hr
theorem t_Md_rows {G : mG} (h : mH) (v0 v1 v2 : Int) (r : mR) (hr : f_Md_rows h v0 v1 v2 = some r) : mJM G M_Md_rows [(2, v0), (0, v1), (0, v2)] h r := by
  refine mJM_of (L := [(2, v0), (0, v1), (0, v2), (9, 0), (9, 0), (9, 0), (9, 0), (9, 0)]) rfl rfl rfl (Nat.le_of_ble_eq_true rfl) ?_
  unfold f_Md_rows at hr
  refine j_aload_n (pc := 0) d_Md_rows_0 rfl ?_
  refine j_iload_n (pc := 1) d_Md_rows_1 rfl ?_
  refine j_i2l (pc := 2) d_Md_rows_2 ?_
  refine j_lconst (pc := 3) (z := 0) d_Md_rows_3 ?_
  refine j_ldc2 (pc := 4) (z := 20) d_Md_rows_4 tb_cj_Md_413 rfl ?_
  refine j_callG (pc := 7) (stk := [(1, 20), (1, 0), (1, v1), (2, v0)]) (as := [(1, v1), (1, 0), (1, 20)]) (P := (fun v9 => ((0 : Nat), v9) :: [(2, v0)])) (tg := 0) (My := M_Md_amid) (mRunS (as := [(1, v1), (1, 0), (1, 20)]) (st := [(2, v0)]) d_Md_rows_7 (mc_Md_amid (by decide)) rfl ⟨tb_ml_Md_147, tb_sm_Md_amid⟩ rfl (Nat.le_of_ble_eq_true rfl)) (fun v => rfl) rfl hr (fun r1 h1 => t_Md_amid _ _ _ _ _ h1) (fun x2 h1 hr => ?_)
  refine j_if_ne (pc := 10) (tgt := 17) d_Md_rows_10 hr (fun hr => ?_) (fun hr => ?_)
  · refine j_aload_n (pc := 17) d_Md_rows_17 rfl ?_
    obtain ⟨ha, hr⟩ := chk_some hr
    refine j_callG (pc := 18) (stk := [(2, v0), (2, v0)]) (as := [(2, v0)]) (P := (fun v9 => ((0 : Nat), v9) :: [(2, v0)])) (tg := 0) (My := M_Md_isSpent) (mRunV (as := []) (st := [(2, v0)]) d_Md_rows_18 (mc_Md_isSpent (by decide)) rfl (mv_Md_isSpent tb_ml_Md_261) rfl (Nat.le_of_ble_eq_true rfl) ha) (fun v => rfl) rfl hr (fun r1 h1 => t_Md_isSpent _ _ _ h1) (fun x4 h3 hr => ?_)
    refine j_if_eq (pc := 21) (tgt := 28) d_Md_rows_21 hr (fun hr => ?_) (fun hr => ?_)
    · refine j_iconst (pc := 28) d_Md_rows_28 ?_
      exact mJ_weak (ls' := [(2, v0), (0, v1), (0, v2), (9, 0), (9, 0), (9, 0), (9, 0), (9, 0)]) (mwk_s (mwk_s (mwk_s (mwk_s (mwk_s (mwk_s (mwk_s (mwk_s mwk_n)))))))) (t_Md_rows_J29  hr)
    · refine j_iconst (pc := 24) d_Md_rows_24 ?_
      refine j_goto (pc := 25) (tgt := 29) d_Md_rows_25 ?_
      exact mJ_weak (ls' := [(2, v0), (0, v1), (0, v2), (9, 0), (9, 0), (9, 0), (9, 0), (9, 0)]) (mwk_s (mwk_s (mwk_s (mwk_s (mwk_s (mwk_s (mwk_s (mwk_s mwk_n)))))))) (t_Md_rows_J29  hr)
  · refine j_iconst (pc := 13) d_Md_rows_13 ?_
    refine j_goto (pc := 14) (tgt := 29) d_Md_rows_14 ?_
    exact mJ_weak (ls' := [(2, v0), (0, v1), (0, v2), (9, 0), (9, 0), (9, 0), (9, 0), (9, 0)]) (mwk_s (mwk_s (mwk_s (mwk_s (mwk_s (mwk_s (mwk_s (mwk_s mwk_n)))))))) (t_Md_rows_J29  hr)
