def M_Notches_seek : mM := ("NineBars$Notches", ⟨"NineBars$Notches", "seek", "(LNineBars$Box;LNineBars$Graph;LNineBars$Paths;I)V"⟩, prog_8_method_2_code, 8, none, [], 11)
theorem tb_co_Notches_seek : mTB (Cond.code ⟨"NineBars$Notches", "seek", "(LNineBars$Box;LNineBars$Graph;LNineBars$Paths;I)V"⟩ prog_8_method_2_code 8 (none)) := tbq5 196 (by decide +kernel) rfl
theorem mc_Notches_seek {M : mM} (hd : 11 < mDp M) : mCal M M_Notches_seek 4 := ⟨tb_co_Notches_seek, tb_in_NineBars_Notches, ⟨by decide +kernel, by decide +kernel⟩, by decide +kernel, hd, by decide⟩
theorem d_Notches_seek_0 : decode prog_8_method_2_code 0 = .ok (.aload_n 1, 1) := by decide +kernel
theorem d_Notches_seek_1 : decode prog_8_method_2_code 1 = .ok (.aload_n 1, 1) := by decide +kernel
theorem tb_fl_Notches_31 : mTN (Cond.fieldLinkNest "NineBars$Notches" 31 "NineBars$Box" "at" "[I" "NineBars") := tbqn1 107 (by decide +kernel) rfl
theorem fd_Notches_31 {M : mM} (h : mO M = "NineBars$Notches") : mFld M 31 0 9 2 := ⟨_, _, _, tyX0, rfl, by decide, by decide, rfl, uw_0, tyX0_ok, nmX0, by rw [h]; exact Or.inr ⟨_, tb_fl_Notches_31⟩⟩
theorem d_Notches_seek_2 : decode prog_8_method_2_code 2 = .ok (.getfield 31, 3) := by decide +kernel
theorem d_Notches_seek_5 : decode prog_8_method_2_code 5 = .ok (.invokevirtual 36, 3) := by decide +kernel
theorem tb_ml_Notches_36 : mTB (Cond.methodLink "NineBars$Notches" 36 ⟨"NineBars$Box", "standOf", "([I)I"⟩) := tbq5 197 (by decide +kernel) rfl
theorem d_Notches_seek_8 : decode prog_8_method_2_code 8 = .ok (.istore 5, 2) := by decide +kernel
theorem d_Notches_seek_10 : decode prog_8_method_2_code 10 = .ok (.aload_n 0, 1) := by decide +kernel
theorem d_Notches_seek_11 : decode prog_8_method_2_code 11 = .ok (.getfield 18, 3) := by decide +kernel
theorem d_Notches_seek_14 : decode prog_8_method_2_code 14 = .ok (.aload_n 2, 1) := by decide +kernel
theorem tb_fl_Notches_40 : mTN (Cond.fieldLinkNest "NineBars$Notches" 40 "NineBars$Graph" "edition" "I" "NineBars") := tbqn1 193 (by decide +kernel) rfl
theorem fd_Notches_40 {M : mM} (h : mO M = "NineBars$Notches") : mFld M 40 4 0 0 := ⟨_, _, _, tyX4, rfl, by decide, by decide, rfl, uw_4, tyX4_ok, nmX4, by rw [h]; exact Or.inr ⟨_, tb_fl_Notches_40⟩⟩
theorem d_Notches_seek_15 : decode prog_8_method_2_code 15 = .ok (.getfield 40, 3) := by decide +kernel
theorem d_Notches_seek_18 : decode prog_8_method_2_code 18 = .ok (.if_icmp .ne 33, 3) := by decide +kernel
theorem d_Notches_seek_51 : decode prog_8_method_2_code 51 = .ok (.aload_n 0, 1) := by decide +kernel
theorem d_Notches_seek_52 : decode prog_8_method_2_code 52 = .ok (.aload_n 2, 1) := by decide +kernel
theorem d_Notches_seek_53 : decode prog_8_method_2_code 53 = .ok (.getfield 40, 3) := by decide +kernel
theorem d_Notches_seek_56 : decode prog_8_method_2_code 56 = .ok (.putfield 18, 3) := by decide +kernel
theorem d_Notches_seek_59 : decode prog_8_method_2_code 59 = .ok (.aload_n 0, 1) := by decide +kernel
theorem d_Notches_seek_60 : decode prog_8_method_2_code 60 = .ok (.aload_n 2, 1) := by decide +kernel
theorem tb_fl_Notches_43 : mTN (Cond.fieldLinkNest "NineBars$Notches" 43 "NineBars$Graph" "wornBits" "I" "NineBars") := tbqn1 196 (by decide +kernel) rfl
theorem fd_Notches_43 {M : mM} (h : mO M = "NineBars$Notches") : mFld M 43 4 1 0 := ⟨_, _, _, tyX4, rfl, by decide, by decide, rfl, uw_4, tyX4_ok, nmX4, by rw [h]; exact Or.inr ⟨_, tb_fl_Notches_43⟩⟩
theorem d_Notches_seek_61 : decode prog_8_method_2_code 61 = .ok (.getfield 43, 3) := by decide +kernel
theorem d_Notches_seek_64 : decode prog_8_method_2_code 64 = .ok (.putfield 22, 3) := by decide +kernel
theorem d_Notches_seek_67 : decode prog_8_method_2_code 67 = .ok (.aload_n 0, 1) := by decide +kernel
theorem d_Notches_seek_68 : decode prog_8_method_2_code 68 = .ok (.iload 5, 2) := by decide +kernel
theorem d_Notches_seek_70 : decode prog_8_method_2_code 70 = .ok (.putfield 25, 3) := by decide +kernel
theorem d_Notches_seek_73 : decode prog_8_method_2_code 73 = .ok (.aload_n 0, 1) := by decide +kernel
theorem d_Notches_seek_74 : decode prog_8_method_2_code 74 = .ok (.iload 4, 2) := by decide +kernel
theorem d_Notches_seek_76 : decode prog_8_method_2_code 76 = .ok (.putfield 28, 3) := by decide +kernel
theorem d_Notches_seek_79 : decode prog_8_method_2_code 79 = .ok (.iconst 0, 1) := by decide +kernel
theorem d_Notches_seek_80 : decode prog_8_method_2_code 80 = .ok (.istore 6, 2) := by decide +kernel
theorem d_Notches_seek_82 : decode prog_8_method_2_code 82 = .ok (.iload 6, 2) := by decide +kernel
theorem d_Notches_seek_84 : decode prog_8_method_2_code 84 = .ok (.aload_n 0, 1) := by decide +kernel
theorem d_Notches_seek_85 : decode prog_8_method_2_code 85 = .ok (.getfield 9, 3) := by decide +kernel
theorem d_Notches_seek_88 : decode prog_8_method_2_code 88 = .ok (.arraylength, 1) := by decide +kernel
theorem d_Notches_seek_89 : decode prog_8_method_2_code 89 = .ok (.if_icmp .ge 17, 3) := by decide +kernel
theorem d_Notches_seek_92 : decode prog_8_method_2_code 92 = .ok (.aload_n 0, 1) := by decide +kernel
theorem d_Notches_seek_93 : decode prog_8_method_2_code 93 = .ok (.getfield 9, 3) := by decide +kernel
theorem d_Notches_seek_96 : decode prog_8_method_2_code 96 = .ok (.iload 6, 2) := by decide +kernel
theorem d_Notches_seek_98 : decode prog_8_method_2_code 98 = .ok (.iconst (-1), 1) := by decide +kernel
theorem d_Notches_seek_99 : decode prog_8_method_2_code 99 = .ok (.iastore, 1) := by decide +kernel
theorem d_Notches_seek_100 : decode prog_8_method_2_code 100 = .ok (.iinc 6 1, 3) := by decide +kernel
theorem d_Notches_seek_103 : decode prog_8_method_2_code 103 = .ok (.goto (-21), 3) := by decide +kernel
theorem d_Notches_seek_106 : decode prog_8_method_2_code 106 = .ok (.iconst 0, 1) := by decide +kernel
theorem d_Notches_seek_107 : decode prog_8_method_2_code 107 = .ok (.istore 6, 2) := by decide +kernel
theorem d_Notches_seek_109 : decode prog_8_method_2_code 109 = .ok (.iload 6, 2) := by decide +kernel
theorem d_Notches_seek_111 : decode prog_8_method_2_code 111 = .ok (.aload_n 1, 1) := by decide +kernel
theorem d_Notches_seek_112 : decode prog_8_method_2_code 112 = .ok (.getfield 44, 3) := by decide +kernel
theorem d_Notches_seek_115 : decode prog_8_method_2_code 115 = .ok (.if_icmp .ge 60, 3) := by decide +kernel
theorem d_Notches_seek_175 : decode prog_8_method_2_code 175 = .ok (.return_, 1) := by decide +kernel
theorem d_Notches_seek_118 : decode prog_8_method_2_code 118 = .ok (.iconst 0, 1) := by decide +kernel
theorem d_Notches_seek_119 : decode prog_8_method_2_code 119 = .ok (.istore 7, 2) := by decide +kernel
theorem d_Notches_seek_121 : decode prog_8_method_2_code 121 = .ok (.iload 7, 2) := by decide +kernel
theorem d_Notches_seek_123 : decode prog_8_method_2_code 123 = .ok (.aload_n 1, 1) := by decide +kernel
theorem d_Notches_seek_124 : decode prog_8_method_2_code 124 = .ok (.getfield 47, 3) := by decide +kernel
theorem d_Notches_seek_127 : decode prog_8_method_2_code 127 = .ok (.iload 6, 2) := by decide +kernel
theorem d_Notches_seek_129 : decode prog_8_method_2_code 129 = .ok (.iaload, 1) := by decide +kernel
theorem d_Notches_seek_130 : decode prog_8_method_2_code 130 = .ok (.if_icmp .ge 39, 3) := by decide +kernel
theorem d_Notches_seek_133 : decode prog_8_method_2_code 133 = .ok (.aload_n 0, 1) := by decide +kernel
theorem d_Notches_seek_134 : decode prog_8_method_2_code 134 = .ok (.aload_n 1, 1) := by decide +kernel
theorem d_Notches_seek_135 : decode prog_8_method_2_code 135 = .ok (.aload_n 2, 1) := by decide +kernel
theorem d_Notches_seek_136 : decode prog_8_method_2_code 136 = .ok (.aload_n 3, 1) := by decide +kernel
theorem d_Notches_seek_137 : decode prog_8_method_2_code 137 = .ok (.iload 6, 2) := by decide +kernel
theorem d_Notches_seek_139 : decode prog_8_method_2_code 139 = .ok (.iload 7, 2) := by decide +kernel
theorem d_Notches_seek_141 : decode prog_8_method_2_code 141 = .ok (.iload 7, 2) := by decide +kernel
theorem d_Notches_seek_143 : decode prog_8_method_2_code 143 = .ok (.iconst 1, 1) := by decide +kernel
theorem d_Notches_seek_144 : decode prog_8_method_2_code 144 = .ok (.isub, 1) := by decide +kernel
theorem d_Notches_seek_145 : decode prog_8_method_2_code 145 = .ok (.invokevirtual 50, 3) := by decide +kernel
theorem tb_ml_Notches_50 : mTB (Cond.methodLink "NineBars$Notches" 50 ⟨"NineBars$Notches", "seekStep", "(LNineBars$Box;LNineBars$Graph;LNineBars$Paths;III)V"⟩) := tbq5 198 (by decide +kernel) rfl
theorem tb_im_Notches_seekStep : mTB (Cond.instanceMethod ⟨"NineBars$Notches", "seekStep", "(LNineBars$Box;LNineBars$Graph;LNineBars$Paths;III)V"⟩) := tbq5 200 (by decide +kernel) rfl
theorem tb_se_Notches_seekStep : mTB (Cond.selects "NineBars$Notches" ⟨"NineBars$Notches", "seekStep", "(LNineBars$Box;LNineBars$Graph;LNineBars$Paths;III)V"⟩ ⟨"NineBars$Notches", "seekStep", "(LNineBars$Box;LNineBars$Graph;LNineBars$Paths;III)V"⟩) := tbqp 31 (by decide +kernel) rfl
theorem mv_Notches_seekStep {M : mM} {idx : Nat} (h : mTB (Cond.methodLink (mO M) idx ⟨"NineBars$Notches", "seekStep", "(LNineBars$Box;LNineBars$Graph;LNineBars$Paths;III)V"⟩)) : mCaV M M_Notches_seekStep idx 6 := ⟨h, tb_im_Notches_seekStep, tb_se_Notches_seekStep, by decide, TX6, 6, rfl⟩
theorem d_Notches_seek_148 : decode prog_8_method_2_code 148 = .ok (.aload_n 0, 1) := by decide +kernel
theorem d_Notches_seek_149 : decode prog_8_method_2_code 149 = .ok (.aload_n 1, 1) := by decide +kernel
theorem d_Notches_seek_150 : decode prog_8_method_2_code 150 = .ok (.aload_n 2, 1) := by decide +kernel
theorem d_Notches_seek_151 : decode prog_8_method_2_code 151 = .ok (.aload_n 3, 1) := by decide +kernel
theorem d_Notches_seek_152 : decode prog_8_method_2_code 152 = .ok (.iload 6, 2) := by decide +kernel
theorem d_Notches_seek_154 : decode prog_8_method_2_code 154 = .ok (.iload 7, 2) := by decide +kernel
theorem d_Notches_seek_156 : decode prog_8_method_2_code 156 = .ok (.iload 7, 2) := by decide +kernel
theorem d_Notches_seek_158 : decode prog_8_method_2_code 158 = .ok (.iconst 1, 1) := by decide +kernel
theorem d_Notches_seek_159 : decode prog_8_method_2_code 159 = .ok (.iadd, 1) := by decide +kernel
theorem d_Notches_seek_160 : decode prog_8_method_2_code 160 = .ok (.invokevirtual 50, 3) := by decide +kernel
theorem d_Notches_seek_163 : decode prog_8_method_2_code 163 = .ok (.iinc 7 1, 3) := by decide +kernel
theorem d_Notches_seek_166 : decode prog_8_method_2_code 166 = .ok (.goto (-45), 3) := by decide +kernel
theorem d_Notches_seek_169 : decode prog_8_method_2_code 169 = .ok (.iinc 6 1, 3) := by decide +kernel
theorem d_Notches_seek_172 : decode prog_8_method_2_code 172 = .ok (.goto (-63), 3) := by decide +kernel
theorem d_Notches_seek_21 : decode prog_8_method_2_code 21 = .ok (.aload_n 0, 1) := by decide +kernel
theorem d_Notches_seek_22 : decode prog_8_method_2_code 22 = .ok (.getfield 22, 3) := by decide +kernel
theorem d_Notches_seek_25 : decode prog_8_method_2_code 25 = .ok (.aload_n 2, 1) := by decide +kernel
theorem d_Notches_seek_26 : decode prog_8_method_2_code 26 = .ok (.getfield 43, 3) := by decide +kernel
theorem d_Notches_seek_29 : decode prog_8_method_2_code 29 = .ok (.if_icmp .ne 22, 3) := by decide +kernel
theorem d_Notches_seek_32 : decode prog_8_method_2_code 32 = .ok (.aload_n 0, 1) := by decide +kernel
theorem d_Notches_seek_33 : decode prog_8_method_2_code 33 = .ok (.getfield 25, 3) := by decide +kernel
theorem d_Notches_seek_36 : decode prog_8_method_2_code 36 = .ok (.iload 5, 2) := by decide +kernel
theorem d_Notches_seek_38 : decode prog_8_method_2_code 38 = .ok (.if_icmp .ne 13, 3) := by decide +kernel
theorem d_Notches_seek_41 : decode prog_8_method_2_code 41 = .ok (.aload_n 0, 1) := by decide +kernel
theorem d_Notches_seek_42 : decode prog_8_method_2_code 42 = .ok (.getfield 28, 3) := by decide +kernel
theorem d_Notches_seek_45 : decode prog_8_method_2_code 45 = .ok (.iload 4, 2) := by decide +kernel
theorem d_Notches_seek_47 : decode prog_8_method_2_code 47 = .ok (.if_icmp .ne 4, 3) := by decide +kernel
theorem d_Notches_seek_50 : decode prog_8_method_2_code 50 = .ok (.return_, 1) := by decide +kernel
theorem t_Notches_seek_L82 {G : mG} {r : mR} {v0 v1 v2 v3 : Int} {K106 : mH → Option mR} (hK106 : ∀ (h : mH) , K106 h  = some r → mJ G M_Notches_seek 106 [(2, v0), (2, v1), (2, v2), (2, v3), (9, 0), (9, 0), (9, 0), (9, 0)] [] h r) : ∀ (n : Nat) (h : mH) (v6 : Int), f_Notches_seek_L82 K106 v0 n h v6 = some r → mJ G M_Notches_seek 82 [(2, v0), (2, v1), (2, v2), (2, v3), (9, 0), (9, 0), (0, v6), (9, 0)] [] h r := by
  intro n
  induction n with
  | zero =>
    intro h v6 hr
    rw [f_Notches_seek_L82] at hr
    cases hr
  | succ n hR82 =>
    intro h v6 hr
    rw [f_Notches_seek_L82] at hr
    refine j_iload (pc := 82) d_Notches_seek_82 rfl ?_
    refine j_aload_n (pc := 84) d_Notches_seek_84 rfl ?_
    refine j_getf (pc := 85) d_Notches_seek_85 (fd_Notches_9 rfl) hr (fun hr => ?_)
    refine j_alen (pc := 88) d_Notches_seek_88 hr (fun hr => ?_)
    refine j_icmp_ge (pc := 89) (tgt := 106) d_Notches_seek_89 hr (fun hr => ?_) (fun hr => ?_)
    · exact mJ_weak (ls' := [(2, v0), (2, v1), (2, v2), (2, v3), (9, 0), (9, 0), (9, 0), (9, 0)]) (mwk_s (mwk_s (mwk_s (mwk_s (mwk_s (mwk_s (mwk_d (mwk_s mwk_n)))))))) (hK106 h  hr)
    · refine j_aload_n (pc := 92) d_Notches_seek_92 rfl ?_
      refine j_getf (pc := 93) d_Notches_seek_93 (fd_Notches_9 rfl) hr (fun hr => ?_)
      refine j_iload (pc := 96) d_Notches_seek_96 rfl ?_
      refine j_iconst (pc := 98) d_Notches_seek_98 ?_
      refine j_iastore (pc := 99) d_Notches_seek_99 hr (fun h1 hr => ?_)
      refine j_iincW (pc := 100) (L := fun x2 => [(2, v0), (2, v1), (2, v2), (2, v3), (9, 0), (9, 0), (0, x2), (9, 0)]) d_Notches_seek_100 rfl (fun _ => rfl) hr (fun x2 hr => ?_)
      refine j_goto (pc := 103) (tgt := 82) d_Notches_seek_103 ?_
      exact mJ_weak (ls' := [(2, v0), (2, v1), (2, v2), (2, v3), (9, 0), (9, 0), (0, x2), (9, 0)]) (mwk_s (mwk_s (mwk_s (mwk_s (mwk_s (mwk_s (mwk_s (mwk_s mwk_n)))))))) (hR82 h1 _ hr)
theorem t_Notches_seek_L121 {G : mG} {r : mR} {v0 v1 v2 v3 v6 : Int} {K169 : mH → Option mR} (hK169 : ∀ (h : mH) , K169 h  = some r → mJ G M_Notches_seek 169 [(2, v0), (2, v1), (2, v2), (2, v3), (9, 0), (9, 0), (0, v6), (9, 0)] [] h r) : ∀ (n : Nat) (h : mH) (v7 : Int), f_Notches_seek_L121 K169 v0 v1 v2 v3 v6 n h v7 = some r → mJ G M_Notches_seek 121 [(2, v0), (2, v1), (2, v2), (2, v3), (9, 0), (9, 0), (0, v6), (0, v7)] [] h r := by
  intro n
  induction n with
  | zero =>
    intro h v7 hr
    rw [f_Notches_seek_L121] at hr
    cases hr
  | succ n hR121 =>
    intro h v7 hr
    rw [f_Notches_seek_L121] at hr
    refine j_iload (pc := 121) d_Notches_seek_121 rfl ?_
    refine j_aload_n (pc := 123) d_Notches_seek_123 rfl ?_
    refine j_getf (pc := 124) d_Notches_seek_124 (fd_Notches_47 rfl) hr (fun hr => ?_)
    refine j_iload (pc := 127) d_Notches_seek_127 rfl ?_
    refine j_iaload (pc := 129) d_Notches_seek_129 hr (fun hr => ?_)
    refine j_icmp_ge (pc := 130) (tgt := 169) d_Notches_seek_130 hr (fun hr => ?_) (fun hr => ?_)
    · exact mJ_weak (ls' := [(2, v0), (2, v1), (2, v2), (2, v3), (9, 0), (9, 0), (0, v6), (9, 0)]) (mwk_s (mwk_s (mwk_s (mwk_s (mwk_s (mwk_s (mwk_s (mwk_d mwk_n)))))))) (hK169 h  hr)
    · refine j_aload_n (pc := 133) d_Notches_seek_133 rfl ?_
      refine j_aload_n (pc := 134) d_Notches_seek_134 rfl ?_
      refine j_aload_n (pc := 135) d_Notches_seek_135 rfl ?_
      refine j_aload_n (pc := 136) d_Notches_seek_136 rfl ?_
      refine j_iload (pc := 137) d_Notches_seek_137 rfl ?_
      refine j_iload (pc := 139) d_Notches_seek_139 rfl ?_
      refine j_iload (pc := 141) d_Notches_seek_141 rfl ?_
      refine j_iconst (pc := 143) d_Notches_seek_143 ?_
      refine j_isub (pc := 144) d_Notches_seek_144 ?_
      obtain ⟨ha, hr⟩ := chk_some hr
      refine j_callG (pc := 145) (stk := [(0, w32 (v7 - 1)), (0, v7), (0, v6), (2, v3), (2, v2), (2, v1), (2, v0)]) (as := [(2, v0), (2, v1), (2, v2), (2, v3), (0, v6), (0, v7), (0, w32 (v7 - 1))]) (P := (fun v9 => [])) (tg := 3) (My := M_Notches_seekStep) (mRunV (as := [(2, v1), (2, v2), (2, v3), (0, v6), (0, v7), (0, w32 (v7 - 1))]) (st := []) d_Notches_seek_145 (mc_Notches_seekStep (by decide)) rfl (mv_Notches_seekStep tb_ml_Notches_50) rfl (Nat.le_of_ble_eq_true rfl) ha) (fun v => rfl) rfl hr (fun r1 h1 => t_Notches_seekStep _ _ _ _ _ _ _ _ _ h1) (fun x2 h1 hr => ?_)
      refine j_aload_n (pc := 148) d_Notches_seek_148 rfl ?_
      refine j_aload_n (pc := 149) d_Notches_seek_149 rfl ?_
      refine j_aload_n (pc := 150) d_Notches_seek_150 rfl ?_
      refine j_aload_n (pc := 151) d_Notches_seek_151 rfl ?_
      refine j_iload (pc := 152) d_Notches_seek_152 rfl ?_
      refine j_iload (pc := 154) d_Notches_seek_154 rfl ?_
      refine j_iload (pc := 156) d_Notches_seek_156 rfl ?_
      refine j_iconst (pc := 158) d_Notches_seek_158 ?_
      refine j_iadd (pc := 159) d_Notches_seek_159 ?_
      obtain ⟨ha, hr⟩ := chk_some hr
      refine j_callG (pc := 160) (stk := [(0, w32 (v7 + 1)), (0, v7), (0, v6), (2, v3), (2, v2), (2, v1), (2, v0)]) (as := [(2, v0), (2, v1), (2, v2), (2, v3), (0, v6), (0, v7), (0, w32 (v7 + 1))]) (P := (fun v9 => [])) (tg := 3) (My := M_Notches_seekStep) (mRunV (as := [(2, v1), (2, v2), (2, v3), (0, v6), (0, v7), (0, w32 (v7 + 1))]) (st := []) d_Notches_seek_160 (mc_Notches_seekStep (by decide)) rfl (mv_Notches_seekStep tb_ml_Notches_50) rfl (Nat.le_of_ble_eq_true rfl) ha) (fun v => rfl) rfl hr (fun r1 h1 => t_Notches_seekStep _ _ _ _ _ _ _ _ _ h1) (fun x4 h3 hr => ?_)
      refine j_iincW (pc := 163) (L := fun x5 => [(2, v0), (2, v1), (2, v2), (2, v3), (9, 0), (9, 0), (0, v6), (0, x5)]) d_Notches_seek_163 rfl (fun _ => rfl) hr (fun x5 hr => ?_)
      refine j_goto (pc := 166) (tgt := 121) d_Notches_seek_166 ?_
      exact mJ_weak (ls' := [(2, v0), (2, v1), (2, v2), (2, v3), (9, 0), (9, 0), (0, v6), (0, x5)]) (mwk_s (mwk_s (mwk_s (mwk_s (mwk_s (mwk_s (mwk_s (mwk_s mwk_n)))))))) (hR121 h3 _ hr)
theorem t_Notches_seek_L109 {G : mG} {r : mR} {v0 v1 v2 v3 : Int}  : ∀ (n : Nat) (h : mH) (v6 : Int), f_Notches_seek_L109 v0 v1 v2 v3 n h v6 = some r → mJ G M_Notches_seek 109 [(2, v0), (2, v1), (2, v2), (2, v3), (9, 0), (9, 0), (0, v6), (9, 0)] [] h r := by
  intro n
  induction n with
  | zero =>
    intro h v6 hr
    rw [f_Notches_seek_L109] at hr
    cases hr
  | succ n hR109 =>
    intro h v6 hr
    rw [f_Notches_seek_L109] at hr
    refine j_iload (pc := 109) d_Notches_seek_109 rfl ?_
    refine j_aload_n (pc := 111) d_Notches_seek_111 rfl ?_
    refine j_getf (pc := 112) d_Notches_seek_112 (fd_Notches_44 rfl) hr (fun hr => ?_)
    refine j_icmp_ge (pc := 115) (tgt := 175) d_Notches_seek_115 hr (fun hr => ?_) (fun hr => ?_)
    · exact j_vret (pc := 175) d_Notches_seek_175 rfl hr
    · refine j_iconst (pc := 118) d_Notches_seek_118 ?_
      refine j_istore (pc := 119) (ls' := [(2, v0), (2, v1), (2, v2), (2, v3), (9, 0), (9, 0), (0, v6), (0, 0)]) d_Notches_seek_119 rfl ?_
      refine mJ_weak (ls' := [(2, v0), (2, v1), (2, v2), (2, v3), (9, 0), (9, 0), (0, v6), (0, 0)]) (mwk_s (mwk_s (mwk_s (mwk_s (mwk_s (mwk_s (mwk_s (mwk_s mwk_n)))))))) (t_Notches_seek_L121 (fun h1  hr => ?_) _ _ _ hr)
      · refine j_iincW (pc := 169) (L := fun x2 => [(2, v0), (2, v1), (2, v2), (2, v3), (9, 0), (9, 0), (0, x2), (9, 0)]) d_Notches_seek_169 rfl (fun _ => rfl) hr (fun x2 hr => ?_)
        refine j_goto (pc := 172) (tgt := 109) d_Notches_seek_172 ?_
        exact mJ_weak (ls' := [(2, v0), (2, v1), (2, v2), (2, v3), (9, 0), (9, 0), (0, x2), (9, 0)]) (mwk_s (mwk_s (mwk_s (mwk_s (mwk_s (mwk_s (mwk_s (mwk_s mwk_n)))))))) (hR109 h1 _ hr)
theorem t_Notches_seek_J51 {G : mG} {r : mR} {v0 v1 v2 v3 v4 v5 : Int} {h : mH}  (hr : f_Notches_seek_J51 v0 v1 v2 v3 v4 v5 h = some r) : mJ G M_Notches_seek 51 [(2, v0), (2, v1), (2, v2), (2, v3), (0, v4), (0, v5), (9, 0), (9, 0)] [] h r := by
  unfold f_Notches_seek_J51 at hr
  refine j_aload_n (pc := 51) d_Notches_seek_51 rfl ?_
  refine j_aload_n (pc := 52) d_Notches_seek_52 rfl ?_
  refine j_getf (pc := 53) d_Notches_seek_53 (fd_Notches_40 rfl) hr (fun hr => ?_)
  refine j_puti (pc := 56) d_Notches_seek_56 (fd_Notches_18 rfl) (⟨_, _, _, rfl, Or.inl rfl, rfl⟩ : mFldW M_Notches_seek 18 6 2 .int) hr (fun h1 hr => ?_)
  refine j_aload_n (pc := 59) d_Notches_seek_59 rfl ?_
  refine j_aload_n (pc := 60) d_Notches_seek_60 rfl ?_
  refine j_getf (pc := 61) d_Notches_seek_61 (fd_Notches_43 rfl) hr (fun hr => ?_)
  refine j_puti (pc := 64) d_Notches_seek_64 (fd_Notches_22 rfl) (⟨_, _, _, rfl, Or.inl rfl, rfl⟩ : mFldW M_Notches_seek 22 6 3 .int) hr (fun h2 hr => ?_)
  refine j_aload_n (pc := 67) d_Notches_seek_67 rfl ?_
  refine j_iload (pc := 68) d_Notches_seek_68 rfl ?_
  refine j_puti (pc := 70) d_Notches_seek_70 (fd_Notches_25 rfl) (⟨_, _, _, rfl, Or.inl rfl, rfl⟩ : mFldW M_Notches_seek 25 6 4 .int) hr (fun h3 hr => ?_)
  refine j_aload_n (pc := 73) d_Notches_seek_73 rfl ?_
  refine j_iload (pc := 74) d_Notches_seek_74 rfl ?_
  refine j_puti (pc := 76) d_Notches_seek_76 (fd_Notches_28 rfl) (⟨_, _, _, rfl, Or.inl rfl, rfl⟩ : mFldW M_Notches_seek 28 6 5 .int) hr (fun h4 hr => ?_)
  refine j_iconst (pc := 79) d_Notches_seek_79 ?_
  refine j_istore (pc := 80) (ls' := [(2, v0), (2, v1), (2, v2), (2, v3), (0, v4), (0, v5), (0, 0), (9, 0)]) d_Notches_seek_80 rfl ?_
  refine mJ_weak (ls' := [(2, v0), (2, v1), (2, v2), (2, v3), (9, 0), (9, 0), (0, 0), (9, 0)]) (mwk_s (mwk_s (mwk_s (mwk_s (mwk_d (mwk_d (mwk_s (mwk_s mwk_n)))))))) (t_Notches_seek_L82 (fun h5  hr => ?_) _ _ _ hr)
  · refine j_iconst (pc := 106) d_Notches_seek_106 ?_
    refine j_istore (pc := 107) (ls' := [(2, v0), (2, v1), (2, v2), (2, v3), (9, 0), (9, 0), (0, 0), (9, 0)]) d_Notches_seek_107 rfl ?_
    refine mJ_weak (ls' := [(2, v0), (2, v1), (2, v2), (2, v3), (9, 0), (9, 0), (0, 0), (9, 0)]) (mwk_s (mwk_s (mwk_s (mwk_s (mwk_s (mwk_s (mwk_s (mwk_s mwk_n)))))))) (t_Notches_seek_L109  _ _ _ hr)
theorem t_Notches_seek {G : mG} (h : mH) (v0 v1 v2 v3 v4 : Int) (r : mR) (hr : f_Notches_seek h v0 v1 v2 v3 v4 = some r) : mJM G M_Notches_seek [(2, v0), (2, v1), (2, v2), (2, v3), (0, v4)] h r := by
  refine mJM_of (L := [(2, v0), (2, v1), (2, v2), (2, v3), (0, v4), (9, 0), (9, 0), (9, 0)]) rfl rfl rfl (Nat.le_of_ble_eq_true rfl) ?_
  unfold f_Notches_seek at hr
  refine j_aload_n (pc := 0) d_Notches_seek_0 rfl ?_
  refine j_aload_n (pc := 1) d_Notches_seek_1 rfl ?_
  refine j_getf (pc := 2) d_Notches_seek_2 (fd_Notches_31 rfl) hr (fun hr => ?_)
  obtain ⟨ha, hr⟩ := chk_some hr
  refine j_callG (pc := 5) (stk := [(2, hpV h v1 9), (2, v1)]) (as := [(2, v1), (2, hpV h v1 9)]) (P := (fun v9 => ((0 : Nat), v9) :: [])) (tg := 0) (My := M_Box_standOf) (mRunV (as := [(2, hpV h v1 9)]) (st := []) d_Notches_seek_5 (mc_Box_standOf (by decide)) rfl (mv_Box_standOf tb_ml_Notches_36) rfl (Nat.le_of_ble_eq_true rfl) ha) (fun v => rfl) rfl hr (fun r1 h1 => t_Box_standOf _ _ _ _ h1) (fun x2 h1 hr => ?_)
  refine j_istore (pc := 8) (ls' := [(2, v0), (2, v1), (2, v2), (2, v3), (0, v4), (0, x2), (9, 0), (9, 0)]) d_Notches_seek_8 rfl ?_
  refine j_aload_n (pc := 10) d_Notches_seek_10 rfl ?_
  refine j_getf (pc := 11) d_Notches_seek_11 (fd_Notches_18 rfl) hr (fun hr => ?_)
  refine j_aload_n (pc := 14) d_Notches_seek_14 rfl ?_
  refine j_getf (pc := 15) d_Notches_seek_15 (fd_Notches_40 rfl) hr (fun hr => ?_)
  refine j_icmp_ne (pc := 18) (tgt := 51) d_Notches_seek_18 hr (fun hr => ?_) (fun hr => ?_)
  · exact mJ_weak (ls' := [(2, v0), (2, v1), (2, v2), (2, v3), (0, v4), (0, x2), (9, 0), (9, 0)]) (mwk_s (mwk_s (mwk_s (mwk_s (mwk_s (mwk_s (mwk_s (mwk_s mwk_n)))))))) (t_Notches_seek_J51  hr)
  · refine j_aload_n (pc := 21) d_Notches_seek_21 rfl ?_
    refine j_getf (pc := 22) d_Notches_seek_22 (fd_Notches_22 rfl) hr (fun hr => ?_)
    refine j_aload_n (pc := 25) d_Notches_seek_25 rfl ?_
    refine j_getf (pc := 26) d_Notches_seek_26 (fd_Notches_43 rfl) hr (fun hr => ?_)
    refine j_icmp_ne (pc := 29) (tgt := 51) d_Notches_seek_29 hr (fun hr => ?_) (fun hr => ?_)
    · exact mJ_weak (ls' := [(2, v0), (2, v1), (2, v2), (2, v3), (0, v4), (0, x2), (9, 0), (9, 0)]) (mwk_s (mwk_s (mwk_s (mwk_s (mwk_s (mwk_s (mwk_s (mwk_s mwk_n)))))))) (t_Notches_seek_J51  hr)
    · refine j_aload_n (pc := 32) d_Notches_seek_32 rfl ?_
      refine j_getf (pc := 33) d_Notches_seek_33 (fd_Notches_25 rfl) hr (fun hr => ?_)
      refine j_iload (pc := 36) d_Notches_seek_36 rfl ?_
      refine j_icmp_ne (pc := 38) (tgt := 51) d_Notches_seek_38 hr (fun hr => ?_) (fun hr => ?_)
      · exact mJ_weak (ls' := [(2, v0), (2, v1), (2, v2), (2, v3), (0, v4), (0, x2), (9, 0), (9, 0)]) (mwk_s (mwk_s (mwk_s (mwk_s (mwk_s (mwk_s (mwk_s (mwk_s mwk_n)))))))) (t_Notches_seek_J51  hr)
      · refine j_aload_n (pc := 41) d_Notches_seek_41 rfl ?_
        refine j_getf (pc := 42) d_Notches_seek_42 (fd_Notches_28 rfl) hr (fun hr => ?_)
        refine j_iload (pc := 45) d_Notches_seek_45 rfl ?_
        refine j_icmp_ne (pc := 47) (tgt := 51) d_Notches_seek_47 hr (fun hr => ?_) (fun hr => ?_)
        · exact mJ_weak (ls' := [(2, v0), (2, v1), (2, v2), (2, v3), (0, v4), (0, x2), (9, 0), (9, 0)]) (mwk_s (mwk_s (mwk_s (mwk_s (mwk_s (mwk_s (mwk_s (mwk_s mwk_n)))))))) (t_Notches_seek_J51  hr)
        · exact j_vret (pc := 50) d_Notches_seek_50 rfl hr
def M_Nb_hardest : mM := ("NineBars", ⟨"NineBars", "hardest", "(II)I"⟩, prog_1_method_32_code, 3, some .int, [], 13)
theorem tb_co_Nb_hardest : mTB (Cond.code ⟨"NineBars", "hardest", "(II)I"⟩ prog_1_method_32_code 3 (some .int)) := tbq5 190 (by decide +kernel) rfl
theorem mc_Nb_hardest {M : mM} (hd : 13 < mDp M) : mCal M M_Nb_hardest 2 := ⟨tb_co_Nb_hardest, tb_in_NineBars, ⟨by decide +kernel, by decide +kernel⟩, by decide +kernel, hd, by decide⟩
theorem d_Nb_hardest_0 : decode prog_1_method_32_code 0 = .ok (.iload_n 1, 1) := by decide +kernel
theorem d_Nb_hardest_1 : decode prog_1_method_32_code 1 = .ok (.iconst 1, 1) := by decide +kernel
theorem d_Nb_hardest_2 : decode prog_1_method_32_code 2 = .ok (.if_icmp .lt 20, 3) := by decide +kernel
theorem d_Nb_hardest_22 : decode prog_1_method_32_code 22 = .ok (.new 109, 3) := by decide +kernel
theorem d_Nb_hardest_25 : decode prog_1_method_32_code 25 = .ok (.dup, 1) := by decide +kernel
theorem d_Nb_hardest_26 : decode prog_1_method_32_code 26 = .ok (.ldc_w 325, 3) := by decide +kernel
theorem d_Nb_hardest_29 : decode prog_1_method_32_code 29 = .ok (.invokespecial 113, 3) := by decide +kernel
theorem d_Nb_hardest_32 : decode prog_1_method_32_code 32 = .ok (.athrow, 1) := by decide +kernel
theorem d_Nb_hardest_5 : decode prog_1_method_32_code 5 = .ok (.iload_n 1, 1) := by decide +kernel
theorem d_Nb_hardest_6 : decode prog_1_method_32_code 6 = .ok (.sipush 999, 3) := by decide +kernel
theorem d_Nb_hardest_9 : decode prog_1_method_32_code 9 = .ok (.if_icmp .gt 13, 3) := by decide +kernel
theorem d_Nb_hardest_12 : decode prog_1_method_32_code 12 = .ok (.iload_n 2, 1) := by decide +kernel
theorem d_Nb_hardest_13 : decode prog_1_method_32_code 13 = .ok (.ifCond .lt 9, 3) := by decide +kernel
theorem d_Nb_hardest_16 : decode prog_1_method_32_code 16 = .ok (.iload_n 2, 1) := by decide +kernel
theorem d_Nb_hardest_17 : decode prog_1_method_32_code 17 = .ok (.bipush 6, 2) := by decide +kernel
theorem d_Nb_hardest_19 : decode prog_1_method_32_code 19 = .ok (.if_icmp .le 14, 3) := by decide +kernel
theorem d_Nb_hardest_33 : decode prog_1_method_32_code 33 = .ok (.aload_n 0, 1) := by decide +kernel
theorem d_Nb_hardest_34 : decode prog_1_method_32_code 34 = .ok (.getfield 27, 3) := by decide +kernel
theorem d_Nb_hardest_37 : decode prog_1_method_32_code 37 = .ok (.invokevirtual 327, 3) := by decide +kernel
theorem d_Nb_hardest_40 : decode prog_1_method_32_code 40 = .ok (.sipush 600, 3) := by decide +kernel
theorem d_Nb_hardest_43 : decode prog_1_method_32_code 43 = .ok (.if_icmp .le 14, 3) := by decide +kernel
theorem d_Nb_hardest_57 : decode prog_1_method_32_code 57 = .ok (.aload_n 0, 1) := by decide +kernel
theorem d_Nb_hardest_58 : decode prog_1_method_32_code 58 = .ok (.getfield 48, 3) := by decide +kernel
theorem d_Nb_hardest_61 : decode prog_1_method_32_code 61 = .ok (.aload_n 0, 1) := by decide +kernel
theorem d_Nb_hardest_62 : decode prog_1_method_32_code 62 = .ok (.getfield 27, 3) := by decide +kernel
theorem d_Nb_hardest_65 : decode prog_1_method_32_code 65 = .ok (.invokevirtual 332, 3) := by decide +kernel
theorem d_Nb_hardest_68 : decode prog_1_method_32_code 68 = .ok (.aload_n 0, 1) := by decide +kernel
theorem d_Nb_hardest_69 : decode prog_1_method_32_code 69 = .ok (.getfield 84, 3) := by decide +kernel
theorem d_Nb_hardest_72 : decode prog_1_method_32_code 72 = .ok (.aload_n 0, 1) := by decide +kernel
theorem d_Nb_hardest_73 : decode prog_1_method_32_code 73 = .ok (.getfield 27, 3) := by decide +kernel
theorem d_Nb_hardest_76 : decode prog_1_method_32_code 76 = .ok (.aload_n 0, 1) := by decide +kernel
theorem d_Nb_hardest_77 : decode prog_1_method_32_code 77 = .ok (.getfield 48, 3) := by decide +kernel
theorem d_Nb_hardest_80 : decode prog_1_method_32_code 80 = .ok (.aload_n 0, 1) := by decide +kernel
theorem d_Nb_hardest_81 : decode prog_1_method_32_code 81 = .ok (.getfield 64, 3) := by decide +kernel
theorem d_Nb_hardest_84 : decode prog_1_method_32_code 84 = .ok (.iload_n 1, 1) := by decide +kernel
theorem d_Nb_hardest_85 : decode prog_1_method_32_code 85 = .ok (.invokevirtual 335, 3) := by decide +kernel
theorem tb_ml_Nb_335 : mTB (Cond.methodLink "NineBars" 335 ⟨"NineBars$Notches", "seek", "(LNineBars$Box;LNineBars$Graph;LNineBars$Paths;I)V"⟩) := tbq5 193 (by decide +kernel) rfl
theorem tb_im_Notches_seek : mTB (Cond.instanceMethod ⟨"NineBars$Notches", "seek", "(LNineBars$Box;LNineBars$Graph;LNineBars$Paths;I)V"⟩) := tbq5 194 (by decide +kernel) rfl
theorem tb_se_Notches_seek : mTB (Cond.selects "NineBars$Notches" ⟨"NineBars$Notches", "seek", "(LNineBars$Box;LNineBars$Graph;LNineBars$Paths;I)V"⟩ ⟨"NineBars$Notches", "seek", "(LNineBars$Box;LNineBars$Graph;LNineBars$Paths;I)V"⟩) := tbq5 195 (by decide +kernel) rfl
theorem mv_Notches_seek {M : mM} {idx : Nat} (h : mTB (Cond.methodLink (mO M) idx ⟨"NineBars$Notches", "seek", "(LNineBars$Box;LNineBars$Graph;LNineBars$Paths;I)V"⟩)) : mCaV M M_Notches_seek idx 6 := ⟨h, tb_im_Notches_seek, tb_se_Notches_seek, by decide, TX6, 6, rfl⟩
theorem d_Nb_hardest_88 : decode prog_1_method_32_code 88 = .ok (.aload_n 0, 1) := by decide +kernel
theorem d_Nb_hardest_89 : decode prog_1_method_32_code 89 = .ok (.getfield 84, 3) := by decide +kernel
theorem tb_fl_Nb_338 : mTN (Cond.fieldLinkNest "NineBars" 338 "NineBars$Notches" "best" "[I" "NineBars") := tbqn2 78 (by decide +kernel) rfl
theorem fd_Nb_338 {M : mM} (h : mO M = "NineBars") : mFld M 338 6 0 2 := ⟨_, _, _, tyX6, rfl, by decide, by decide, rfl, uw_6, tyX6_ok, nmX6, by rw [h]; exact Or.inr ⟨_, tb_fl_Nb_338⟩⟩
theorem d_Nb_hardest_92 : decode prog_1_method_32_code 92 = .ok (.getfield 338, 3) := by decide +kernel
theorem d_Nb_hardest_95 : decode prog_1_method_32_code 95 = .ok (.iload_n 2, 1) := by decide +kernel
theorem d_Nb_hardest_96 : decode prog_1_method_32_code 96 = .ok (.iaload, 1) := by decide +kernel
theorem d_Nb_hardest_97 : decode prog_1_method_32_code 97 = .ok (.ireturn, 1) := by decide +kernel
theorem d_Nb_hardest_46 : decode prog_1_method_32_code 46 = .ok (.new 247, 3) := by decide +kernel
theorem d_Nb_hardest_49 : decode prog_1_method_32_code 49 = .ok (.dup, 1) := by decide +kernel
theorem d_Nb_hardest_50 : decode prog_1_method_32_code 50 = .ok (.ldc_w 330, 3) := by decide +kernel
theorem d_Nb_hardest_53 : decode prog_1_method_32_code 53 = .ok (.invokespecial 251, 3) := by decide +kernel
theorem d_Nb_hardest_56 : decode prog_1_method_32_code 56 = .ok (.athrow, 1) := by decide +kernel
theorem t_Nb_hardest {G : mG} (h : mH) (v0 v1 v2 : Int) (r : mR) (hr : f_Nb_hardest h v0 v1 v2 = some r) : mJM G M_Nb_hardest [(2, v0), (0, v1), (0, v2)] h r := by
  refine mJM_of (L := [(2, v0), (0, v1), (0, v2)]) rfl rfl rfl (Nat.le_of_ble_eq_true rfl) ?_
  unfold f_Nb_hardest at hr
  refine j_iload_n (pc := 0) d_Nb_hardest_0 rfl ?_
  refine j_iconst (pc := 1) d_Nb_hardest_1 ?_
  refine j_icmp_lt (pc := 2) (tgt := 22) d_Nb_hardest_2 hr (fun hr => ?_) (fun hr => ?_)
  · exact j_throwW (pc := 22) (x9 := 7) (text := "m is 1 to 999, what is 0 to 6") (k := 26) d_Nb_hardest_22 d_Nb_hardest_25 d_Nb_hardest_26 d_Nb_hardest_29 d_Nb_hardest_32 rfl (by decide +kernel) tb_cl_Nb_109 tb_in_java_lang_IllegalArgumentException (by decide +kernel) rfl (Nat.le_of_ble_eq_true rfl) hr
  · refine j_iload_n (pc := 5) d_Nb_hardest_5 rfl ?_
    refine j_sipush (pc := 6) d_Nb_hardest_6 ?_
    refine j_icmp_gt (pc := 9) (tgt := 22) d_Nb_hardest_9 hr (fun hr => ?_) (fun hr => ?_)
    · exact j_throwW (pc := 22) (x9 := 7) (text := "m is 1 to 999, what is 0 to 6") (k := 26) d_Nb_hardest_22 d_Nb_hardest_25 d_Nb_hardest_26 d_Nb_hardest_29 d_Nb_hardest_32 rfl (by decide +kernel) tb_cl_Nb_109 tb_in_java_lang_IllegalArgumentException (by decide +kernel) rfl (Nat.le_of_ble_eq_true rfl) hr
    · refine j_iload_n (pc := 12) d_Nb_hardest_12 rfl ?_
      refine j_if_lt (pc := 13) (tgt := 22) d_Nb_hardest_13 hr (fun hr => ?_) (fun hr => ?_)
      · exact j_throwW (pc := 22) (x9 := 7) (text := "m is 1 to 999, what is 0 to 6") (k := 26) d_Nb_hardest_22 d_Nb_hardest_25 d_Nb_hardest_26 d_Nb_hardest_29 d_Nb_hardest_32 rfl (by decide +kernel) tb_cl_Nb_109 tb_in_java_lang_IllegalArgumentException (by decide +kernel) rfl (Nat.le_of_ble_eq_true rfl) hr
      · refine j_iload_n (pc := 16) d_Nb_hardest_16 rfl ?_
        refine j_bipush (pc := 17) d_Nb_hardest_17 ?_
        refine j_icmp_le (pc := 19) (tgt := 33) d_Nb_hardest_19 hr (fun hr => ?_) (fun hr => ?_)
        · refine j_aload_n (pc := 33) d_Nb_hardest_33 rfl ?_
          refine j_getf (pc := 34) d_Nb_hardest_34 (fd_Nb_27 rfl) hr (fun hr => ?_)
          obtain ⟨ha, hr⟩ := chk_some hr
          refine j_callG (pc := 37) (stk := [(2, hpV h v0 6)]) (as := [(2, hpV h v0 6)]) (P := (fun v9 => ((0 : Nat), v9) :: [])) (tg := 0) (My := M_Box_standCount) (mRunV (as := []) (st := []) d_Nb_hardest_37 (mc_Box_standCount (by decide)) rfl (mv_Box_standCount tb_ml_Nb_327) rfl (Nat.le_of_ble_eq_true rfl) ha) (fun v => rfl) rfl hr (fun r1 h1 => t_Box_standCount _ _ _ h1) (fun x2 h1 hr => ?_)
          refine j_sipush (pc := 40) d_Nb_hardest_40 ?_
          refine j_icmp_le (pc := 43) (tgt := 57) d_Nb_hardest_43 hr (fun hr => ?_) (fun hr => ?_)
          · refine j_aload_n (pc := 57) d_Nb_hardest_57 rfl ?_
            refine j_getf (pc := 58) d_Nb_hardest_58 (fd_Nb_48 rfl) hr (fun hr => ?_)
            refine j_aload_n (pc := 61) d_Nb_hardest_61 rfl ?_
            refine j_getf (pc := 62) d_Nb_hardest_62 (fd_Nb_27 rfl) hr (fun hr => ?_)
            obtain ⟨ha, hr⟩ := chk_some hr
            refine j_callG (pc := 65) (stk := [(2, hpV h1 v0 6), (2, hpV h1 v0 10)]) (as := [(2, hpV h1 v0 10), (2, hpV h1 v0 6)]) (P := (fun v9 => [])) (tg := 3) (My := M_Graph_prepare) (mRunV (as := [(2, hpV h1 v0 6)]) (st := []) d_Nb_hardest_65 (mc_Graph_prepare (by decide)) rfl (mv_Graph_prepare tb_ml_Nb_332) rfl (Nat.le_of_ble_eq_true rfl) ha) (fun v => rfl) rfl hr (fun r1 h1 => t_Graph_prepare _ _ _ _ h1) (fun x4 h3 hr => ?_)
            refine j_aload_n (pc := 68) d_Nb_hardest_68 rfl ?_
            refine j_getf (pc := 69) d_Nb_hardest_69 (fd_Nb_84 rfl) hr (fun hr => ?_)
            refine j_aload_n (pc := 72) d_Nb_hardest_72 rfl ?_
            refine j_getf (pc := 73) d_Nb_hardest_73 (fd_Nb_27 rfl) hr (fun hr => ?_)
            refine j_aload_n (pc := 76) d_Nb_hardest_76 rfl ?_
            refine j_getf (pc := 77) d_Nb_hardest_77 (fd_Nb_48 rfl) hr (fun hr => ?_)
            refine j_aload_n (pc := 80) d_Nb_hardest_80 rfl ?_
            refine j_getf (pc := 81) d_Nb_hardest_81 (fd_Nb_64 rfl) hr (fun hr => ?_)
            refine j_iload_n (pc := 84) d_Nb_hardest_84 rfl ?_
            obtain ⟨ha, hr⟩ := chk_some hr
            refine j_callG (pc := 85) (stk := [(0, v1), (2, hpV h3 v0 13), (2, hpV h3 v0 10), (2, hpV h3 v0 6), (2, hpV h3 v0 16)]) (as := [(2, hpV h3 v0 16), (2, hpV h3 v0 6), (2, hpV h3 v0 10), (2, hpV h3 v0 13), (0, v1)]) (P := (fun v9 => [])) (tg := 3) (My := M_Notches_seek) (mRunV (as := [(2, hpV h3 v0 6), (2, hpV h3 v0 10), (2, hpV h3 v0 13), (0, v1)]) (st := []) d_Nb_hardest_85 (mc_Notches_seek (by decide)) rfl (mv_Notches_seek tb_ml_Nb_335) rfl (Nat.le_of_ble_eq_true rfl) ha) (fun v => rfl) rfl hr (fun r1 h1 => t_Notches_seek _ _ _ _ _ _ _ h1) (fun x6 h5 hr => ?_)
            refine j_aload_n (pc := 88) d_Nb_hardest_88 rfl ?_
            refine j_getf (pc := 89) d_Nb_hardest_89 (fd_Nb_84 rfl) hr (fun hr => ?_)
            refine j_getf (pc := 92) d_Nb_hardest_92 (fd_Nb_338 rfl) hr (fun hr => ?_)
            refine j_iload_n (pc := 95) d_Nb_hardest_95 rfl ?_
            refine j_iaload (pc := 96) d_Nb_hardest_96 hr (fun hr => ?_)
            exact j_iret (pc := 97) d_Nb_hardest_97 rfl hr
          · exact j_throwW (pc := 46) (x9 := 7) (text := "more than 600 stands") (k := 27) d_Nb_hardest_46 d_Nb_hardest_49 d_Nb_hardest_50 d_Nb_hardest_53 d_Nb_hardest_56 rfl (by decide +kernel) tb_cl_Nb_247 tb_in_java_lang_IllegalStateException (by decide +kernel) rfl (Nat.le_of_ble_eq_true rfl) hr
        · exact j_throwW (pc := 22) (x9 := 7) (text := "m is 1 to 999, what is 0 to 6") (k := 26) d_Nb_hardest_22 d_Nb_hardest_25 d_Nb_hardest_26 d_Nb_hardest_29 d_Nb_hardest_32 rfl (by decide +kernel) tb_cl_Nb_109 tb_in_java_lang_IllegalArgumentException (by decide +kernel) rfl (Nat.le_of_ble_eq_true rfl) hr
def M_Counter_leadOn : mM := ("NineBars$Counter", ⟨"NineBars$Counter", "leadOn", "(LNineBars$Graph;II)V"⟩, prog_3_method_3_code, 8, none, [], 3)
theorem tb_co_Counter_leadOn : mTB (Cond.code ⟨"NineBars$Counter", "leadOn", "(LNineBars$Graph;II)V"⟩ prog_3_method_3_code 8 (none)) := tbq6 0 (by decide +kernel) rfl
theorem mc_Counter_leadOn {M : mM} (hd : 3 < mDp M) : mCal M M_Counter_leadOn 3 := ⟨tb_co_Counter_leadOn, tb_in_NineBars_Counter, ⟨by decide +kernel, by decide +kernel⟩, by decide +kernel, hd, by decide⟩
theorem d_Counter_leadOn_0 : decode prog_3_method_3_code 0 = .ok (.iconst 0, 1) := by decide +kernel
theorem d_Counter_leadOn_1 : decode prog_3_method_3_code 1 = .ok (.istore 4, 2) := by decide +kernel
theorem d_Counter_leadOn_3 : decode prog_3_method_3_code 3 = .ok (.iload 4, 2) := by decide +kernel
theorem d_Counter_leadOn_5 : decode prog_3_method_3_code 5 = .ok (.aload_n 1, 1) := by decide +kernel
theorem d_Counter_leadOn_6 : decode prog_3_method_3_code 6 = .ok (.getfield 18, 3) := by decide +kernel
theorem d_Counter_leadOn_9 : decode prog_3_method_3_code 9 = .ok (.if_icmp .ge 27, 3) := by decide +kernel
theorem d_Counter_leadOn_12 : decode prog_3_method_3_code 12 = .ok (.iload 4, 2) := by decide +kernel
theorem d_Counter_leadOn_14 : decode prog_3_method_3_code 14 = .ok (.aload_n 0, 1) := by decide +kernel
theorem d_Counter_leadOn_15 : decode prog_3_method_3_code 15 = .ok (.getfield 15, 3) := by decide +kernel
theorem d_Counter_leadOn_18 : decode prog_3_method_3_code 18 = .ok (.arraylength, 1) := by decide +kernel
theorem d_Counter_leadOn_19 : decode prog_3_method_3_code 19 = .ok (.if_icmp .ge 17, 3) := by decide +kernel
theorem d_Counter_leadOn_22 : decode prog_3_method_3_code 22 = .ok (.aload_n 0, 1) := by decide +kernel
theorem d_Counter_leadOn_23 : decode prog_3_method_3_code 23 = .ok (.getfield 15, 3) := by decide +kernel
theorem d_Counter_leadOn_26 : decode prog_3_method_3_code 26 = .ok (.iload 4, 2) := by decide +kernel
theorem d_Counter_leadOn_28 : decode prog_3_method_3_code 28 = .ok (.lconst 0, 1) := by decide +kernel
theorem d_Counter_leadOn_29 : decode prog_3_method_3_code 29 = .ok (.lastore, 1) := by decide +kernel
theorem d_Counter_leadOn_30 : decode prog_3_method_3_code 30 = .ok (.iinc 4 1, 3) := by decide +kernel
theorem d_Counter_leadOn_33 : decode prog_3_method_3_code 33 = .ok (.goto (-30), 3) := by decide +kernel
theorem d_Counter_leadOn_36 : decode prog_3_method_3_code 36 = .ok (.iconst 0, 1) := by decide +kernel
theorem d_Counter_leadOn_37 : decode prog_3_method_3_code 37 = .ok (.istore 4, 2) := by decide +kernel
theorem d_Counter_leadOn_39 : decode prog_3_method_3_code 39 = .ok (.iload 4, 2) := by decide +kernel
theorem d_Counter_leadOn_41 : decode prog_3_method_3_code 41 = .ok (.aload_n 1, 1) := by decide +kernel
theorem d_Counter_leadOn_42 : decode prog_3_method_3_code 42 = .ok (.getfield 18, 3) := by decide +kernel
theorem d_Counter_leadOn_45 : decode prog_3_method_3_code 45 = .ok (.if_icmp .ge 132, 3) := by decide +kernel
theorem d_Counter_leadOn_48 : decode prog_3_method_3_code 48 = .ok (.iload 4, 2) := by decide +kernel
theorem d_Counter_leadOn_50 : decode prog_3_method_3_code 50 = .ok (.aload_n 0, 1) := by decide +kernel
theorem d_Counter_leadOn_51 : decode prog_3_method_3_code 51 = .ok (.getfield 9, 3) := by decide +kernel
theorem d_Counter_leadOn_54 : decode prog_3_method_3_code 54 = .ok (.arraylength, 1) := by decide +kernel
theorem d_Counter_leadOn_55 : decode prog_3_method_3_code 55 = .ok (.if_icmp .ge 122, 3) := by decide +kernel
theorem d_Counter_leadOn_58 : decode prog_3_method_3_code 58 = .ok (.aload_n 0, 1) := by decide +kernel
theorem d_Counter_leadOn_59 : decode prog_3_method_3_code 59 = .ok (.getfield 9, 3) := by decide +kernel
theorem d_Counter_leadOn_62 : decode prog_3_method_3_code 62 = .ok (.iload 4, 2) := by decide +kernel
theorem d_Counter_leadOn_64 : decode prog_3_method_3_code 64 = .ok (.laload, 1) := by decide +kernel
theorem d_Counter_leadOn_65 : decode prog_3_method_3_code 65 = .ok (.lconst 0, 1) := by decide +kernel
theorem d_Counter_leadOn_66 : decode prog_3_method_3_code 66 = .ok (.lcmp, 1) := by decide +kernel
theorem d_Counter_leadOn_67 : decode prog_3_method_3_code 67 = .ok (.ifCond .ne 7, 3) := by decide +kernel
theorem d_Counter_leadOn_74 : decode prog_3_method_3_code 74 = .ok (.aload_n 1, 1) := by decide +kernel
theorem d_Counter_leadOn_75 : decode prog_3_method_3_code 75 = .ok (.iload 4, 2) := by decide +kernel
theorem d_Counter_leadOn_77 : decode prog_3_method_3_code 77 = .ok (.invokevirtual 28, 3) := by decide +kernel
theorem d_Counter_leadOn_80 : decode prog_3_method_3_code 80 = .ok (.iload_n 2, 1) := by decide +kernel
theorem d_Counter_leadOn_81 : decode prog_3_method_3_code 81 = .ok (.iand, 1) := by decide +kernel
theorem d_Counter_leadOn_82 : decode prog_3_method_3_code 82 = .ok (.istore 5, 2) := by decide +kernel
theorem d_Counter_leadOn_84 : decode prog_3_method_3_code 84 = .ok (.iconst 0, 1) := by decide +kernel
theorem d_Counter_leadOn_85 : decode prog_3_method_3_code 85 = .ok (.istore 6, 2) := by decide +kernel
theorem d_Counter_leadOn_87 : decode prog_3_method_3_code 87 = .ok (.iload 6, 2) := by decide +kernel
theorem d_Counter_leadOn_89 : decode prog_3_method_3_code 89 = .ok (.aload_n 1, 1) := by decide +kernel
theorem d_Counter_leadOn_90 : decode prog_3_method_3_code 90 = .ok (.getfield 32, 3) := by decide +kernel
theorem d_Counter_leadOn_93 : decode prog_3_method_3_code 93 = .ok (.if_icmp .ge 78, 3) := by decide +kernel
theorem d_Counter_leadOn_96 : decode prog_3_method_3_code 96 = .ok (.iload 5, 2) := by decide +kernel
theorem d_Counter_leadOn_98 : decode prog_3_method_3_code 98 = .ok (.iload 6, 2) := by decide +kernel
theorem d_Counter_leadOn_100 : decode prog_3_method_3_code 100 = .ok (.ishr, 1) := by decide +kernel
theorem d_Counter_leadOn_101 : decode prog_3_method_3_code 101 = .ok (.ifCond .eq 70, 3) := by decide +kernel
theorem d_Counter_leadOn_104 : decode prog_3_method_3_code 104 = .ok (.iload 4, 2) := by decide +kernel
theorem d_Counter_leadOn_106 : decode prog_3_method_3_code 106 = .ok (.aload_n 1, 1) := by decide +kernel
theorem d_Counter_leadOn_107 : decode prog_3_method_3_code 107 = .ok (.getfield 35, 3) := by decide +kernel
theorem d_Counter_leadOn_110 : decode prog_3_method_3_code 110 = .ok (.iload 6, 2) := by decide +kernel
theorem d_Counter_leadOn_112 : decode prog_3_method_3_code 112 = .ok (.iaload, 1) := by decide +kernel
theorem d_Counter_leadOn_113 : decode prog_3_method_3_code 113 = .ok (.iadd, 1) := by decide +kernel
theorem d_Counter_leadOn_114 : decode prog_3_method_3_code 114 = .ok (.istore 7, 2) := by decide +kernel
theorem d_Counter_leadOn_116 : decode prog_3_method_3_code 116 = .ok (.iload 5, 2) := by decide +kernel
theorem d_Counter_leadOn_118 : decode prog_3_method_3_code 118 = .ok (.iload 6, 2) := by decide +kernel
theorem d_Counter_leadOn_120 : decode prog_3_method_3_code 120 = .ok (.ishr, 1) := by decide +kernel
theorem d_Counter_leadOn_121 : decode prog_3_method_3_code 121 = .ok (.iconst 1, 1) := by decide +kernel
theorem d_Counter_leadOn_122 : decode prog_3_method_3_code 122 = .ok (.iand, 1) := by decide +kernel
theorem d_Counter_leadOn_123 : decode prog_3_method_3_code 123 = .ok (.iconst 1, 1) := by decide +kernel
theorem d_Counter_leadOn_124 : decode prog_3_method_3_code 124 = .ok (.if_icmp .ne 41, 3) := by decide +kernel
theorem d_Counter_leadOn_165 : decode prog_3_method_3_code 165 = .ok (.iinc 6 1, 3) := by decide +kernel
theorem d_Counter_leadOn_168 : decode prog_3_method_3_code 168 = .ok (.goto (-81), 3) := by decide +kernel
theorem d_Counter_leadOn_127 : decode prog_3_method_3_code 127 = .ok (.iload 7, 2) := by decide +kernel
theorem d_Counter_leadOn_129 : decode prog_3_method_3_code 129 = .ok (.iload_n 3, 1) := by decide +kernel
theorem d_Counter_leadOn_130 : decode prog_3_method_3_code 130 = .ok (.if_icmp .eq 35, 3) := by decide +kernel
theorem d_Counter_leadOn_133 : decode prog_3_method_3_code 133 = .ok (.iload 7, 2) := by decide +kernel
theorem d_Counter_leadOn_135 : decode prog_3_method_3_code 135 = .ok (.ifCond .lt 30, 3) := by decide +kernel
theorem d_Counter_leadOn_138 : decode prog_3_method_3_code 138 = .ok (.iload 7, 2) := by decide +kernel
theorem d_Counter_leadOn_140 : decode prog_3_method_3_code 140 = .ok (.aload_n 0, 1) := by decide +kernel
theorem d_Counter_leadOn_141 : decode prog_3_method_3_code 141 = .ok (.getfield 15, 3) := by decide +kernel
theorem d_Counter_leadOn_144 : decode prog_3_method_3_code 144 = .ok (.arraylength, 1) := by decide +kernel
theorem d_Counter_leadOn_145 : decode prog_3_method_3_code 145 = .ok (.if_icmp .ge 20, 3) := by decide +kernel
theorem d_Counter_leadOn_148 : decode prog_3_method_3_code 148 = .ok (.aload_n 0, 1) := by decide +kernel
theorem d_Counter_leadOn_149 : decode prog_3_method_3_code 149 = .ok (.getfield 15, 3) := by decide +kernel
theorem d_Counter_leadOn_152 : decode prog_3_method_3_code 152 = .ok (.iload 7, 2) := by decide +kernel
theorem d_Counter_leadOn_154 : decode prog_3_method_3_code 154 = .ok (.dup2, 1) := by decide +kernel
theorem d_Counter_leadOn_155 : decode prog_3_method_3_code 155 = .ok (.laload, 1) := by decide +kernel
theorem d_Counter_leadOn_156 : decode prog_3_method_3_code 156 = .ok (.aload_n 0, 1) := by decide +kernel
theorem d_Counter_leadOn_157 : decode prog_3_method_3_code 157 = .ok (.getfield 9, 3) := by decide +kernel
theorem d_Counter_leadOn_160 : decode prog_3_method_3_code 160 = .ok (.iload 4, 2) := by decide +kernel
theorem d_Counter_leadOn_162 : decode prog_3_method_3_code 162 = .ok (.laload, 1) := by decide +kernel
theorem d_Counter_leadOn_163 : decode prog_3_method_3_code 163 = .ok (.ladd, 1) := by decide +kernel
theorem d_Counter_leadOn_164 : decode prog_3_method_3_code 164 = .ok (.lastore, 1) := by decide +kernel
theorem d_Counter_leadOn_171 : decode prog_3_method_3_code 171 = .ok (.iinc 4 1, 3) := by decide +kernel
theorem d_Counter_leadOn_174 : decode prog_3_method_3_code 174 = .ok (.goto (-135), 3) := by decide +kernel
theorem d_Counter_leadOn_70 : decode prog_3_method_3_code 70 = .ok (.iconst 0, 1) := by decide +kernel
theorem d_Counter_leadOn_71 : decode prog_3_method_3_code 71 = .ok (.goto 11, 3) := by decide +kernel
theorem d_Counter_leadOn_177 : decode prog_3_method_3_code 177 = .ok (.aload_n 0, 1) := by decide +kernel
theorem d_Counter_leadOn_178 : decode prog_3_method_3_code 178 = .ok (.getfield 9, 3) := by decide +kernel
theorem d_Counter_leadOn_181 : decode prog_3_method_3_code 181 = .ok (.astore 4, 2) := by decide +kernel
theorem d_Counter_leadOn_183 : decode prog_3_method_3_code 183 = .ok (.aload_n 0, 1) := by decide +kernel
theorem d_Counter_leadOn_184 : decode prog_3_method_3_code 184 = .ok (.aload_n 0, 1) := by decide +kernel
theorem d_Counter_leadOn_185 : decode prog_3_method_3_code 185 = .ok (.getfield 15, 3) := by decide +kernel
theorem d_Counter_leadOn_188 : decode prog_3_method_3_code 188 = .ok (.putfield 9, 3) := by decide +kernel
theorem d_Counter_leadOn_191 : decode prog_3_method_3_code 191 = .ok (.aload_n 0, 1) := by decide +kernel
theorem d_Counter_leadOn_192 : decode prog_3_method_3_code 192 = .ok (.aload 4, 2) := by decide +kernel
theorem d_Counter_leadOn_194 : decode prog_3_method_3_code 194 = .ok (.putfield 15, 3) := by decide +kernel
theorem d_Counter_leadOn_197 : decode prog_3_method_3_code 197 = .ok (.return_, 1) := by decide +kernel
theorem t_Counter_leadOn_L3 {G : mG} {r : mR} {v0 v1 v2 v3 : Int} {K36 : mH → Option mR} (hK36 : ∀ (h : mH) , K36 h  = some r → mJ G M_Counter_leadOn 36 [(2, v0), (2, v1), (0, v2), (0, v3), (9, 0), (9, 0), (9, 0), (9, 0)] [] h r) : ∀ (n : Nat) (h : mH) (v4 : Int), f_Counter_leadOn_L3 K36 v0 v1 n h v4 = some r → mJ G M_Counter_leadOn 3 [(2, v0), (2, v1), (0, v2), (0, v3), (0, v4), (9, 0), (9, 0), (9, 0)] [] h r := by
  intro n
  induction n with
  | zero =>
    intro h v4 hr
    rw [f_Counter_leadOn_L3] at hr
    cases hr
  | succ n hR3 =>
    intro h v4 hr
    rw [f_Counter_leadOn_L3] at hr
    refine j_iload (pc := 3) d_Counter_leadOn_3 rfl ?_
    refine j_aload_n (pc := 5) d_Counter_leadOn_5 rfl ?_
    refine j_getf (pc := 6) d_Counter_leadOn_6 (fd_Counter_18 rfl) hr (fun hr => ?_)
    refine j_icmp_ge (pc := 9) (tgt := 36) d_Counter_leadOn_9 hr (fun hr => ?_) (fun hr => ?_)
    · exact mJ_weak (ls' := [(2, v0), (2, v1), (0, v2), (0, v3), (9, 0), (9, 0), (9, 0), (9, 0)]) (mwk_s (mwk_s (mwk_s (mwk_s (mwk_d (mwk_s (mwk_s (mwk_s mwk_n)))))))) (hK36 h  hr)
    · refine j_iload (pc := 12) d_Counter_leadOn_12 rfl ?_
      refine j_aload_n (pc := 14) d_Counter_leadOn_14 rfl ?_
      refine j_getf (pc := 15) d_Counter_leadOn_15 (fd_Counter_15 rfl) hr (fun hr => ?_)
      refine j_alen (pc := 18) d_Counter_leadOn_18 hr (fun hr => ?_)
      refine j_icmp_ge (pc := 19) (tgt := 36) d_Counter_leadOn_19 hr (fun hr => ?_) (fun hr => ?_)
      · exact mJ_weak (ls' := [(2, v0), (2, v1), (0, v2), (0, v3), (9, 0), (9, 0), (9, 0), (9, 0)]) (mwk_s (mwk_s (mwk_s (mwk_s (mwk_d (mwk_s (mwk_s (mwk_s mwk_n)))))))) (hK36 h  hr)
      · refine j_aload_n (pc := 22) d_Counter_leadOn_22 rfl ?_
        refine j_getf (pc := 23) d_Counter_leadOn_23 (fd_Counter_15 rfl) hr (fun hr => ?_)
        refine j_iload (pc := 26) d_Counter_leadOn_26 rfl ?_
        refine j_lconst (pc := 28) (z := 0) d_Counter_leadOn_28 ?_
        refine j_lastore (pc := 29) d_Counter_leadOn_29 hr (fun h1 hr => ?_)
        refine j_iincW (pc := 30) (L := fun x2 => [(2, v0), (2, v1), (0, v2), (0, v3), (0, x2), (9, 0), (9, 0), (9, 0)]) d_Counter_leadOn_30 rfl (fun _ => rfl) hr (fun x2 hr => ?_)
        refine j_goto (pc := 33) (tgt := 3) d_Counter_leadOn_33 ?_
        exact mJ_weak (ls' := [(2, v0), (2, v1), (0, v2), (0, v3), (0, x2), (9, 0), (9, 0), (9, 0)]) (mwk_s (mwk_s (mwk_s (mwk_s (mwk_s (mwk_s (mwk_s (mwk_s mwk_n)))))))) (hR3 h1 _ hr)
theorem t_Counter_leadOn_J165 {G : mG} {r : mR} {v0 v1 v2 v3 v4 v5 v6 : Int} {h : mH} {R87 : mH → Int → Option mR} (hR87 : ∀ (h : mH) (w6 : Int) , R87 h w6 = some r → mJ G M_Counter_leadOn 87 [(2, v0), (2, v1), (0, v2), (0, v3), (0, v4), (0, v5), (0, w6), (9, 0)] [] h r) (hr : f_Counter_leadOn_J165 R87 v6 h = some r) : mJ G M_Counter_leadOn 165 [(2, v0), (2, v1), (0, v2), (0, v3), (0, v4), (0, v5), (0, v6), (9, 0)] [] h r := by
  unfold f_Counter_leadOn_J165 at hr
  refine j_iincW (pc := 165) (L := fun x1 => [(2, v0), (2, v1), (0, v2), (0, v3), (0, v4), (0, v5), (0, x1), (9, 0)]) d_Counter_leadOn_165 rfl (fun _ => rfl) hr (fun x1 hr => ?_)
  refine j_goto (pc := 168) (tgt := 87) d_Counter_leadOn_168 ?_
  exact mJ_weak (ls' := [(2, v0), (2, v1), (0, v2), (0, v3), (0, v4), (0, v5), (0, x1), (9, 0)]) (mwk_s (mwk_s (mwk_s (mwk_s (mwk_s (mwk_s (mwk_s (mwk_s mwk_n)))))))) (hR87 h _ hr)
theorem t_Counter_leadOn_L87 {G : mG} {r : mR} {v0 v1 v2 v3 v4 v5 : Int} {K171 : mH → Option mR} (hK171 : ∀ (h : mH) , K171 h  = some r → mJ G M_Counter_leadOn 171 [(2, v0), (2, v1), (0, v2), (0, v3), (0, v4), (9, 0), (9, 0), (9, 0)] [] h r) : ∀ (n : Nat) (h : mH) (v6 : Int), f_Counter_leadOn_L87 K171 v0 v1 v3 v4 v5 n h v6 = some r → mJ G M_Counter_leadOn 87 [(2, v0), (2, v1), (0, v2), (0, v3), (0, v4), (0, v5), (0, v6), (9, 0)] [] h r := by
  intro n
  induction n with
  | zero =>
    intro h v6 hr
    rw [f_Counter_leadOn_L87] at hr
    cases hr
  | succ n hR87 =>
    intro h v6 hr
    rw [f_Counter_leadOn_L87] at hr
    refine j_iload (pc := 87) d_Counter_leadOn_87 rfl ?_
    refine j_aload_n (pc := 89) d_Counter_leadOn_89 rfl ?_
    refine j_getf (pc := 90) d_Counter_leadOn_90 (fd_Counter_32 rfl) hr (fun hr => ?_)
    refine j_icmp_ge (pc := 93) (tgt := 171) d_Counter_leadOn_93 hr (fun hr => ?_) (fun hr => ?_)
    · exact mJ_weak (ls' := [(2, v0), (2, v1), (0, v2), (0, v3), (0, v4), (9, 0), (9, 0), (9, 0)]) (mwk_s (mwk_s (mwk_s (mwk_s (mwk_s (mwk_d (mwk_d (mwk_s mwk_n)))))))) (hK171 h  hr)
    · refine j_iload (pc := 96) d_Counter_leadOn_96 rfl ?_
      refine j_iload (pc := 98) d_Counter_leadOn_98 rfl ?_
      refine j_ishr (pc := 100) d_Counter_leadOn_100 ?_
      refine j_if_eq (pc := 101) (tgt := 171) d_Counter_leadOn_101 hr (fun hr => ?_) (fun hr => ?_)
      · exact mJ_weak (ls' := [(2, v0), (2, v1), (0, v2), (0, v3), (0, v4), (9, 0), (9, 0), (9, 0)]) (mwk_s (mwk_s (mwk_s (mwk_s (mwk_s (mwk_d (mwk_d (mwk_s mwk_n)))))))) (hK171 h  hr)
      · refine j_iload (pc := 104) d_Counter_leadOn_104 rfl ?_
        refine j_aload_n (pc := 106) d_Counter_leadOn_106 rfl ?_
        refine j_getf (pc := 107) d_Counter_leadOn_107 (fd_Counter_35 rfl) hr (fun hr => ?_)
        refine j_iload (pc := 110) d_Counter_leadOn_110 rfl ?_
        refine j_iaload (pc := 112) d_Counter_leadOn_112 hr (fun hr => ?_)
        refine j_iadd (pc := 113) d_Counter_leadOn_113 ?_
        refine j_istoreW (pc := 114) (L := fun x1 => [(2, v0), (2, v1), (0, v2), (0, v3), (0, v4), (0, v5), (0, v6), (0, x1)]) d_Counter_leadOn_114 (fun _ => rfl) hr (fun x1 hr => ?_)
        refine j_iload (pc := 116) d_Counter_leadOn_116 rfl ?_
        refine j_iload (pc := 118) d_Counter_leadOn_118 rfl ?_
        refine j_ishr (pc := 120) d_Counter_leadOn_120 ?_
        refine j_iconst (pc := 121) d_Counter_leadOn_121 ?_
        refine j_iand (pc := 122) d_Counter_leadOn_122 ?_
        refine j_iconst (pc := 123) d_Counter_leadOn_123 ?_
        refine j_icmp_ne (pc := 124) (tgt := 165) d_Counter_leadOn_124 hr (fun hr => ?_) (fun hr => ?_)
        · exact mJ_weak (ls' := [(2, v0), (2, v1), (0, v2), (0, v3), (0, v4), (0, v5), (0, v6), (9, 0)]) (mwk_s (mwk_s (mwk_s (mwk_s (mwk_s (mwk_s (mwk_s (mwk_d mwk_n)))))))) (t_Counter_leadOn_J165 hR87 hr)
        · refine j_iload (pc := 127) d_Counter_leadOn_127 rfl ?_
          refine j_iload_n (pc := 129) d_Counter_leadOn_129 rfl ?_
          refine j_icmp_eq (pc := 130) (tgt := 165) d_Counter_leadOn_130 hr (fun hr => ?_) (fun hr => ?_)
          · exact mJ_weak (ls' := [(2, v0), (2, v1), (0, v2), (0, v3), (0, v4), (0, v5), (0, v6), (9, 0)]) (mwk_s (mwk_s (mwk_s (mwk_s (mwk_s (mwk_s (mwk_s (mwk_d mwk_n)))))))) (t_Counter_leadOn_J165 hR87 hr)
          · refine j_iload (pc := 133) d_Counter_leadOn_133 rfl ?_
            refine j_if_lt (pc := 135) (tgt := 165) d_Counter_leadOn_135 hr (fun hr => ?_) (fun hr => ?_)
            · exact mJ_weak (ls' := [(2, v0), (2, v1), (0, v2), (0, v3), (0, v4), (0, v5), (0, v6), (9, 0)]) (mwk_s (mwk_s (mwk_s (mwk_s (mwk_s (mwk_s (mwk_s (mwk_d mwk_n)))))))) (t_Counter_leadOn_J165 hR87 hr)
            · refine j_iload (pc := 138) d_Counter_leadOn_138 rfl ?_
              refine j_aload_n (pc := 140) d_Counter_leadOn_140 rfl ?_
              refine j_getf (pc := 141) d_Counter_leadOn_141 (fd_Counter_15 rfl) hr (fun hr => ?_)
              refine j_alen (pc := 144) d_Counter_leadOn_144 hr (fun hr => ?_)
              refine j_icmp_ge (pc := 145) (tgt := 165) d_Counter_leadOn_145 hr (fun hr => ?_) (fun hr => ?_)
              · exact mJ_weak (ls' := [(2, v0), (2, v1), (0, v2), (0, v3), (0, v4), (0, v5), (0, v6), (9, 0)]) (mwk_s (mwk_s (mwk_s (mwk_s (mwk_s (mwk_s (mwk_s (mwk_d mwk_n)))))))) (t_Counter_leadOn_J165 hR87 hr)
              · refine j_aload_n (pc := 148) d_Counter_leadOn_148 rfl ?_
                refine j_getf (pc := 149) d_Counter_leadOn_149 (fd_Counter_15 rfl) hr (fun hr => ?_)
                refine j_iload (pc := 152) d_Counter_leadOn_152 rfl ?_
                refine j_dup2 (pc := 154) d_Counter_leadOn_154 ?_
                refine j_laload (pc := 155) d_Counter_leadOn_155 hr (fun hr => ?_)
                refine j_aload_n (pc := 156) d_Counter_leadOn_156 rfl ?_
                refine j_getf (pc := 157) d_Counter_leadOn_157 (fd_Counter_9 rfl) hr (fun hr => ?_)
                refine j_iload (pc := 160) d_Counter_leadOn_160 rfl ?_
                refine j_laload (pc := 162) d_Counter_leadOn_162 hr (fun hr => ?_)
                refine j_ladd (pc := 163) d_Counter_leadOn_163 ?_
                refine j_lastore (pc := 164) d_Counter_leadOn_164 hr (fun h2 hr => ?_)
                exact mJ_weak (ls' := [(2, v0), (2, v1), (0, v2), (0, v3), (0, v4), (0, v5), (0, v6), (9, 0)]) (mwk_s (mwk_s (mwk_s (mwk_s (mwk_s (mwk_s (mwk_s (mwk_d mwk_n)))))))) (t_Counter_leadOn_J165 hR87 hr)
theorem t_Counter_leadOn_J171 {G : mG} {r : mR} {v0 v1 v2 v3 v4 : Int} {h : mH} {R39 : mH → Int → Option mR} (hR39 : ∀ (h : mH) (w4 : Int) , R39 h w4 = some r → mJ G M_Counter_leadOn 39 [(2, v0), (2, v1), (0, v2), (0, v3), (0, w4), (9, 0), (9, 0), (9, 0)] [] h r) (hr : f_Counter_leadOn_J171 R39 v4 h = some r) : mJ G M_Counter_leadOn 171 [(2, v0), (2, v1), (0, v2), (0, v3), (0, v4), (9, 0), (9, 0), (9, 0)] [] h r := by
  unfold f_Counter_leadOn_J171 at hr
  refine j_iincW (pc := 171) (L := fun x1 => [(2, v0), (2, v1), (0, v2), (0, v3), (0, x1), (9, 0), (9, 0), (9, 0)]) d_Counter_leadOn_171 rfl (fun _ => rfl) hr (fun x1 hr => ?_)
  refine j_goto (pc := 174) (tgt := 39) d_Counter_leadOn_174 ?_
  exact mJ_weak (ls' := [(2, v0), (2, v1), (0, v2), (0, v3), (0, x1), (9, 0), (9, 0), (9, 0)]) (mwk_s (mwk_s (mwk_s (mwk_s (mwk_s (mwk_s (mwk_s (mwk_s mwk_n)))))))) (hR39 h _ hr)
theorem t_Counter_leadOn_J82 {G : mG} {r : mR} {v0 v1 v2 v3 v4 s0 : Int} {h : mH} {R39 : mH → Int → Option mR} (hR39 : ∀ (h : mH) (w4 : Int) , R39 h w4 = some r → mJ G M_Counter_leadOn 39 [(2, v0), (2, v1), (0, v2), (0, v3), (0, w4), (9, 0), (9, 0), (9, 0)] [] h r) (hr : f_Counter_leadOn_J82 R39 v0 v1 v3 v4 s0 h = some r) : mJ G M_Counter_leadOn 82 [(2, v0), (2, v1), (0, v2), (0, v3), (0, v4), (9, 0), (9, 0), (9, 0)] [(0, s0)] h r := by
  unfold f_Counter_leadOn_J82 at hr
  refine j_istore (pc := 82) (ls' := [(2, v0), (2, v1), (0, v2), (0, v3), (0, v4), (0, s0), (9, 0), (9, 0)]) d_Counter_leadOn_82 rfl ?_
  refine j_iconst (pc := 84) d_Counter_leadOn_84 ?_
  refine j_istore (pc := 85) (ls' := [(2, v0), (2, v1), (0, v2), (0, v3), (0, v4), (0, s0), (0, 0), (9, 0)]) d_Counter_leadOn_85 rfl ?_
  refine mJ_weak (ls' := [(2, v0), (2, v1), (0, v2), (0, v3), (0, v4), (0, s0), (0, 0), (9, 0)]) (mwk_s (mwk_s (mwk_s (mwk_s (mwk_s (mwk_s (mwk_s (mwk_s mwk_n)))))))) (t_Counter_leadOn_L87 (fun h1  hr => ?_) _ _ _ hr)
  · exact mJ_weak (ls' := [(2, v0), (2, v1), (0, v2), (0, v3), (0, v4), (9, 0), (9, 0), (9, 0)]) (mwk_s (mwk_s (mwk_s (mwk_s (mwk_s (mwk_s (mwk_s (mwk_s mwk_n)))))))) (t_Counter_leadOn_J171 hR39 hr)
theorem t_Counter_leadOn_L39 {G : mG} {r : mR} {v0 v1 v2 v3 : Int} {K177 : mH → Option mR} (hK177 : ∀ (h : mH) , K177 h  = some r → mJ G M_Counter_leadOn 177 [(2, v0), (9, 0), (9, 0), (9, 0), (9, 0), (9, 0), (9, 0), (9, 0)] [] h r) : ∀ (n : Nat) (h : mH) (v4 : Int), f_Counter_leadOn_L39 K177 v0 v1 v2 v3 n h v4 = some r → mJ G M_Counter_leadOn 39 [(2, v0), (2, v1), (0, v2), (0, v3), (0, v4), (9, 0), (9, 0), (9, 0)] [] h r := by
  intro n
  induction n with
  | zero =>
    intro h v4 hr
    rw [f_Counter_leadOn_L39] at hr
    cases hr
  | succ n hR39 =>
    intro h v4 hr
    rw [f_Counter_leadOn_L39] at hr
    refine j_iload (pc := 39) d_Counter_leadOn_39 rfl ?_
    refine j_aload_n (pc := 41) d_Counter_leadOn_41 rfl ?_
    refine j_getf (pc := 42) d_Counter_leadOn_42 (fd_Counter_18 rfl) hr (fun hr => ?_)
    refine j_icmp_ge (pc := 45) (tgt := 177) d_Counter_leadOn_45 hr (fun hr => ?_) (fun hr => ?_)
    · exact mJ_weak (ls' := [(2, v0), (9, 0), (9, 0), (9, 0), (9, 0), (9, 0), (9, 0), (9, 0)]) (mwk_s (mwk_d (mwk_d (mwk_d (mwk_d (mwk_s (mwk_s (mwk_s mwk_n)))))))) (hK177 h  hr)
    · refine j_iload (pc := 48) d_Counter_leadOn_48 rfl ?_
      refine j_aload_n (pc := 50) d_Counter_leadOn_50 rfl ?_
      refine j_getf (pc := 51) d_Counter_leadOn_51 (fd_Counter_9 rfl) hr (fun hr => ?_)
      refine j_alen (pc := 54) d_Counter_leadOn_54 hr (fun hr => ?_)
      refine j_icmp_ge (pc := 55) (tgt := 177) d_Counter_leadOn_55 hr (fun hr => ?_) (fun hr => ?_)
      · exact mJ_weak (ls' := [(2, v0), (9, 0), (9, 0), (9, 0), (9, 0), (9, 0), (9, 0), (9, 0)]) (mwk_s (mwk_d (mwk_d (mwk_d (mwk_d (mwk_s (mwk_s (mwk_s mwk_n)))))))) (hK177 h  hr)
      · refine j_aload_n (pc := 58) d_Counter_leadOn_58 rfl ?_
        refine j_getf (pc := 59) d_Counter_leadOn_59 (fd_Counter_9 rfl) hr (fun hr => ?_)
        refine j_iload (pc := 62) d_Counter_leadOn_62 rfl ?_
        refine j_laload (pc := 64) d_Counter_leadOn_64 hr (fun hr => ?_)
        refine j_lconst (pc := 65) (z := 0) d_Counter_leadOn_65 ?_
        refine j_lcmp (pc := 66) d_Counter_leadOn_66 ?_
        refine j_if_ne (pc := 67) (tgt := 74) d_Counter_leadOn_67 hr (fun hr => ?_) (fun hr => ?_)
        · refine j_aload_n (pc := 74) d_Counter_leadOn_74 rfl ?_
          refine j_iload (pc := 75) d_Counter_leadOn_75 rfl ?_
          obtain ⟨ha, hr⟩ := chk_some hr
          refine j_callG (pc := 77) (stk := [(0, v4), (2, v1)]) (as := [(2, v1), (0, v4)]) (P := (fun v9 => ((0 : Nat), v9) :: [])) (tg := 0) (My := M_Graph_stepsFrom) (mRunV (as := [(0, v4)]) (st := []) d_Counter_leadOn_77 (mc_Graph_stepsFrom (by decide)) rfl (mv_Graph_stepsFrom tb_ml_Counter_28) rfl (Nat.le_of_ble_eq_true rfl) ha) (fun v => rfl) rfl hr (fun r1 h1 => t_Graph_stepsFrom _ _ _ _ h1) (fun x2 h1 hr => ?_)
          refine j_iload_n (pc := 80) d_Counter_leadOn_80 rfl ?_
          refine j_iand (pc := 81) d_Counter_leadOn_81 ?_
          exact mJ_weak (ls' := [(2, v0), (2, v1), (0, v2), (0, v3), (0, v4), (9, 0), (9, 0), (9, 0)]) (mwk_s (mwk_s (mwk_s (mwk_s (mwk_s (mwk_s (mwk_s (mwk_s mwk_n)))))))) (t_Counter_leadOn_J82 hR39 hr)
        · refine j_iconst (pc := 70) d_Counter_leadOn_70 ?_
          refine j_goto (pc := 71) (tgt := 82) d_Counter_leadOn_71 ?_
          exact mJ_weak (ls' := [(2, v0), (2, v1), (0, v2), (0, v3), (0, v4), (9, 0), (9, 0), (9, 0)]) (mwk_s (mwk_s (mwk_s (mwk_s (mwk_s (mwk_s (mwk_s (mwk_s mwk_n)))))))) (t_Counter_leadOn_J82 hR39 hr)
theorem t_Counter_leadOn_J177 {G : mG} {r : mR} {v0 : Int} {h : mH}  (hr : f_Counter_leadOn_J177 v0 h = some r) : mJ G M_Counter_leadOn 177 [(2, v0), (9, 0), (9, 0), (9, 0), (9, 0), (9, 0), (9, 0), (9, 0)] [] h r := by
  unfold f_Counter_leadOn_J177 at hr
  refine j_aload_n (pc := 177) d_Counter_leadOn_177 rfl ?_
  refine j_getf (pc := 178) d_Counter_leadOn_178 (fd_Counter_9 rfl) hr (fun hr => ?_)
  refine j_astoreW (pc := 181) (L := fun x1 => [(2, v0), (9, 0), (9, 0), (9, 0), (2, x1), (9, 0), (9, 0), (9, 0)]) d_Counter_leadOn_181 (fun _ => rfl) hr (fun x1 hr => ?_)
  refine j_aload_n (pc := 183) d_Counter_leadOn_183 rfl ?_
  refine j_aload_n (pc := 184) d_Counter_leadOn_184 rfl ?_
  refine j_getf (pc := 185) d_Counter_leadOn_185 (fd_Counter_15 rfl) hr (fun hr => ?_)
  refine j_puta (pc := 188) d_Counter_leadOn_188 (fd_Counter_9 rfl) (⟨_, _, _, rfl, Or.inl rfl, rfl⟩ : mFldW M_Counter_leadOn 9 1 0 (.array .long)) (Or.inr ⟨_, rfl⟩) hr (fun h2 hr => ?_)
  refine j_aload_n (pc := 191) d_Counter_leadOn_191 rfl ?_
  refine j_aload (pc := 192) d_Counter_leadOn_192 rfl ?_
  refine j_puta (pc := 194) d_Counter_leadOn_194 (fd_Counter_15 rfl) (⟨_, _, _, rfl, Or.inl rfl, rfl⟩ : mFldW M_Counter_leadOn 15 1 1 (.array .long)) (Or.inr ⟨_, rfl⟩) hr (fun h3 hr => ?_)
  exact j_vret (pc := 197) d_Counter_leadOn_197 rfl hr
theorem t_Counter_leadOn_J36 {G : mG} {r : mR} {v0 v1 v2 v3 : Int} {h : mH}  (hr : f_Counter_leadOn_J36 v0 v1 v2 v3 h = some r) : mJ G M_Counter_leadOn 36 [(2, v0), (2, v1), (0, v2), (0, v3), (9, 0), (9, 0), (9, 0), (9, 0)] [] h r := by
  unfold f_Counter_leadOn_J36 at hr
  refine j_iconst (pc := 36) d_Counter_leadOn_36 ?_
  refine j_istore (pc := 37) (ls' := [(2, v0), (2, v1), (0, v2), (0, v3), (0, 0), (9, 0), (9, 0), (9, 0)]) d_Counter_leadOn_37 rfl ?_
  refine mJ_weak (ls' := [(2, v0), (2, v1), (0, v2), (0, v3), (0, 0), (9, 0), (9, 0), (9, 0)]) (mwk_s (mwk_s (mwk_s (mwk_s (mwk_s (mwk_s (mwk_s (mwk_s mwk_n)))))))) (t_Counter_leadOn_L39 (fun h1  hr => ?_) _ _ _ hr)
  · exact mJ_weak (ls' := [(2, v0), (9, 0), (9, 0), (9, 0), (9, 0), (9, 0), (9, 0), (9, 0)]) (mwk_s (mwk_s (mwk_s (mwk_s (mwk_s (mwk_s (mwk_s (mwk_s mwk_n)))))))) (t_Counter_leadOn_J177  hr)
theorem t_Counter_leadOn {G : mG} (h : mH) (v0 v1 v2 v3 : Int) (r : mR) (hr : f_Counter_leadOn h v0 v1 v2 v3 = some r) : mJM G M_Counter_leadOn [(2, v0), (2, v1), (0, v2), (0, v3)] h r := by
  refine mJM_of (L := [(2, v0), (2, v1), (0, v2), (0, v3), (9, 0), (9, 0), (9, 0), (9, 0)]) rfl rfl rfl (Nat.le_of_ble_eq_true rfl) ?_
  unfold f_Counter_leadOn at hr
  refine j_iconst (pc := 0) d_Counter_leadOn_0 ?_
  refine j_istore (pc := 1) (ls' := [(2, v0), (2, v1), (0, v2), (0, v3), (0, 0), (9, 0), (9, 0), (9, 0)]) d_Counter_leadOn_1 rfl ?_
  refine mJ_weak (ls' := [(2, v0), (2, v1), (0, v2), (0, v3), (0, 0), (9, 0), (9, 0), (9, 0)]) (mwk_s (mwk_s (mwk_s (mwk_s (mwk_s (mwk_s (mwk_s (mwk_s mwk_n)))))))) (t_Counter_leadOn_L3 (fun h1  hr => ?_) _ _ _ hr)
  · exact mJ_weak (ls' := [(2, v0), (2, v1), (0, v2), (0, v3), (9, 0), (9, 0), (9, 0), (9, 0)]) (mwk_s (mwk_s (mwk_s (mwk_s (mwk_s (mwk_s (mwk_s (mwk_s mwk_n)))))))) (t_Counter_leadOn_J36  hr)
def M_Counter_versesAsTold : mM := ("NineBars$Counter", ⟨"NineBars$Counter", "versesAsTold", "(LNineBars$Graph;ILNineBars$Tray;)J"⟩, prog_3_method_5_code, 8, some .long, [], 5)
theorem tb_co_Counter_versesAsTold : mTB (Cond.code ⟨"NineBars$Counter", "versesAsTold", "(LNineBars$Graph;ILNineBars$Tray;)J"⟩ prog_3_method_5_code 8 (some .long)) := tbq5 234 (by decide +kernel) rfl
theorem mc_Counter_versesAsTold {M : mM} (hd : 5 < mDp M) : mCal M M_Counter_versesAsTold 3 := ⟨tb_co_Counter_versesAsTold, tb_in_NineBars_Counter, ⟨by decide +kernel, by decide +kernel⟩, by decide +kernel, hd, by decide⟩
theorem d_Counter_versesAsTold_0 : decode prog_3_method_5_code 0 = .ok (.aload_n 0, 1) := by decide +kernel
theorem d_Counter_versesAsTold_1 : decode prog_3_method_5_code 1 = .ok (.aload_n 1, 1) := by decide +kernel
theorem d_Counter_versesAsTold_2 : decode prog_3_method_5_code 2 = .ok (.iload_n 2, 1) := by decide +kernel
theorem d_Counter_versesAsTold_3 : decode prog_3_method_5_code 3 = .ok (.invokevirtual 39, 3) := by decide +kernel
theorem d_Counter_versesAsTold_6 : decode prog_3_method_5_code 6 = .ok (.iconst 0, 1) := by decide +kernel
theorem d_Counter_versesAsTold_7 : decode prog_3_method_5_code 7 = .ok (.istore 4, 2) := by decide +kernel
theorem d_Counter_versesAsTold_9 : decode prog_3_method_5_code 9 = .ok (.iload 4, 2) := by decide +kernel
theorem d_Counter_versesAsTold_11 : decode prog_3_method_5_code 11 = .ok (.aload_n 3, 1) := by decide +kernel
theorem tb_fl_Counter_48 : mTN (Cond.fieldLinkNest "NineBars$Counter" 48 "NineBars$Tray" "many" "I" "NineBars") := tbqn1 175 (by decide +kernel) rfl
theorem fd_Counter_48 {M : mM} (h : mO M = "NineBars$Counter") : mFld M 48 9 2 0 := ⟨_, _, _, tyX9, rfl, by decide, by decide, rfl, uw_9, tyX9_ok, nmX9, by rw [h]; exact Or.inr ⟨_, tb_fl_Counter_48⟩⟩
theorem d_Counter_versesAsTold_12 : decode prog_3_method_5_code 12 = .ok (.getfield 48, 3) := by decide +kernel
theorem d_Counter_versesAsTold_15 : decode prog_3_method_5_code 15 = .ok (.if_icmp .ge 69, 3) := by decide +kernel
theorem d_Counter_versesAsTold_18 : decode prog_3_method_5_code 18 = .ok (.aload_n 3, 1) := by decide +kernel
theorem tb_fl_Counter_53 : mTN (Cond.fieldLinkNest "NineBars$Counter" 53 "NineBars$Tray" "numbers" "[J" "NineBars") := tbqn1 170 (by decide +kernel) rfl
theorem fd_Counter_53 {M : mM} (h : mO M = "NineBars$Counter") : mFld M 53 9 0 2 := ⟨_, _, _, tyX9, rfl, by decide, by decide, rfl, uw_9, tyX9_ok, nmX9, by rw [h]; exact Or.inr ⟨_, tb_fl_Counter_53⟩⟩
theorem d_Counter_versesAsTold_19 : decode prog_3_method_5_code 19 = .ok (.getfield 53, 3) := by decide +kernel
theorem d_Counter_versesAsTold_22 : decode prog_3_method_5_code 22 = .ok (.iload 4, 2) := by decide +kernel
theorem d_Counter_versesAsTold_24 : decode prog_3_method_5_code 24 = .ok (.laload, 1) := by decide +kernel
theorem d_Counter_versesAsTold_25 : decode prog_3_method_5_code 25 = .ok (.lstore 5, 2) := by decide +kernel
theorem d_Counter_versesAsTold_27 : decode prog_3_method_5_code 27 = .ok (.lload 5, 2) := by decide +kernel
theorem d_Counter_versesAsTold_29 : decode prog_3_method_5_code 29 = .ok (.lconst 0, 1) := by decide +kernel
theorem d_Counter_versesAsTold_30 : decode prog_3_method_5_code 30 = .ok (.lcmp, 1) := by decide +kernel
theorem d_Counter_versesAsTold_31 : decode prog_3_method_5_code 31 = .ok (.ifCond .lt 22, 3) := by decide +kernel
theorem d_Counter_versesAsTold_53 : decode prog_3_method_5_code 53 = .ok (.iconst 0, 1) := by decide +kernel
theorem d_Counter_versesAsTold_54 : decode prog_3_method_5_code 54 = .ok (.istore 7, 2) := by decide +kernel
theorem d_Counter_versesAsTold_56 : decode prog_3_method_5_code 56 = .ok (.aload_n 0, 1) := by decide +kernel
theorem d_Counter_versesAsTold_57 : decode prog_3_method_5_code 57 = .ok (.aload_n 1, 1) := by decide +kernel
theorem d_Counter_versesAsTold_58 : decode prog_3_method_5_code 58 = .ok (.lload 5, 2) := by decide +kernel
theorem tb_cj_Counter_56 : mTB (Cond.constantLong "NineBars$Counter" 56 (-1)) := tbq5 235 (by decide +kernel) rfl
theorem d_Counter_versesAsTold_60 : decode prog_3_method_5_code 60 = .ok (.ldc2_w 56, 3) := by decide +kernel
theorem d_Counter_versesAsTold_63 : decode prog_3_method_5_code 63 = .ok (.lcmp, 1) := by decide +kernel
theorem d_Counter_versesAsTold_64 : decode prog_3_method_5_code 64 = .ok (.ifCond .ne 8, 3) := by decide +kernel
theorem d_Counter_versesAsTold_72 : decode prog_3_method_5_code 72 = .ok (.iload 7, 2) := by decide +kernel
theorem d_Counter_versesAsTold_74 : decode prog_3_method_5_code 74 = .ok (.iconst (-1), 1) := by decide +kernel
theorem d_Counter_versesAsTold_75 : decode prog_3_method_5_code 75 = .ok (.invokevirtual 44, 3) := by decide +kernel
theorem tb_ml_Counter_44 : mTB (Cond.methodLink "NineBars$Counter" 44 ⟨"NineBars$Counter", "leadOn", "(LNineBars$Graph;II)V"⟩) := tbq5 237 (by decide +kernel) rfl
theorem tb_im_Counter_leadOn : mTB (Cond.instanceMethod ⟨"NineBars$Counter", "leadOn", "(LNineBars$Graph;II)V"⟩) := tbq5 239 (by decide +kernel) rfl
theorem tb_se_Counter_leadOn : mTB (Cond.selects "NineBars$Counter" ⟨"NineBars$Counter", "leadOn", "(LNineBars$Graph;II)V"⟩ ⟨"NineBars$Counter", "leadOn", "(LNineBars$Graph;II)V"⟩) := tbqp 34 (by decide +kernel) rfl
theorem mv_Counter_leadOn {M : mM} {idx : Nat} (h : mTB (Cond.methodLink (mO M) idx ⟨"NineBars$Counter", "leadOn", "(LNineBars$Graph;II)V"⟩)) : mCaV M M_Counter_leadOn idx 1 := ⟨h, tb_im_Counter_leadOn, tb_se_Counter_leadOn, by decide, TX1, 2, rfl⟩
theorem d_Counter_versesAsTold_78 : decode prog_3_method_5_code 78 = .ok (.iinc 4 1, 3) := by decide +kernel
theorem d_Counter_versesAsTold_81 : decode prog_3_method_5_code 81 = .ok (.goto (-72), 3) := by decide +kernel
theorem tb_ci_Counter_43 : mTB (Cond.constant "NineBars$Counter" 43 262143) := tbq5 236 (by decide +kernel) rfl
theorem d_Counter_versesAsTold_67 : decode prog_3_method_5_code 67 = .ok (.ldc 43, 2) := by decide +kernel
theorem d_Counter_versesAsTold_69 : decode prog_3_method_5_code 69 = .ok (.goto 5, 3) := by decide +kernel
theorem d_Counter_versesAsTold_34 : decode prog_3_method_5_code 34 = .ok (.lload 5, 2) := by decide +kernel
theorem d_Counter_versesAsTold_36 : decode prog_3_method_5_code 36 = .ok (.aload_n 1, 1) := by decide +kernel
theorem d_Counter_versesAsTold_37 : decode prog_3_method_5_code 37 = .ok (.getfield 32, 3) := by decide +kernel
theorem d_Counter_versesAsTold_40 : decode prog_3_method_5_code 40 = .ok (.i2l, 1) := by decide +kernel
theorem d_Counter_versesAsTold_41 : decode prog_3_method_5_code 41 = .ok (.lcmp, 1) := by decide +kernel
theorem d_Counter_versesAsTold_42 : decode prog_3_method_5_code 42 = .ok (.ifCond .ge 11, 3) := by decide +kernel
theorem d_Counter_versesAsTold_45 : decode prog_3_method_5_code 45 = .ok (.iconst 1, 1) := by decide +kernel
theorem d_Counter_versesAsTold_46 : decode prog_3_method_5_code 46 = .ok (.lload 5, 2) := by decide +kernel
theorem d_Counter_versesAsTold_48 : decode prog_3_method_5_code 48 = .ok (.l2i, 1) := by decide +kernel
theorem d_Counter_versesAsTold_49 : decode prog_3_method_5_code 49 = .ok (.ishl, 1) := by decide +kernel
theorem d_Counter_versesAsTold_50 : decode prog_3_method_5_code 50 = .ok (.goto 4, 3) := by decide +kernel
theorem d_Counter_versesAsTold_84 : decode prog_3_method_5_code 84 = .ok (.aload_n 0, 1) := by decide +kernel
theorem d_Counter_versesAsTold_85 : decode prog_3_method_5_code 85 = .ok (.aload_n 1, 1) := by decide +kernel
theorem d_Counter_versesAsTold_86 : decode prog_3_method_5_code 86 = .ok (.getfield 58, 3) := by decide +kernel
theorem d_Counter_versesAsTold_89 : decode prog_3_method_5_code 89 = .ok (.invokevirtual 61, 3) := by decide +kernel
theorem d_Counter_versesAsTold_92 : decode prog_3_method_5_code 92 = .ok (.lreturn, 1) := by decide +kernel
theorem t_Counter_versesAsTold_J74 {G : mG} {r : mR} {v0 v1 v3 v4 s0 s1 s2 : Int} {h : mH} {R9 : mH → Int → Option mR} (hR9 : ∀ (h : mH) (w4 : Int) , R9 h w4 = some r → mJ G M_Counter_versesAsTold 9 [(2, v0), (2, v1), (9, 0), (2, v3), (0, w4), (9, 0), (9, 0), (9, 0)] [] h r) (hr : f_Counter_versesAsTold_J74 R9 v4 s0 s1 s2 h = some r) : mJ G M_Counter_versesAsTold 74 [(2, v0), (2, v1), (9, 0), (2, v3), (0, v4), (9, 0), (9, 0), (9, 0)] [(0, s2), (2, s1), (2, s0)] h r := by
  unfold f_Counter_versesAsTold_J74 at hr
  refine j_iconst (pc := 74) d_Counter_versesAsTold_74 ?_
  obtain ⟨ha, hr⟩ := chk_some hr
  refine j_callG (pc := 75) (stk := [(0, (-1)), (0, s2), (2, s1), (2, s0)]) (as := [(2, s0), (2, s1), (0, s2), (0, (-1))]) (P := (fun v9 => [])) (tg := 3) (My := M_Counter_leadOn) (mRunV (as := [(2, s1), (0, s2), (0, (-1))]) (st := []) d_Counter_versesAsTold_75 (mc_Counter_leadOn (by decide)) rfl (mv_Counter_leadOn tb_ml_Counter_44) rfl (Nat.le_of_ble_eq_true rfl) ha) (fun v => rfl) rfl hr (fun r1 h1 => t_Counter_leadOn _ _ _ _ _ _ h1) (fun x2 h1 hr => ?_)
  refine j_iincW (pc := 78) (L := fun x3 => [(2, v0), (2, v1), (9, 0), (2, v3), (0, x3), (9, 0), (9, 0), (9, 0)]) d_Counter_versesAsTold_78 rfl (fun _ => rfl) hr (fun x3 hr => ?_)
  refine j_goto (pc := 81) (tgt := 9) d_Counter_versesAsTold_81 ?_
  exact mJ_weak (ls' := [(2, v0), (2, v1), (9, 0), (2, v3), (0, x3), (9, 0), (9, 0), (9, 0)]) (mwk_s (mwk_s (mwk_s (mwk_s (mwk_s (mwk_s (mwk_s (mwk_s mwk_n)))))))) (hR9 h1 _ hr)
theorem t_Counter_versesAsTold_J54 {G : mG} {r : mR} {v0 v1 v3 v4 v5 s0 : Int} {h : mH} {R9 : mH → Int → Option mR} (hR9 : ∀ (h : mH) (w4 : Int) , R9 h w4 = some r → mJ G M_Counter_versesAsTold 9 [(2, v0), (2, v1), (9, 0), (2, v3), (0, w4), (9, 0), (9, 0), (9, 0)] [] h r) (hr : f_Counter_versesAsTold_J54 R9 v0 v1 v4 v5 s0 h = some r) : mJ G M_Counter_versesAsTold 54 [(2, v0), (2, v1), (9, 0), (2, v3), (0, v4), (1, v5), (9, 0), (9, 0)] [(0, s0)] h r := by
  unfold f_Counter_versesAsTold_J54 at hr
  refine j_istore (pc := 54) (ls' := [(2, v0), (2, v1), (9, 0), (2, v3), (0, v4), (1, v5), (9, 0), (0, s0)]) d_Counter_versesAsTold_54 rfl ?_
  refine j_aload_n (pc := 56) d_Counter_versesAsTold_56 rfl ?_
  refine j_aload_n (pc := 57) d_Counter_versesAsTold_57 rfl ?_
  refine j_lload (pc := 58) d_Counter_versesAsTold_58 rfl ?_
  refine j_ldc2 (pc := 60) (z := (-1)) d_Counter_versesAsTold_60 tb_cj_Counter_56 rfl ?_
  refine j_lcmp (pc := 63) d_Counter_versesAsTold_63 ?_
  refine j_if_ne (pc := 64) (tgt := 72) d_Counter_versesAsTold_64 hr (fun hr => ?_) (fun hr => ?_)
  · refine j_iload (pc := 72) d_Counter_versesAsTold_72 rfl ?_
    exact mJ_weak (ls' := [(2, v0), (2, v1), (9, 0), (2, v3), (0, v4), (9, 0), (9, 0), (9, 0)]) (mwk_s (mwk_s (mwk_s (mwk_s (mwk_s (mwk_d (mwk_s (mwk_d mwk_n)))))))) (t_Counter_versesAsTold_J74 hR9 hr)
  · refine j_ldc (pc := 67) (z := 262143) d_Counter_versesAsTold_67 tb_ci_Counter_43 rfl ?_
    refine j_goto (pc := 69) (tgt := 74) d_Counter_versesAsTold_69 ?_
    exact mJ_weak (ls' := [(2, v0), (2, v1), (9, 0), (2, v3), (0, v4), (9, 0), (9, 0), (9, 0)]) (mwk_s (mwk_s (mwk_s (mwk_s (mwk_s (mwk_d (mwk_s (mwk_d mwk_n)))))))) (t_Counter_versesAsTold_J74 hR9 hr)
theorem t_Counter_versesAsTold_J53 {G : mG} {r : mR} {v0 v1 v3 v4 v5 : Int} {h : mH} {R9 : mH → Int → Option mR} (hR9 : ∀ (h : mH) (w4 : Int) , R9 h w4 = some r → mJ G M_Counter_versesAsTold 9 [(2, v0), (2, v1), (9, 0), (2, v3), (0, w4), (9, 0), (9, 0), (9, 0)] [] h r) (hr : f_Counter_versesAsTold_J53 R9 v0 v1 v4 v5 h = some r) : mJ G M_Counter_versesAsTold 53 [(2, v0), (2, v1), (9, 0), (2, v3), (0, v4), (1, v5), (9, 0), (9, 0)] [] h r := by
  unfold f_Counter_versesAsTold_J53 at hr
  refine j_iconst (pc := 53) d_Counter_versesAsTold_53 ?_
  exact mJ_weak (ls' := [(2, v0), (2, v1), (9, 0), (2, v3), (0, v4), (1, v5), (9, 0), (9, 0)]) (mwk_s (mwk_s (mwk_s (mwk_s (mwk_s (mwk_s (mwk_s (mwk_s mwk_n)))))))) (t_Counter_versesAsTold_J54 hR9 hr)
theorem t_Counter_versesAsTold_L9 {G : mG} {r : mR} {v0 v1 v3 : Int} {K84 : mH → Option mR} (hK84 : ∀ (h : mH) , K84 h  = some r → mJ G M_Counter_versesAsTold 84 [(2, v0), (2, v1), (9, 0), (9, 0), (9, 0), (9, 0), (9, 0), (9, 0)] [] h r) : ∀ (n : Nat) (h : mH) (v4 : Int), f_Counter_versesAsTold_L9 K84 v0 v1 v3 n h v4 = some r → mJ G M_Counter_versesAsTold 9 [(2, v0), (2, v1), (9, 0), (2, v3), (0, v4), (9, 0), (9, 0), (9, 0)] [] h r := by
  intro n
  induction n with
  | zero =>
    intro h v4 hr
    rw [f_Counter_versesAsTold_L9] at hr
    cases hr
  | succ n hR9 =>
    intro h v4 hr
    rw [f_Counter_versesAsTold_L9] at hr
    refine j_iload (pc := 9) d_Counter_versesAsTold_9 rfl ?_
    refine j_aload_n (pc := 11) d_Counter_versesAsTold_11 rfl ?_
    refine j_getf (pc := 12) d_Counter_versesAsTold_12 (fd_Counter_48 rfl) hr (fun hr => ?_)
    refine j_icmp_ge (pc := 15) (tgt := 84) d_Counter_versesAsTold_15 hr (fun hr => ?_) (fun hr => ?_)
    · exact mJ_weak (ls' := [(2, v0), (2, v1), (9, 0), (9, 0), (9, 0), (9, 0), (9, 0), (9, 0)]) (mwk_s (mwk_s (mwk_s (mwk_d (mwk_d (mwk_s (mwk_s (mwk_s mwk_n)))))))) (hK84 h  hr)
    · refine j_aload_n (pc := 18) d_Counter_versesAsTold_18 rfl ?_
      refine j_getf (pc := 19) d_Counter_versesAsTold_19 (fd_Counter_53 rfl) hr (fun hr => ?_)
      refine j_iload (pc := 22) d_Counter_versesAsTold_22 rfl ?_
      refine j_laload (pc := 24) d_Counter_versesAsTold_24 hr (fun hr => ?_)
      refine j_lstoreW (pc := 25) (L := fun x1 => [(2, v0), (2, v1), (9, 0), (2, v3), (0, v4), (1, x1), (9, 0), (9, 0)]) d_Counter_versesAsTold_25 (fun _ => rfl) hr (fun x1 hr => ?_)
      refine j_lload (pc := 27) d_Counter_versesAsTold_27 rfl ?_
      refine j_lconst (pc := 29) (z := 0) d_Counter_versesAsTold_29 ?_
      refine j_lcmp (pc := 30) d_Counter_versesAsTold_30 ?_
      refine j_if_lt (pc := 31) (tgt := 53) d_Counter_versesAsTold_31 hr (fun hr => ?_) (fun hr => ?_)
      · exact mJ_weak (ls' := [(2, v0), (2, v1), (9, 0), (2, v3), (0, v4), (1, x1), (9, 0), (9, 0)]) (mwk_s (mwk_s (mwk_s (mwk_s (mwk_s (mwk_s (mwk_s (mwk_s mwk_n)))))))) (t_Counter_versesAsTold_J53 hR9 hr)
      · refine j_lload (pc := 34) d_Counter_versesAsTold_34 rfl ?_
        refine j_aload_n (pc := 36) d_Counter_versesAsTold_36 rfl ?_
        refine j_getf (pc := 37) d_Counter_versesAsTold_37 (fd_Counter_32 rfl) hr (fun hr => ?_)
        refine j_i2l (pc := 40) d_Counter_versesAsTold_40 ?_
        refine j_lcmp (pc := 41) d_Counter_versesAsTold_41 ?_
        refine j_if_ge (pc := 42) (tgt := 53) d_Counter_versesAsTold_42 hr (fun hr => ?_) (fun hr => ?_)
        · exact mJ_weak (ls' := [(2, v0), (2, v1), (9, 0), (2, v3), (0, v4), (1, x1), (9, 0), (9, 0)]) (mwk_s (mwk_s (mwk_s (mwk_s (mwk_s (mwk_s (mwk_s (mwk_s mwk_n)))))))) (t_Counter_versesAsTold_J53 hR9 hr)
        · refine j_iconst (pc := 45) d_Counter_versesAsTold_45 ?_
          refine j_lload (pc := 46) d_Counter_versesAsTold_46 rfl ?_
          refine j_l2i (pc := 48) d_Counter_versesAsTold_48 ?_
          refine j_ishl (pc := 49) d_Counter_versesAsTold_49 ?_
          refine j_goto (pc := 50) (tgt := 54) d_Counter_versesAsTold_50 ?_
          exact mJ_weak (ls' := [(2, v0), (2, v1), (9, 0), (2, v3), (0, v4), (1, x1), (9, 0), (9, 0)]) (mwk_s (mwk_s (mwk_s (mwk_s (mwk_s (mwk_s (mwk_s (mwk_s mwk_n)))))))) (t_Counter_versesAsTold_J54 hR9 hr)
theorem t_Counter_versesAsTold {G : mG} (h : mH) (v0 v1 v2 v3 : Int) (r : mR) (hr : f_Counter_versesAsTold h v0 v1 v2 v3 = some r) : mJM G M_Counter_versesAsTold [(2, v0), (2, v1), (0, v2), (2, v3)] h r := by
  refine mJM_of (L := [(2, v0), (2, v1), (0, v2), (2, v3), (9, 0), (9, 0), (9, 0), (9, 0)]) rfl rfl rfl (Nat.le_of_ble_eq_true rfl) ?_
  unfold f_Counter_versesAsTold at hr
  refine j_aload_n (pc := 0) d_Counter_versesAsTold_0 rfl ?_
  refine j_aload_n (pc := 1) d_Counter_versesAsTold_1 rfl ?_
  refine j_iload_n (pc := 2) d_Counter_versesAsTold_2 rfl ?_
  obtain ⟨ha, hr⟩ := chk_some hr
  refine j_callG (pc := 3) (stk := [(0, v2), (2, v1), (2, v0)]) (as := [(2, v0), (2, v1), (0, v2)]) (P := (fun v9 => [])) (tg := 3) (My := M_Counter_begin) (mRunV (as := [(2, v1), (0, v2)]) (st := []) d_Counter_versesAsTold_3 (mc_Counter_begin (by decide)) rfl (mv_Counter_begin tb_ml_Counter_39) rfl (Nat.le_of_ble_eq_true rfl) ha) (fun v => rfl) rfl hr (fun r1 h1 => t_Counter_begin _ _ _ _ _ h1) (fun x2 h1 hr => ?_)
  refine j_iconst (pc := 6) d_Counter_versesAsTold_6 ?_
  refine j_istore (pc := 7) (ls' := [(2, v0), (2, v1), (0, v2), (2, v3), (0, 0), (9, 0), (9, 0), (9, 0)]) d_Counter_versesAsTold_7 rfl ?_
  refine mJ_weak (ls' := [(2, v0), (2, v1), (9, 0), (2, v3), (0, 0), (9, 0), (9, 0), (9, 0)]) (mwk_s (mwk_s (mwk_d (mwk_s (mwk_s (mwk_s (mwk_s (mwk_s mwk_n)))))))) (t_Counter_versesAsTold_L9 (fun h3  hr => ?_) _ _ _ hr)
  · refine j_aload_n (pc := 84) d_Counter_versesAsTold_84 rfl ?_
    refine j_aload_n (pc := 85) d_Counter_versesAsTold_85 rfl ?_
    refine j_getf (pc := 86) d_Counter_versesAsTold_86 (fd_Counter_58 rfl) hr (fun hr => ?_)
    obtain ⟨ha, hr⟩ := chk_some hr
    refine j_callG (pc := 89) (stk := [(0, hpV h3 v1 4), (2, v0)]) (as := [(2, v0), (0, hpV h3 v1 4)]) (P := (fun v9 => ((1 : Nat), v9) :: [])) (tg := 1) (My := M_Counter_rowsAt) (mRunV (as := [(0, hpV h3 v1 4)]) (st := []) d_Counter_versesAsTold_89 (mc_Counter_rowsAt (by decide)) rfl (mv_Counter_rowsAt tb_ml_Counter_61) rfl (Nat.le_of_ble_eq_true rfl) ha) (fun v => rfl) rfl hr (fun r1 h1 => t_Counter_rowsAt _ _ _ _ h1) (fun x5 h4 hr => ?_)
    exact j_lret (pc := 92) d_Counter_versesAsTold_92 rfl hr
def M_Nb_known : mM := ("NineBars", ⟨"NineBars", "known", "(I)J"⟩, prog_1_method_33_code, 3, some .long, [], 13)
theorem tb_co_Nb_known : mTB (Cond.code ⟨"NineBars", "known", "(I)J"⟩ prog_1_method_33_code 3 (some .long)) := tbq5 229 (by decide +kernel) rfl
theorem mc_Nb_known {M : mM} (hd : 13 < mDp M) : mCal M M_Nb_known 1 := ⟨tb_co_Nb_known, tb_in_NineBars, ⟨by decide +kernel, by decide +kernel⟩, by decide +kernel, hd, by decide⟩
theorem d_Nb_known_0 : decode prog_1_method_33_code 0 = .ok (.aload_n 0, 1) := by decide +kernel
theorem d_Nb_known_1 : decode prog_1_method_33_code 1 = .ok (.iload_n 1, 1) := by decide +kernel
theorem d_Nb_known_2 : decode prog_1_method_33_code 2 = .ok (.invokevirtual 228, 3) := by decide +kernel
theorem d_Nb_known_5 : decode prog_1_method_33_code 5 = .ok (.astore_n 2, 1) := by decide +kernel
theorem d_Nb_known_6 : decode prog_1_method_33_code 6 = .ok (.aload_n 0, 1) := by decide +kernel
theorem d_Nb_known_7 : decode prog_1_method_33_code 7 = .ok (.invokevirtual 260, 3) := by decide +kernel
theorem d_Nb_known_10 : decode prog_1_method_33_code 10 = .ok (.aload_n 2, 1) := by decide +kernel
theorem d_Nb_known_11 : decode prog_1_method_33_code 11 = .ok (.getfield 234, 3) := by decide +kernel
theorem d_Nb_known_14 : decode prog_1_method_33_code 14 = .ok (.iconst 1, 1) := by decide +kernel
theorem d_Nb_known_15 : decode prog_1_method_33_code 15 = .ok (.if_icmp .ge 14, 3) := by decide +kernel
theorem d_Nb_known_29 : decode prog_1_method_33_code 29 = .ok (.aload_n 0, 1) := by decide +kernel
theorem d_Nb_known_30 : decode prog_1_method_33_code 30 = .ok (.getfield 70, 3) := by decide +kernel
theorem d_Nb_known_33 : decode prog_1_method_33_code 33 = .ok (.aload_n 0, 1) := by decide +kernel
theorem d_Nb_known_34 : decode prog_1_method_33_code 34 = .ok (.getfield 48, 3) := by decide +kernel
theorem d_Nb_known_37 : decode prog_1_method_33_code 37 = .ok (.aload_n 0, 1) := by decide +kernel
theorem d_Nb_known_38 : decode prog_1_method_33_code 38 = .ok (.getfield 27, 3) := by decide +kernel
theorem d_Nb_known_41 : decode prog_1_method_33_code 41 = .ok (.aload_n 0, 1) := by decide +kernel
theorem d_Nb_known_42 : decode prog_1_method_33_code 42 = .ok (.getfield 27, 3) := by decide +kernel
theorem d_Nb_known_45 : decode prog_1_method_33_code 45 = .ok (.getfield 149, 3) := by decide +kernel
theorem d_Nb_known_48 : decode prog_1_method_33_code 48 = .ok (.invokevirtual 198, 3) := by decide +kernel
theorem d_Nb_known_51 : decode prog_1_method_33_code 51 = .ok (.aload_n 2, 1) := by decide +kernel
theorem d_Nb_known_52 : decode prog_1_method_33_code 52 = .ok (.invokevirtual 343, 3) := by decide +kernel
theorem tb_ml_Nb_343 : mTB (Cond.methodLink "NineBars" 343 ⟨"NineBars$Counter", "versesAsTold", "(LNineBars$Graph;ILNineBars$Tray;)J"⟩) := tbq5 231 (by decide +kernel) rfl
theorem tb_im_Counter_versesAsTold : mTB (Cond.instanceMethod ⟨"NineBars$Counter", "versesAsTold", "(LNineBars$Graph;ILNineBars$Tray;)J"⟩) := tbq5 232 (by decide +kernel) rfl
theorem tb_se_Counter_versesAsTold : mTB (Cond.selects "NineBars$Counter" ⟨"NineBars$Counter", "versesAsTold", "(LNineBars$Graph;ILNineBars$Tray;)J"⟩ ⟨"NineBars$Counter", "versesAsTold", "(LNineBars$Graph;ILNineBars$Tray;)J"⟩) := tbq5 233 (by decide +kernel) rfl
theorem mv_Counter_versesAsTold {M : mM} {idx : Nat} (h : mTB (Cond.methodLink (mO M) idx ⟨"NineBars$Counter", "versesAsTold", "(LNineBars$Graph;ILNineBars$Tray;)J"⟩)) : mCaV M M_Counter_versesAsTold idx 1 := ⟨h, tb_im_Counter_versesAsTold, tb_se_Counter_versesAsTold, by decide, TX1, 2, rfl⟩
theorem d_Nb_known_55 : decode prog_1_method_33_code 55 = .ok (.lreturn, 1) := by decide +kernel
theorem d_Nb_known_18 : decode prog_1_method_33_code 18 = .ok (.new 109, 3) := by decide +kernel
theorem d_Nb_known_21 : decode prog_1_method_33_code 21 = .ok (.dup, 1) := by decide +kernel
theorem d_Nb_known_22 : decode prog_1_method_33_code 22 = .ok (.ldc_w 341, 3) := by decide +kernel
theorem d_Nb_known_25 : decode prog_1_method_33_code 25 = .ok (.invokespecial 113, 3) := by decide +kernel
theorem d_Nb_known_28 : decode prog_1_method_33_code 28 = .ok (.athrow, 1) := by decide +kernel
theorem t_Nb_known {G : mG} (h : mH) (v0 v1 : Int) (r : mR) (hr : f_Nb_known h v0 v1 = some r) : mJM G M_Nb_known [(2, v0), (0, v1)] h r := by
  refine mJM_of (L := [(2, v0), (0, v1), (9, 0)]) rfl rfl rfl (Nat.le_of_ble_eq_true rfl) ?_
  unfold f_Nb_known at hr
  refine j_aload_n (pc := 0) d_Nb_known_0 rfl ?_
  refine j_iload_n (pc := 1) d_Nb_known_1 rfl ?_
  obtain ⟨ha, hr⟩ := chk_some hr
  refine j_callG (pc := 2) (stk := [(0, v1), (2, v0)]) (as := [(2, v0), (0, v1)]) (P := (fun v9 => ((2 : Nat), v9) :: [])) (tg := 2) (My := M_Nb_needTray) (mRunV (as := [(0, v1)]) (st := []) d_Nb_known_2 (mc_Nb_needTray (by decide)) rfl (mv_Nb_needTray tb_ml_Nb_228) rfl (Nat.le_of_ble_eq_true rfl) ha) (fun v => rfl) rfl hr (fun r1 h1 => t_Nb_needTray _ _ _ _ h1) (fun x2 h1 hr => ?_)
  refine j_astore_n (pc := 5) (ls' := [(2, v0), (0, v1), (2, x2)]) d_Nb_known_5 rfl ?_
  refine j_aload_n (pc := 6) d_Nb_known_6 rfl ?_
  obtain ⟨ha, hr⟩ := chk_some hr
  refine j_callG (pc := 7) (stk := [(2, v0)]) (as := [(2, v0)]) (P := (fun v9 => [])) (tg := 3) (My := M_Nb_needGraph) (mRunV (as := []) (st := []) d_Nb_known_7 (mc_Nb_needGraph (by decide)) rfl (mv_Nb_needGraph tb_ml_Nb_260) rfl (Nat.le_of_ble_eq_true rfl) ha) (fun v => rfl) rfl hr (fun r1 h1 => t_Nb_needGraph _ _ _ h1) (fun x4 h3 hr => ?_)
  refine j_aload_n (pc := 10) d_Nb_known_10 rfl ?_
  refine j_getf (pc := 11) d_Nb_known_11 (fd_Nb_234 rfl) hr (fun hr => ?_)
  refine j_iconst (pc := 14) d_Nb_known_14 ?_
  refine j_icmp_ge (pc := 15) (tgt := 29) d_Nb_known_15 hr (fun hr => ?_) (fun hr => ?_)
  · refine j_aload_n (pc := 29) d_Nb_known_29 rfl ?_
    refine j_getf (pc := 30) d_Nb_known_30 (fd_Nb_70 rfl) hr (fun hr => ?_)
    refine j_aload_n (pc := 33) d_Nb_known_33 rfl ?_
    refine j_getf (pc := 34) d_Nb_known_34 (fd_Nb_48 rfl) hr (fun hr => ?_)
    refine j_aload_n (pc := 37) d_Nb_known_37 rfl ?_
    refine j_getf (pc := 38) d_Nb_known_38 (fd_Nb_27 rfl) hr (fun hr => ?_)
    refine j_aload_n (pc := 41) d_Nb_known_41 rfl ?_
    refine j_getf (pc := 42) d_Nb_known_42 (fd_Nb_27 rfl) hr (fun hr => ?_)
    refine j_getf (pc := 45) d_Nb_known_45 (fd_Nb_149 rfl) hr (fun hr => ?_)
    obtain ⟨ha, hr⟩ := chk_some hr
    refine j_callG (pc := 48) (stk := [(2, hpV h3 (hpV h3 v0 6) 9), (2, hpV h3 v0 6), (2, hpV h3 v0 10), (2, hpV h3 v0 14)]) (as := [(2, hpV h3 v0 6), (2, hpV h3 (hpV h3 v0 6) 9)]) (P := (fun v9 => ((0 : Nat), v9) :: [(2, hpV h3 v0 10), (2, hpV h3 v0 14)])) (tg := 0) (My := M_Box_standOf) (mRunV (as := [(2, hpV h3 (hpV h3 v0 6) 9)]) (st := [(2, hpV h3 v0 10), (2, hpV h3 v0 14)]) d_Nb_known_48 (mc_Box_standOf (by decide)) rfl (mv_Box_standOf tb_ml_Nb_198) rfl (Nat.le_of_ble_eq_true rfl) ha) (fun v => rfl) rfl hr (fun r1 h1 => t_Box_standOf _ _ _ _ h1) (fun x6 h5 hr => ?_)
    refine j_aload_n (pc := 51) d_Nb_known_51 rfl ?_
    obtain ⟨ha, hr⟩ := chk_some hr
    refine j_callG (pc := 52) (stk := [(2, x2), (0, x6), (2, hpV h3 v0 10), (2, hpV h3 v0 14)]) (as := [(2, hpV h3 v0 14), (2, hpV h3 v0 10), (0, x6), (2, x2)]) (P := (fun v9 => ((1 : Nat), v9) :: [])) (tg := 1) (My := M_Counter_versesAsTold) (mRunV (as := [(2, hpV h3 v0 10), (0, x6), (2, x2)]) (st := []) d_Nb_known_52 (mc_Counter_versesAsTold (by decide)) rfl (mv_Counter_versesAsTold tb_ml_Nb_343) rfl (Nat.le_of_ble_eq_true rfl) ha) (fun v => rfl) rfl hr (fun r1 h1 => t_Counter_versesAsTold _ _ _ _ _ _ h1) (fun x8 h7 hr => ?_)
    exact j_lret (pc := 55) d_Nb_known_55 rfl hr
  · exact j_throwW (pc := 18) (x9 := 7) (text := "not 1 to 40 numbers") (k := 28) d_Nb_known_18 d_Nb_known_21 d_Nb_known_22 d_Nb_known_25 d_Nb_known_28 rfl (by decide +kernel) tb_cl_Nb_109 tb_in_java_lang_IllegalArgumentException (by decide +kernel) rfl (Nat.le_of_ble_eq_true rfl) hr
def M_Graph_leads : mM := ("NineBars$Graph", ⟨"NineBars$Graph", "leads", "(II)Z"⟩, prog_6_method_11_code, 4, some .boolean, [], 5)
theorem tb_co_Graph_leads : mTB (Cond.code ⟨"NineBars$Graph", "leads", "(II)Z"⟩ prog_6_method_11_code 4 (some .boolean)) := tbq6 31 (by decide +kernel) rfl
theorem mc_Graph_leads {M : mM} (hd : 5 < mDp M) : mCal M M_Graph_leads 2 := ⟨tb_co_Graph_leads, tb_in_NineBars_Graph, ⟨by decide +kernel, by decide +kernel⟩, by decide +kernel, hd, by decide⟩
theorem d_Graph_leads_0 : decode prog_6_method_11_code 0 = .ok (.iconst 0, 1) := by decide +kernel
theorem d_Graph_leads_1 : decode prog_6_method_11_code 1 = .ok (.istore_n 3, 1) := by decide +kernel
theorem d_Graph_leads_2 : decode prog_6_method_11_code 2 = .ok (.iload_n 3, 1) := by decide +kernel
theorem d_Graph_leads_3 : decode prog_6_method_11_code 3 = .ok (.aload_n 0, 1) := by decide +kernel
theorem d_Graph_leads_4 : decode prog_6_method_11_code 4 = .ok (.getfield 70, 3) := by decide +kernel
theorem d_Graph_leads_7 : decode prog_6_method_11_code 7 = .ok (.if_icmp .ge 32, 3) := by decide +kernel
theorem d_Graph_leads_39 : decode prog_6_method_11_code 39 = .ok (.iconst 0, 1) := by decide +kernel
theorem d_Graph_leads_40 : decode prog_6_method_11_code 40 = .ok (.ireturn, 1) := by decide +kernel
theorem d_Graph_leads_10 : decode prog_6_method_11_code 10 = .ok (.iload_n 1, 1) := by decide +kernel
theorem d_Graph_leads_11 : decode prog_6_method_11_code 11 = .ok (.aload_n 0, 1) := by decide +kernel
theorem d_Graph_leads_12 : decode prog_6_method_11_code 12 = .ok (.getfield 18, 3) := by decide +kernel
theorem d_Graph_leads_15 : decode prog_6_method_11_code 15 = .ok (.iload_n 3, 1) := by decide +kernel
theorem d_Graph_leads_16 : decode prog_6_method_11_code 16 = .ok (.iaload, 1) := by decide +kernel
theorem d_Graph_leads_17 : decode prog_6_method_11_code 17 = .ok (.iadd, 1) := by decide +kernel
theorem d_Graph_leads_18 : decode prog_6_method_11_code 18 = .ok (.iload_n 2, 1) := by decide +kernel
theorem d_Graph_leads_19 : decode prog_6_method_11_code 19 = .ok (.if_icmp .ne 14, 3) := by decide +kernel
theorem d_Graph_leads_33 : decode prog_6_method_11_code 33 = .ok (.iinc 3 1, 3) := by decide +kernel
theorem d_Graph_leads_36 : decode prog_6_method_11_code 36 = .ok (.goto (-34), 3) := by decide +kernel
theorem d_Graph_leads_22 : decode prog_6_method_11_code 22 = .ok (.aload_n 0, 1) := by decide +kernel
theorem d_Graph_leads_23 : decode prog_6_method_11_code 23 = .ok (.iload_n 1, 1) := by decide +kernel
theorem d_Graph_leads_24 : decode prog_6_method_11_code 24 = .ok (.iload_n 3, 1) := by decide +kernel
theorem d_Graph_leads_25 : decode prog_6_method_11_code 25 = .ok (.invokevirtual 110, 3) := by decide +kernel
theorem d_Graph_leads_28 : decode prog_6_method_11_code 28 = .ok (.ifCond .eq 5, 3) := by decide +kernel
theorem d_Graph_leads_31 : decode prog_6_method_11_code 31 = .ok (.iconst 1, 1) := by decide +kernel
theorem d_Graph_leads_32 : decode prog_6_method_11_code 32 = .ok (.ireturn, 1) := by decide +kernel
theorem t_Graph_leads_J33 {G : mG} {r : mR} {v0 v1 v2 v3 : Int} {h : mH} {R2 : mH → Int → Option mR} (hR2 : ∀ (h : mH) (w3 : Int) , R2 h w3 = some r → mJ G M_Graph_leads 2 [(2, v0), (0, v1), (0, v2), (0, w3)] [] h r) (hr : f_Graph_leads_J33 R2 v3 h = some r) : mJ G M_Graph_leads 33 [(2, v0), (0, v1), (0, v2), (0, v3)] [] h r := by
  unfold f_Graph_leads_J33 at hr
  refine j_iincW (pc := 33) (L := fun x1 => [(2, v0), (0, v1), (0, v2), (0, x1)]) d_Graph_leads_33 rfl (fun _ => rfl) hr (fun x1 hr => ?_)
  refine j_goto (pc := 36) (tgt := 2) d_Graph_leads_36 ?_
  exact mJ_weak (ls' := [(2, v0), (0, v1), (0, v2), (0, x1)]) (mwk_s (mwk_s (mwk_s (mwk_s mwk_n)))) (hR2 h _ hr)
theorem t_Graph_leads_L2 {G : mG} {r : mR} {v0 v1 v2 : Int}  : ∀ (n : Nat) (h : mH) (v3 : Int), f_Graph_leads_L2 v0 v1 v2 n h v3 = some r → mJ G M_Graph_leads 2 [(2, v0), (0, v1), (0, v2), (0, v3)] [] h r := by
  intro n
  induction n with
  | zero =>
    intro h v3 hr
    rw [f_Graph_leads_L2] at hr
    cases hr
  | succ n hR2 =>
    intro h v3 hr
    rw [f_Graph_leads_L2] at hr
    refine j_iload_n (pc := 2) d_Graph_leads_2 rfl ?_
    refine j_aload_n (pc := 3) d_Graph_leads_3 rfl ?_
    refine j_getf (pc := 4) d_Graph_leads_4 (fd_Graph_70 rfl) hr (fun hr => ?_)
    refine j_icmp_ge (pc := 7) (tgt := 39) d_Graph_leads_7 hr (fun hr => ?_) (fun hr => ?_)
    · refine j_iconst (pc := 39) d_Graph_leads_39 ?_
      exact j_zret (pc := 40) d_Graph_leads_40 rfl hr
    · refine j_iload_n (pc := 10) d_Graph_leads_10 rfl ?_
      refine j_aload_n (pc := 11) d_Graph_leads_11 rfl ?_
      refine j_getf (pc := 12) d_Graph_leads_12 (fd_Graph_18 rfl) hr (fun hr => ?_)
      refine j_iload_n (pc := 15) d_Graph_leads_15 rfl ?_
      refine j_iaload (pc := 16) d_Graph_leads_16 hr (fun hr => ?_)
      refine j_iadd (pc := 17) d_Graph_leads_17 ?_
      refine j_iload_n (pc := 18) d_Graph_leads_18 rfl ?_
      refine j_icmp_ne (pc := 19) (tgt := 33) d_Graph_leads_19 hr (fun hr => ?_) (fun hr => ?_)
      · exact mJ_weak (ls' := [(2, v0), (0, v1), (0, v2), (0, v3)]) (mwk_s (mwk_s (mwk_s (mwk_s mwk_n)))) (t_Graph_leads_J33 hR2 hr)
      · refine j_aload_n (pc := 22) d_Graph_leads_22 rfl ?_
        refine j_iload_n (pc := 23) d_Graph_leads_23 rfl ?_
        refine j_iload_n (pc := 24) d_Graph_leads_24 rfl ?_
        obtain ⟨ha, hr⟩ := chk_some hr
        refine j_callG (pc := 25) (stk := [(0, v3), (0, v1), (2, v0)]) (as := [(2, v0), (0, v1), (0, v3)]) (P := (fun v9 => ((0 : Nat), v9) :: [])) (tg := 0) (My := M_Graph_goesFrom) (mRunV (as := [(0, v1), (0, v3)]) (st := []) d_Graph_leads_25 (mc_Graph_goesFrom (by decide)) rfl (mv_Graph_goesFrom tb_ml_Graph_110) rfl (Nat.le_of_ble_eq_true rfl) ha) (fun v => rfl) rfl hr (fun r1 h1 => t_Graph_goesFrom _ _ _ _ _ h1) (fun x2 h1 hr => ?_)
        refine j_if_eq (pc := 28) (tgt := 33) d_Graph_leads_28 hr (fun hr => ?_) (fun hr => ?_)
        · exact mJ_weak (ls' := [(2, v0), (0, v1), (0, v2), (0, v3)]) (mwk_s (mwk_s (mwk_s (mwk_s mwk_n)))) (t_Graph_leads_J33 hR2 hr)
        · refine j_iconst (pc := 31) d_Graph_leads_31 ?_
          exact j_zret (pc := 32) d_Graph_leads_32 rfl hr
theorem t_Graph_leads {G : mG} (h : mH) (v0 v1 v2 : Int) (r : mR) (hr : f_Graph_leads h v0 v1 v2 = some r) : mJM G M_Graph_leads [(2, v0), (0, v1), (0, v2)] h r := by
  refine mJM_of (L := [(2, v0), (0, v1), (0, v2), (9, 0)]) rfl rfl rfl (Nat.le_of_ble_eq_true rfl) ?_
  unfold f_Graph_leads at hr
  refine j_iconst (pc := 0) d_Graph_leads_0 ?_
  refine j_istore_n (pc := 1) (ls' := [(2, v0), (0, v1), (0, v2), (0, 0)]) d_Graph_leads_1 rfl ?_
  refine mJ_weak (ls' := [(2, v0), (0, v1), (0, v2), (0, 0)]) (mwk_s (mwk_s (mwk_s (mwk_s mwk_n)))) (t_Graph_leads_L2  _ _ _ hr)
def M_Kept_seekWith : mM := ("NineBars$Kept", ⟨"NineBars$Kept", "seekWith", "(LNineBars$Graph;I)V"⟩, prog_7_method_4_code, 6, none, [], 7)
theorem tb_co_Kept_seekWith : mTB (Cond.code ⟨"NineBars$Kept", "seekWith", "(LNineBars$Graph;I)V"⟩ prog_7_method_4_code 6 (none)) := tbq6 26 (by decide +kernel) rfl
theorem mc_Kept_seekWith {M : mM} (hd : 7 < mDp M) : mCal M M_Kept_seekWith 2 := ⟨tb_co_Kept_seekWith, tb_in_NineBars_Kept, ⟨by decide +kernel, by decide +kernel⟩, by decide +kernel, hd, by decide⟩
theorem d_Kept_seekWith_0 : decode prog_7_method_4_code 0 = .ok (.iconst 0, 1) := by decide +kernel
theorem d_Kept_seekWith_1 : decode prog_7_method_4_code 1 = .ok (.istore_n 3, 1) := by decide +kernel
theorem d_Kept_seekWith_2 : decode prog_7_method_4_code 2 = .ok (.iload_n 3, 1) := by decide +kernel
theorem d_Kept_seekWith_3 : decode prog_7_method_4_code 3 = .ok (.aload_n 0, 1) := by decide +kernel
theorem d_Kept_seekWith_4 : decode prog_7_method_4_code 4 = .ok (.getfield 18, 3) := by decide +kernel
theorem d_Kept_seekWith_7 : decode prog_7_method_4_code 7 = .ok (.arraylength, 1) := by decide +kernel
theorem d_Kept_seekWith_8 : decode prog_7_method_4_code 8 = .ok (.if_icmp .ge 44, 3) := by decide +kernel
theorem d_Kept_seekWith_11 : decode prog_7_method_4_code 11 = .ok (.aload_n 0, 1) := by decide +kernel
theorem d_Kept_seekWith_12 : decode prog_7_method_4_code 12 = .ok (.getfield 18, 3) := by decide +kernel
theorem d_Kept_seekWith_15 : decode prog_7_method_4_code 15 = .ok (.iload_n 3, 1) := by decide +kernel
theorem d_Kept_seekWith_16 : decode prog_7_method_4_code 16 = .ok (.aload_n 1, 1) := by decide +kernel
theorem d_Kept_seekWith_17 : decode prog_7_method_4_code 17 = .ok (.aload_n 0, 1) := by decide +kernel
theorem d_Kept_seekWith_18 : decode prog_7_method_4_code 18 = .ok (.getfield 15, 3) := by decide +kernel
theorem d_Kept_seekWith_21 : decode prog_7_method_4_code 21 = .ok (.iload_n 2, 1) := by decide +kernel
theorem d_Kept_seekWith_22 : decode prog_7_method_4_code 22 = .ok (.iaload, 1) := by decide +kernel
theorem d_Kept_seekWith_23 : decode prog_7_method_4_code 23 = .ok (.iload_n 3, 1) := by decide +kernel
theorem d_Kept_seekWith_24 : decode prog_7_method_4_code 24 = .ok (.invokevirtual 62, 3) := by decide +kernel
theorem tb_ml_Kept_62 : mTB (Cond.methodLink "NineBars$Kept" 62 ⟨"NineBars$Graph", "goesFrom", "(II)Z"⟩) := tbq6 27 (by decide +kernel) rfl
theorem d_Kept_seekWith_27 : decode prog_7_method_4_code 27 = .ok (.ifCond .eq 17, 3) := by decide +kernel
theorem d_Kept_seekWith_44 : decode prog_7_method_4_code 44 = .ok (.iconst (-1), 1) := by decide +kernel
theorem d_Kept_seekWith_45 : decode prog_7_method_4_code 45 = .ok (.iastore, 1) := by decide +kernel
theorem d_Kept_seekWith_46 : decode prog_7_method_4_code 46 = .ok (.iinc 3 1, 3) := by decide +kernel
theorem d_Kept_seekWith_49 : decode prog_7_method_4_code 49 = .ok (.goto (-47), 3) := by decide +kernel
theorem d_Kept_seekWith_30 : decode prog_7_method_4_code 30 = .ok (.aload_n 1, 1) := by decide +kernel
theorem d_Kept_seekWith_31 : decode prog_7_method_4_code 31 = .ok (.aload_n 0, 1) := by decide +kernel
theorem d_Kept_seekWith_32 : decode prog_7_method_4_code 32 = .ok (.getfield 15, 3) := by decide +kernel
theorem d_Kept_seekWith_35 : decode prog_7_method_4_code 35 = .ok (.iload_n 2, 1) := by decide +kernel
theorem d_Kept_seekWith_36 : decode prog_7_method_4_code 36 = .ok (.iaload, 1) := by decide +kernel
theorem d_Kept_seekWith_37 : decode prog_7_method_4_code 37 = .ok (.iload_n 3, 1) := by decide +kernel
theorem d_Kept_seekWith_38 : decode prog_7_method_4_code 38 = .ok (.invokevirtual 44, 3) := by decide +kernel
theorem tb_ml_Kept_44 : mTB (Cond.methodLink "NineBars$Kept" 44 ⟨"NineBars$Graph", "behind", "(II)I"⟩) := tbq6 18 (by decide +kernel) rfl
theorem d_Kept_seekWith_41 : decode prog_7_method_4_code 41 = .ok (.goto 4, 3) := by decide +kernel
theorem d_Kept_seekWith_52 : decode prog_7_method_4_code 52 = .ok (.iload_n 2, 1) := by decide +kernel
theorem d_Kept_seekWith_53 : decode prog_7_method_4_code 53 = .ok (.iconst 1, 1) := by decide +kernel
theorem d_Kept_seekWith_54 : decode prog_7_method_4_code 54 = .ok (.iadd, 1) := by decide +kernel
theorem d_Kept_seekWith_55 : decode prog_7_method_4_code 55 = .ok (.istore_n 3, 1) := by decide +kernel
theorem d_Kept_seekWith_56 : decode prog_7_method_4_code 56 = .ok (.iload_n 3, 1) := by decide +kernel
theorem d_Kept_seekWith_57 : decode prog_7_method_4_code 57 = .ok (.aload_n 0, 1) := by decide +kernel
theorem tb_fl_Kept_36 : mTB (Cond.fieldLink "NineBars$Kept" 36 "NineBars$Kept" "length" "I") := tbq2 106 (by decide +kernel) rfl
theorem fd_Kept_36 {M : mM} (h : mO M = "NineBars$Kept") : mFld M 36 5 3 0 := ⟨_, _, _, tyX5, rfl, by decide, by decide, rfl, uw_5, tyX5_ok, nmX5, by rw [h]; exact Or.inl tb_fl_Kept_36⟩
theorem d_Kept_seekWith_58 : decode prog_7_method_4_code 58 = .ok (.getfield 36, 3) := by decide +kernel
theorem d_Kept_seekWith_61 : decode prog_7_method_4_code 61 = .ok (.if_icmp .ge 147, 3) := by decide +kernel
theorem d_Kept_seekWith_208 : decode prog_7_method_4_code 208 = .ok (.return_, 1) := by decide +kernel
theorem d_Kept_seekWith_64 : decode prog_7_method_4_code 64 = .ok (.iconst 0, 1) := by decide +kernel
theorem d_Kept_seekWith_65 : decode prog_7_method_4_code 65 = .ok (.istore 4, 2) := by decide +kernel
theorem d_Kept_seekWith_67 : decode prog_7_method_4_code 67 = .ok (.iconst 0, 1) := by decide +kernel
theorem d_Kept_seekWith_68 : decode prog_7_method_4_code 68 = .ok (.istore 5, 2) := by decide +kernel
theorem d_Kept_seekWith_70 : decode prog_7_method_4_code 70 = .ok (.iload 5, 2) := by decide +kernel
theorem d_Kept_seekWith_72 : decode prog_7_method_4_code 72 = .ok (.aload_n 0, 1) := by decide +kernel
theorem d_Kept_seekWith_73 : decode prog_7_method_4_code 73 = .ok (.getfield 18, 3) := by decide +kernel
theorem d_Kept_seekWith_76 : decode prog_7_method_4_code 76 = .ok (.arraylength, 1) := by decide +kernel
theorem d_Kept_seekWith_77 : decode prog_7_method_4_code 77 = .ok (.if_icmp .ge 100, 3) := by decide +kernel
theorem d_Kept_seekWith_80 : decode prog_7_method_4_code 80 = .ok (.iload 4, 2) := by decide +kernel
theorem d_Kept_seekWith_82 : decode prog_7_method_4_code 82 = .ok (.aload_n 0, 1) := by decide +kernel
theorem d_Kept_seekWith_83 : decode prog_7_method_4_code 83 = .ok (.getfield 18, 3) := by decide +kernel
theorem d_Kept_seekWith_86 : decode prog_7_method_4_code 86 = .ok (.iload 5, 2) := by decide +kernel
theorem d_Kept_seekWith_88 : decode prog_7_method_4_code 88 = .ok (.iaload, 1) := by decide +kernel
theorem d_Kept_seekWith_89 : decode prog_7_method_4_code 89 = .ok (.iconst (-1), 1) := by decide +kernel
theorem d_Kept_seekWith_90 : decode prog_7_method_4_code 90 = .ok (.if_icmp .eq 29, 3) := by decide +kernel
theorem d_Kept_seekWith_119 : decode prog_7_method_4_code 119 = .ok (.iconst 0, 1) := by decide +kernel
theorem d_Kept_seekWith_120 : decode prog_7_method_4_code 120 = .ok (.iadd, 1) := by decide +kernel
theorem d_Kept_seekWith_121 : decode prog_7_method_4_code 121 = .ok (.istore 4, 2) := by decide +kernel
theorem d_Kept_seekWith_123 : decode prog_7_method_4_code 123 = .ok (.aload_n 0, 1) := by decide +kernel
theorem d_Kept_seekWith_124 : decode prog_7_method_4_code 124 = .ok (.getfield 18, 3) := by decide +kernel
theorem d_Kept_seekWith_127 : decode prog_7_method_4_code 127 = .ok (.iload 5, 2) := by decide +kernel
theorem d_Kept_seekWith_129 : decode prog_7_method_4_code 129 = .ok (.aload_n 1, 1) := by decide +kernel
theorem d_Kept_seekWith_130 : decode prog_7_method_4_code 130 = .ok (.aload_n 0, 1) := by decide +kernel
theorem d_Kept_seekWith_131 : decode prog_7_method_4_code 131 = .ok (.getfield 18, 3) := by decide +kernel
theorem d_Kept_seekWith_134 : decode prog_7_method_4_code 134 = .ok (.iload 5, 2) := by decide +kernel
theorem d_Kept_seekWith_136 : decode prog_7_method_4_code 136 = .ok (.iaload, 1) := by decide +kernel
theorem d_Kept_seekWith_137 : decode prog_7_method_4_code 137 = .ok (.aload_n 0, 1) := by decide +kernel
theorem d_Kept_seekWith_138 : decode prog_7_method_4_code 138 = .ok (.getfield 9, 3) := by decide +kernel
theorem d_Kept_seekWith_141 : decode prog_7_method_4_code 141 = .ok (.iload_n 3, 1) := by decide +kernel
theorem d_Kept_seekWith_142 : decode prog_7_method_4_code 142 = .ok (.iaload, 1) := by decide +kernel
theorem d_Kept_seekWith_143 : decode prog_7_method_4_code 143 = .ok (.invokevirtual 62, 3) := by decide +kernel
theorem d_Kept_seekWith_146 : decode prog_7_method_4_code 146 = .ok (.ifCond .eq 23, 3) := by decide +kernel
theorem d_Kept_seekWith_169 : decode prog_7_method_4_code 169 = .ok (.iconst (-1), 1) := by decide +kernel
theorem d_Kept_seekWith_170 : decode prog_7_method_4_code 170 = .ok (.iastore, 1) := by decide +kernel
theorem d_Kept_seekWith_171 : decode prog_7_method_4_code 171 = .ok (.iinc 5 1, 3) := by decide +kernel
theorem d_Kept_seekWith_174 : decode prog_7_method_4_code 174 = .ok (.goto (-104), 3) := by decide +kernel
theorem d_Kept_seekWith_149 : decode prog_7_method_4_code 149 = .ok (.aload_n 1, 1) := by decide +kernel
theorem d_Kept_seekWith_150 : decode prog_7_method_4_code 150 = .ok (.aload_n 0, 1) := by decide +kernel
theorem d_Kept_seekWith_151 : decode prog_7_method_4_code 151 = .ok (.getfield 18, 3) := by decide +kernel
theorem d_Kept_seekWith_154 : decode prog_7_method_4_code 154 = .ok (.iload 5, 2) := by decide +kernel
theorem d_Kept_seekWith_156 : decode prog_7_method_4_code 156 = .ok (.iaload, 1) := by decide +kernel
theorem d_Kept_seekWith_157 : decode prog_7_method_4_code 157 = .ok (.aload_n 0, 1) := by decide +kernel
theorem d_Kept_seekWith_158 : decode prog_7_method_4_code 158 = .ok (.getfield 9, 3) := by decide +kernel
theorem d_Kept_seekWith_161 : decode prog_7_method_4_code 161 = .ok (.iload_n 3, 1) := by decide +kernel
theorem d_Kept_seekWith_162 : decode prog_7_method_4_code 162 = .ok (.iaload, 1) := by decide +kernel
theorem d_Kept_seekWith_163 : decode prog_7_method_4_code 163 = .ok (.invokevirtual 44, 3) := by decide +kernel
theorem d_Kept_seekWith_166 : decode prog_7_method_4_code 166 = .ok (.goto 4, 3) := by decide +kernel
theorem d_Kept_seekWith_93 : decode prog_7_method_4_code 93 = .ok (.aload_n 1, 1) := by decide +kernel
theorem d_Kept_seekWith_94 : decode prog_7_method_4_code 94 = .ok (.aload_n 0, 1) := by decide +kernel
theorem d_Kept_seekWith_95 : decode prog_7_method_4_code 95 = .ok (.getfield 18, 3) := by decide +kernel
theorem d_Kept_seekWith_98 : decode prog_7_method_4_code 98 = .ok (.iload 5, 2) := by decide +kernel
theorem d_Kept_seekWith_100 : decode prog_7_method_4_code 100 = .ok (.iaload, 1) := by decide +kernel
theorem d_Kept_seekWith_101 : decode prog_7_method_4_code 101 = .ok (.aload_n 0, 1) := by decide +kernel
theorem d_Kept_seekWith_102 : decode prog_7_method_4_code 102 = .ok (.getfield 15, 3) := by decide +kernel
theorem d_Kept_seekWith_105 : decode prog_7_method_4_code 105 = .ok (.iload_n 3, 1) := by decide +kernel
theorem d_Kept_seekWith_106 : decode prog_7_method_4_code 106 = .ok (.iconst 1, 1) := by decide +kernel
theorem d_Kept_seekWith_107 : decode prog_7_method_4_code 107 = .ok (.iadd, 1) := by decide +kernel
theorem d_Kept_seekWith_108 : decode prog_7_method_4_code 108 = .ok (.iaload, 1) := by decide +kernel
theorem d_Kept_seekWith_109 : decode prog_7_method_4_code 109 = .ok (.invokevirtual 66, 3) := by decide +kernel
theorem tb_ml_Kept_66 : mTB (Cond.methodLink "NineBars$Kept" 66 ⟨"NineBars$Graph", "leads", "(II)Z"⟩) := tbq6 28 (by decide +kernel) rfl
theorem tb_im_Graph_leads : mTB (Cond.instanceMethod ⟨"NineBars$Graph", "leads", "(II)Z"⟩) := tbq6 29 (by decide +kernel) rfl
theorem tb_se_Graph_leads : mTB (Cond.selects "NineBars$Graph" ⟨"NineBars$Graph", "leads", "(II)Z"⟩ ⟨"NineBars$Graph", "leads", "(II)Z"⟩) := tbq6 30 (by decide +kernel) rfl
theorem mv_Graph_leads {M : mM} {idx : Nat} (h : mTB (Cond.methodLink (mO M) idx ⟨"NineBars$Graph", "leads", "(II)Z"⟩)) : mCaV M M_Graph_leads idx 4 := ⟨h, tb_im_Graph_leads, tb_se_Graph_leads, by decide, TX4, 11, rfl⟩
theorem d_Kept_seekWith_112 : decode prog_7_method_4_code 112 = .ok (.ifCond .eq 7, 3) := by decide +kernel
theorem d_Kept_seekWith_115 : decode prog_7_method_4_code 115 = .ok (.iconst 1, 1) := by decide +kernel
theorem d_Kept_seekWith_116 : decode prog_7_method_4_code 116 = .ok (.goto 4, 3) := by decide +kernel
theorem d_Kept_seekWith_177 : decode prog_7_method_4_code 177 = .ok (.iload 4, 2) := by decide +kernel
theorem d_Kept_seekWith_179 : decode prog_7_method_4_code 179 = .ok (.aload_n 0, 1) := by decide +kernel
theorem tb_fl_Kept_49 : mTB (Cond.fieldLink "NineBars$Kept" 49 "NineBars$Kept" "most" "I") := tbq2 107 (by decide +kernel) rfl
theorem fd_Kept_49 {M : mM} (h : mO M = "NineBars$Kept") : mFld M 49 5 4 0 := ⟨_, _, _, tyX5, rfl, by decide, by decide, rfl, uw_5, tyX5_ok, nmX5, by rw [h]; exact Or.inl tb_fl_Kept_49⟩
theorem d_Kept_seekWith_180 : decode prog_7_method_4_code 180 = .ok (.getfield 49, 3) := by decide +kernel
theorem d_Kept_seekWith_183 : decode prog_7_method_4_code 183 = .ok (.if_icmp .le 19, 3) := by decide +kernel
theorem d_Kept_seekWith_202 : decode prog_7_method_4_code 202 = .ok (.iinc 3 1, 3) := by decide +kernel
theorem d_Kept_seekWith_205 : decode prog_7_method_4_code 205 = .ok (.goto (-149), 3) := by decide +kernel
theorem d_Kept_seekWith_186 : decode prog_7_method_4_code 186 = .ok (.aload_n 0, 1) := by decide +kernel
theorem d_Kept_seekWith_187 : decode prog_7_method_4_code 187 = .ok (.iload 4, 2) := by decide +kernel
theorem d_Kept_seekWith_189 : decode prog_7_method_4_code 189 = .ok (.putfield 49, 3) := by decide +kernel
theorem d_Kept_seekWith_192 : decode prog_7_method_4_code 192 = .ok (.aload_n 0, 1) := by decide +kernel
theorem d_Kept_seekWith_193 : decode prog_7_method_4_code 193 = .ok (.iload_n 2, 1) := by decide +kernel
theorem tb_fl_Kept_52 : mTB (Cond.fieldLink "NineBars$Kept" 52 "NineBars$Kept" "first" "I") := tbq2 109 (by decide +kernel) rfl
theorem fd_Kept_52 {M : mM} (h : mO M = "NineBars$Kept") : mFld M 52 5 5 0 := ⟨_, _, _, tyX5, rfl, by decide, by decide, rfl, uw_5, tyX5_ok, nmX5, by rw [h]; exact Or.inl tb_fl_Kept_52⟩
theorem d_Kept_seekWith_194 : decode prog_7_method_4_code 194 = .ok (.putfield 52, 3) := by decide +kernel
theorem d_Kept_seekWith_197 : decode prog_7_method_4_code 197 = .ok (.aload_n 0, 1) := by decide +kernel
theorem d_Kept_seekWith_198 : decode prog_7_method_4_code 198 = .ok (.iload_n 3, 1) := by decide +kernel
theorem tb_fl_Kept_55 : mTB (Cond.fieldLink "NineBars$Kept" 55 "NineBars$Kept" "second" "I") := tbq2 111 (by decide +kernel) rfl
theorem fd_Kept_55 {M : mM} (h : mO M = "NineBars$Kept") : mFld M 55 5 6 0 := ⟨_, _, _, tyX5, rfl, by decide, by decide, rfl, uw_5, tyX5_ok, nmX5, by rw [h]; exact Or.inl tb_fl_Kept_55⟩
theorem d_Kept_seekWith_199 : decode prog_7_method_4_code 199 = .ok (.putfield 55, 3) := by decide +kernel
theorem t_Kept_seekWith_J45 {G : mG} {r : mR} {v0 v1 v2 v3 s0 s1 s2 : Int} {h : mH} {R2 : mH → Int → Option mR} (hR2 : ∀ (h : mH) (w3 : Int) , R2 h w3 = some r → mJ G M_Kept_seekWith 2 [(2, v0), (2, v1), (0, v2), (0, w3), (9, 0), (9, 0)] [] h r) (hr : f_Kept_seekWith_J45 R2 v3 s0 s1 s2 h = some r) : mJ G M_Kept_seekWith 45 [(2, v0), (2, v1), (0, v2), (0, v3), (9, 0), (9, 0)] [(0, s2), (0, s1), (2, s0)] h r := by
  unfold f_Kept_seekWith_J45 at hr
  refine j_iastore (pc := 45) d_Kept_seekWith_45 hr (fun h1 hr => ?_)
  refine j_iincW (pc := 46) (L := fun x2 => [(2, v0), (2, v1), (0, v2), (0, x2), (9, 0), (9, 0)]) d_Kept_seekWith_46 rfl (fun _ => rfl) hr (fun x2 hr => ?_)
  refine j_goto (pc := 49) (tgt := 2) d_Kept_seekWith_49 ?_
  exact mJ_weak (ls' := [(2, v0), (2, v1), (0, v2), (0, x2), (9, 0), (9, 0)]) (mwk_s (mwk_s (mwk_s (mwk_s (mwk_s (mwk_s mwk_n)))))) (hR2 h1 _ hr)
theorem t_Kept_seekWith_L2 {G : mG} {r : mR} {v0 v1 v2 : Int} {K52 : mH → Option mR} (hK52 : ∀ (h : mH) , K52 h  = some r → mJ G M_Kept_seekWith 52 [(2, v0), (2, v1), (0, v2), (9, 0), (9, 0), (9, 0)] [] h r) : ∀ (n : Nat) (h : mH) (v3 : Int), f_Kept_seekWith_L2 K52 v0 v1 v2 n h v3 = some r → mJ G M_Kept_seekWith 2 [(2, v0), (2, v1), (0, v2), (0, v3), (9, 0), (9, 0)] [] h r := by
  intro n
  induction n with
  | zero =>
    intro h v3 hr
    rw [f_Kept_seekWith_L2] at hr
    cases hr
  | succ n hR2 =>
    intro h v3 hr
    rw [f_Kept_seekWith_L2] at hr
    refine j_iload_n (pc := 2) d_Kept_seekWith_2 rfl ?_
    refine j_aload_n (pc := 3) d_Kept_seekWith_3 rfl ?_
    refine j_getf (pc := 4) d_Kept_seekWith_4 (fd_Kept_18 rfl) hr (fun hr => ?_)
    refine j_alen (pc := 7) d_Kept_seekWith_7 hr (fun hr => ?_)
    refine j_icmp_ge (pc := 8) (tgt := 52) d_Kept_seekWith_8 hr (fun hr => ?_) (fun hr => ?_)
    · exact mJ_weak (ls' := [(2, v0), (2, v1), (0, v2), (9, 0), (9, 0), (9, 0)]) (mwk_s (mwk_s (mwk_s (mwk_d (mwk_s (mwk_s mwk_n)))))) (hK52 h  hr)
    · refine j_aload_n (pc := 11) d_Kept_seekWith_11 rfl ?_
      refine j_getf (pc := 12) d_Kept_seekWith_12 (fd_Kept_18 rfl) hr (fun hr => ?_)
      refine j_iload_n (pc := 15) d_Kept_seekWith_15 rfl ?_
      refine j_aload_n (pc := 16) d_Kept_seekWith_16 rfl ?_
      refine j_aload_n (pc := 17) d_Kept_seekWith_17 rfl ?_
      refine j_getf (pc := 18) d_Kept_seekWith_18 (fd_Kept_15 rfl) hr (fun hr => ?_)
      refine j_iload_n (pc := 21) d_Kept_seekWith_21 rfl ?_
      refine j_iaload (pc := 22) d_Kept_seekWith_22 hr (fun hr => ?_)
      refine j_iload_n (pc := 23) d_Kept_seekWith_23 rfl ?_
      obtain ⟨ha, hr⟩ := chk_some hr
      refine j_callG (pc := 24) (stk := [(0, v3), (0, hpV h (hpV h v0 1) v2), (2, v1), (0, v3), (2, hpV h v0 2)]) (as := [(2, v1), (0, hpV h (hpV h v0 1) v2), (0, v3)]) (P := (fun v9 => ((0 : Nat), v9) :: [(0, v3), (2, hpV h v0 2)])) (tg := 0) (My := M_Graph_goesFrom) (mRunV (as := [(0, hpV h (hpV h v0 1) v2), (0, v3)]) (st := [(0, v3), (2, hpV h v0 2)]) d_Kept_seekWith_24 (mc_Graph_goesFrom (by decide)) rfl (mv_Graph_goesFrom tb_ml_Kept_62) rfl (Nat.le_of_ble_eq_true rfl) ha) (fun v => rfl) rfl hr (fun r1 h1 => t_Graph_goesFrom _ _ _ _ _ h1) (fun x2 h1 hr => ?_)
      refine j_if_eq (pc := 27) (tgt := 44) d_Kept_seekWith_27 hr (fun hr => ?_) (fun hr => ?_)
      · refine j_iconst (pc := 44) d_Kept_seekWith_44 ?_
        exact mJ_weak (ls' := [(2, v0), (2, v1), (0, v2), (0, v3), (9, 0), (9, 0)]) (mwk_s (mwk_s (mwk_s (mwk_s (mwk_s (mwk_s mwk_n)))))) (t_Kept_seekWith_J45 hR2 hr)
      · refine j_aload_n (pc := 30) d_Kept_seekWith_30 rfl ?_
        refine j_aload_n (pc := 31) d_Kept_seekWith_31 rfl ?_
        refine j_getf (pc := 32) d_Kept_seekWith_32 (fd_Kept_15 rfl) hr (fun hr => ?_)
        refine j_iload_n (pc := 35) d_Kept_seekWith_35 rfl ?_
        refine j_iaload (pc := 36) d_Kept_seekWith_36 hr (fun hr => ?_)
        refine j_iload_n (pc := 37) d_Kept_seekWith_37 rfl ?_
        obtain ⟨ha, hr⟩ := chk_some hr
        refine j_callG (pc := 38) (stk := [(0, v3), (0, hpV h1 (hpV h1 v0 1) v2), (2, v1), (0, v3), (2, hpV h v0 2)]) (as := [(2, v1), (0, hpV h1 (hpV h1 v0 1) v2), (0, v3)]) (P := (fun v9 => ((0 : Nat), v9) :: [(0, v3), (2, hpV h v0 2)])) (tg := 0) (My := M_Graph_behind) (mRunV (as := [(0, hpV h1 (hpV h1 v0 1) v2), (0, v3)]) (st := [(0, v3), (2, hpV h v0 2)]) d_Kept_seekWith_38 (mc_Graph_behind (by decide)) rfl (mv_Graph_behind tb_ml_Kept_44) rfl (Nat.le_of_ble_eq_true rfl) ha) (fun v => rfl) rfl hr (fun r1 h1 => t_Graph_behind _ _ _ _ _ h1) (fun x4 h3 hr => ?_)
        refine j_goto (pc := 41) (tgt := 45) d_Kept_seekWith_41 ?_
        exact mJ_weak (ls' := [(2, v0), (2, v1), (0, v2), (0, v3), (9, 0), (9, 0)]) (mwk_s (mwk_s (mwk_s (mwk_s (mwk_s (mwk_s mwk_n)))))) (t_Kept_seekWith_J45 hR2 hr)
theorem t_Kept_seekWith_J170 {G : mG} {r : mR} {v0 v1 v2 v3 v4 v5 s0 s1 s2 : Int} {h : mH} {R70 : mH → Int → Int → Option mR} (hR70 : ∀ (h : mH) (w4 w5 : Int) , R70 h w4 w5 = some r → mJ G M_Kept_seekWith 70 [(2, v0), (2, v1), (0, v2), (0, v3), (0, w4), (0, w5)] [] h r) (hr : f_Kept_seekWith_J170 R70 v4 v5 s0 s1 s2 h = some r) : mJ G M_Kept_seekWith 170 [(2, v0), (2, v1), (0, v2), (0, v3), (0, v4), (0, v5)] [(0, s2), (0, s1), (2, s0)] h r := by
  unfold f_Kept_seekWith_J170 at hr
  refine j_iastore (pc := 170) d_Kept_seekWith_170 hr (fun h1 hr => ?_)
  refine j_iincW (pc := 171) (L := fun x2 => [(2, v0), (2, v1), (0, v2), (0, v3), (0, v4), (0, x2)]) d_Kept_seekWith_171 rfl (fun _ => rfl) hr (fun x2 hr => ?_)
  refine j_goto (pc := 174) (tgt := 70) d_Kept_seekWith_174 ?_
  exact mJ_weak (ls' := [(2, v0), (2, v1), (0, v2), (0, v3), (0, v4), (0, x2)]) (mwk_s (mwk_s (mwk_s (mwk_s (mwk_s (mwk_s mwk_n)))))) (hR70 h1 _ _ hr)
theorem t_Kept_seekWith_J120 {G : mG} {r : mR} {v0 v1 v2 v3 v5 s0 s1 : Int} {h : mH} {R70 : mH → Int → Int → Option mR} (hR70 : ∀ (h : mH) (w4 w5 : Int) , R70 h w4 w5 = some r → mJ G M_Kept_seekWith 70 [(2, v0), (2, v1), (0, v2), (0, v3), (0, w4), (0, w5)] [] h r) (hr : f_Kept_seekWith_J120 R70 v0 v1 v3 v5 s0 s1 h = some r) : mJ G M_Kept_seekWith 120 [(2, v0), (2, v1), (0, v2), (0, v3), (9, 0), (0, v5)] [(0, s1), (0, s0)] h r := by
  unfold f_Kept_seekWith_J120 at hr
  refine j_iadd (pc := 120) d_Kept_seekWith_120 ?_
  refine j_istoreW (pc := 121) (L := fun x1 => [(2, v0), (2, v1), (0, v2), (0, v3), (0, x1), (0, v5)]) d_Kept_seekWith_121 (fun _ => rfl) hr (fun x1 hr => ?_)
  refine j_aload_n (pc := 123) d_Kept_seekWith_123 rfl ?_
  refine j_getf (pc := 124) d_Kept_seekWith_124 (fd_Kept_18 rfl) hr (fun hr => ?_)
  refine j_iload (pc := 127) d_Kept_seekWith_127 rfl ?_
  refine j_aload_n (pc := 129) d_Kept_seekWith_129 rfl ?_
  refine j_aload_n (pc := 130) d_Kept_seekWith_130 rfl ?_
  refine j_getf (pc := 131) d_Kept_seekWith_131 (fd_Kept_18 rfl) hr (fun hr => ?_)
  refine j_iload (pc := 134) d_Kept_seekWith_134 rfl ?_
  refine j_iaload (pc := 136) d_Kept_seekWith_136 hr (fun hr => ?_)
  refine j_aload_n (pc := 137) d_Kept_seekWith_137 rfl ?_
  refine j_getf (pc := 138) d_Kept_seekWith_138 (fd_Kept_9 rfl) hr (fun hr => ?_)
  refine j_iload_n (pc := 141) d_Kept_seekWith_141 rfl ?_
  refine j_iaload (pc := 142) d_Kept_seekWith_142 hr (fun hr => ?_)
  obtain ⟨ha, hr⟩ := chk_some hr
  refine j_callG (pc := 143) (stk := [(0, hpV h (hpV h v0 0) v3), (0, hpV h (hpV h v0 2) v5), (2, v1), (0, v5), (2, hpV h v0 2)]) (as := [(2, v1), (0, hpV h (hpV h v0 2) v5), (0, hpV h (hpV h v0 0) v3)]) (P := (fun v9 => ((0 : Nat), v9) :: [(0, v5), (2, hpV h v0 2)])) (tg := 0) (My := M_Graph_goesFrom) (mRunV (as := [(0, hpV h (hpV h v0 2) v5), (0, hpV h (hpV h v0 0) v3)]) (st := [(0, v5), (2, hpV h v0 2)]) d_Kept_seekWith_143 (mc_Graph_goesFrom (by decide)) rfl (mv_Graph_goesFrom tb_ml_Kept_62) rfl (Nat.le_of_ble_eq_true rfl) ha) (fun v => rfl) rfl hr (fun r1 h1 => t_Graph_goesFrom _ _ _ _ _ h1) (fun x3 h2 hr => ?_)
  refine j_if_eq (pc := 146) (tgt := 169) d_Kept_seekWith_146 hr (fun hr => ?_) (fun hr => ?_)
  · refine j_iconst (pc := 169) d_Kept_seekWith_169 ?_
    exact mJ_weak (ls' := [(2, v0), (2, v1), (0, v2), (0, v3), (0, x1), (0, v5)]) (mwk_s (mwk_s (mwk_s (mwk_s (mwk_s (mwk_s mwk_n)))))) (t_Kept_seekWith_J170 hR70 hr)
  · refine j_aload_n (pc := 149) d_Kept_seekWith_149 rfl ?_
    refine j_aload_n (pc := 150) d_Kept_seekWith_150 rfl ?_
    refine j_getf (pc := 151) d_Kept_seekWith_151 (fd_Kept_18 rfl) hr (fun hr => ?_)
    refine j_iload (pc := 154) d_Kept_seekWith_154 rfl ?_
    refine j_iaload (pc := 156) d_Kept_seekWith_156 hr (fun hr => ?_)
    refine j_aload_n (pc := 157) d_Kept_seekWith_157 rfl ?_
    refine j_getf (pc := 158) d_Kept_seekWith_158 (fd_Kept_9 rfl) hr (fun hr => ?_)
    refine j_iload_n (pc := 161) d_Kept_seekWith_161 rfl ?_
    refine j_iaload (pc := 162) d_Kept_seekWith_162 hr (fun hr => ?_)
    obtain ⟨ha, hr⟩ := chk_some hr
    refine j_callG (pc := 163) (stk := [(0, hpV h2 (hpV h2 v0 0) v3), (0, hpV h2 (hpV h2 v0 2) v5), (2, v1), (0, v5), (2, hpV h v0 2)]) (as := [(2, v1), (0, hpV h2 (hpV h2 v0 2) v5), (0, hpV h2 (hpV h2 v0 0) v3)]) (P := (fun v9 => ((0 : Nat), v9) :: [(0, v5), (2, hpV h v0 2)])) (tg := 0) (My := M_Graph_behind) (mRunV (as := [(0, hpV h2 (hpV h2 v0 2) v5), (0, hpV h2 (hpV h2 v0 0) v3)]) (st := [(0, v5), (2, hpV h v0 2)]) d_Kept_seekWith_163 (mc_Graph_behind (by decide)) rfl (mv_Graph_behind tb_ml_Kept_44) rfl (Nat.le_of_ble_eq_true rfl) ha) (fun v => rfl) rfl hr (fun r1 h1 => t_Graph_behind _ _ _ _ _ h1) (fun x5 h4 hr => ?_)
    refine j_goto (pc := 166) (tgt := 170) d_Kept_seekWith_166 ?_
    exact mJ_weak (ls' := [(2, v0), (2, v1), (0, v2), (0, v3), (0, x1), (0, v5)]) (mwk_s (mwk_s (mwk_s (mwk_s (mwk_s (mwk_s mwk_n)))))) (t_Kept_seekWith_J170 hR70 hr)
theorem t_Kept_seekWith_J119 {G : mG} {r : mR} {v0 v1 v2 v3 v5 s0 : Int} {h : mH} {R70 : mH → Int → Int → Option mR} (hR70 : ∀ (h : mH) (w4 w5 : Int) , R70 h w4 w5 = some r → mJ G M_Kept_seekWith 70 [(2, v0), (2, v1), (0, v2), (0, v3), (0, w4), (0, w5)] [] h r) (hr : f_Kept_seekWith_J119 R70 v0 v1 v3 v5 s0 h = some r) : mJ G M_Kept_seekWith 119 [(2, v0), (2, v1), (0, v2), (0, v3), (9, 0), (0, v5)] [(0, s0)] h r := by
  unfold f_Kept_seekWith_J119 at hr
  refine j_iconst (pc := 119) d_Kept_seekWith_119 ?_
  exact mJ_weak (ls' := [(2, v0), (2, v1), (0, v2), (0, v3), (9, 0), (0, v5)]) (mwk_s (mwk_s (mwk_s (mwk_s (mwk_s (mwk_s mwk_n)))))) (t_Kept_seekWith_J120 hR70 hr)
theorem t_Kept_seekWith_L70 {G : mG} {r : mR} {v0 v1 v2 v3 : Int} {K177 : mH → Int → Option mR} (hK177 : ∀ (h : mH) (w4 : Int) , K177 h w4 = some r → mJ G M_Kept_seekWith 177 [(2, v0), (2, v1), (0, v2), (0, v3), (0, w4), (9, 0)] [] h r) : ∀ (n : Nat) (h : mH) (v4 v5 : Int), f_Kept_seekWith_L70 K177 v0 v1 v3 n h v4 v5 = some r → mJ G M_Kept_seekWith 70 [(2, v0), (2, v1), (0, v2), (0, v3), (0, v4), (0, v5)] [] h r := by
  intro n
  induction n with
  | zero =>
    intro h v4 v5 hr
    rw [f_Kept_seekWith_L70] at hr
    cases hr
  | succ n hR70 =>
    intro h v4 v5 hr
    rw [f_Kept_seekWith_L70] at hr
    refine j_iload (pc := 70) d_Kept_seekWith_70 rfl ?_
    refine j_aload_n (pc := 72) d_Kept_seekWith_72 rfl ?_
    refine j_getf (pc := 73) d_Kept_seekWith_73 (fd_Kept_18 rfl) hr (fun hr => ?_)
    refine j_alen (pc := 76) d_Kept_seekWith_76 hr (fun hr => ?_)
    refine j_icmp_ge (pc := 77) (tgt := 177) d_Kept_seekWith_77 hr (fun hr => ?_) (fun hr => ?_)
    · exact mJ_weak (ls' := [(2, v0), (2, v1), (0, v2), (0, v3), (0, v4), (9, 0)]) (mwk_s (mwk_s (mwk_s (mwk_s (mwk_s (mwk_d mwk_n)))))) (hK177 h _ hr)
    · refine j_iload (pc := 80) d_Kept_seekWith_80 rfl ?_
      refine j_aload_n (pc := 82) d_Kept_seekWith_82 rfl ?_
      refine j_getf (pc := 83) d_Kept_seekWith_83 (fd_Kept_18 rfl) hr (fun hr => ?_)
      refine j_iload (pc := 86) d_Kept_seekWith_86 rfl ?_
      refine j_iaload (pc := 88) d_Kept_seekWith_88 hr (fun hr => ?_)
      refine j_iconst (pc := 89) d_Kept_seekWith_89 ?_
      refine j_icmp_eq (pc := 90) (tgt := 119) d_Kept_seekWith_90 hr (fun hr => ?_) (fun hr => ?_)
      · exact mJ_weak (ls' := [(2, v0), (2, v1), (0, v2), (0, v3), (9, 0), (0, v5)]) (mwk_s (mwk_s (mwk_s (mwk_s (mwk_d (mwk_s mwk_n)))))) (t_Kept_seekWith_J119 hR70 hr)
      · refine j_aload_n (pc := 93) d_Kept_seekWith_93 rfl ?_
        refine j_aload_n (pc := 94) d_Kept_seekWith_94 rfl ?_
        refine j_getf (pc := 95) d_Kept_seekWith_95 (fd_Kept_18 rfl) hr (fun hr => ?_)
        refine j_iload (pc := 98) d_Kept_seekWith_98 rfl ?_
        refine j_iaload (pc := 100) d_Kept_seekWith_100 hr (fun hr => ?_)
        refine j_aload_n (pc := 101) d_Kept_seekWith_101 rfl ?_
        refine j_getf (pc := 102) d_Kept_seekWith_102 (fd_Kept_15 rfl) hr (fun hr => ?_)
        refine j_iload_n (pc := 105) d_Kept_seekWith_105 rfl ?_
        refine j_iconst (pc := 106) d_Kept_seekWith_106 ?_
        refine j_iadd (pc := 107) d_Kept_seekWith_107 ?_
        refine j_iaload (pc := 108) d_Kept_seekWith_108 hr (fun hr => ?_)
        obtain ⟨ha, hr⟩ := chk_some hr
        refine j_callG (pc := 109) (stk := [(0, hpV h (hpV h v0 1) (w32 (v3 + 1))), (0, hpV h (hpV h v0 2) v5), (2, v1), (0, v4)]) (as := [(2, v1), (0, hpV h (hpV h v0 2) v5), (0, hpV h (hpV h v0 1) (w32 (v3 + 1)))]) (P := (fun v9 => ((0 : Nat), v9) :: [(0, v4)])) (tg := 0) (My := M_Graph_leads) (mRunV (as := [(0, hpV h (hpV h v0 2) v5), (0, hpV h (hpV h v0 1) (w32 (v3 + 1)))]) (st := [(0, v4)]) d_Kept_seekWith_109 (mc_Graph_leads (by decide)) rfl (mv_Graph_leads tb_ml_Kept_66) rfl (Nat.le_of_ble_eq_true rfl) ha) (fun v => rfl) rfl hr (fun r1 h1 => t_Graph_leads _ _ _ _ _ h1) (fun x2 h1 hr => ?_)
        refine j_if_eq (pc := 112) (tgt := 119) d_Kept_seekWith_112 hr (fun hr => ?_) (fun hr => ?_)
        · exact mJ_weak (ls' := [(2, v0), (2, v1), (0, v2), (0, v3), (9, 0), (0, v5)]) (mwk_s (mwk_s (mwk_s (mwk_s (mwk_d (mwk_s mwk_n)))))) (t_Kept_seekWith_J119 hR70 hr)
        · refine j_iconst (pc := 115) d_Kept_seekWith_115 ?_
          refine j_goto (pc := 116) (tgt := 120) d_Kept_seekWith_116 ?_
          exact mJ_weak (ls' := [(2, v0), (2, v1), (0, v2), (0, v3), (9, 0), (0, v5)]) (mwk_s (mwk_s (mwk_s (mwk_s (mwk_d (mwk_s mwk_n)))))) (t_Kept_seekWith_J120 hR70 hr)
theorem t_Kept_seekWith_J202 {G : mG} {r : mR} {v0 v1 v2 v3 : Int} {h : mH} {R56 : mH → Int → Option mR} (hR56 : ∀ (h : mH) (w3 : Int) , R56 h w3 = some r → mJ G M_Kept_seekWith 56 [(2, v0), (2, v1), (0, v2), (0, w3), (9, 0), (9, 0)] [] h r) (hr : f_Kept_seekWith_J202 R56 v3 h = some r) : mJ G M_Kept_seekWith 202 [(2, v0), (2, v1), (0, v2), (0, v3), (9, 0), (9, 0)] [] h r := by
  unfold f_Kept_seekWith_J202 at hr
  refine j_iincW (pc := 202) (L := fun x1 => [(2, v0), (2, v1), (0, v2), (0, x1), (9, 0), (9, 0)]) d_Kept_seekWith_202 rfl (fun _ => rfl) hr (fun x1 hr => ?_)
  refine j_goto (pc := 205) (tgt := 56) d_Kept_seekWith_205 ?_
  exact mJ_weak (ls' := [(2, v0), (2, v1), (0, v2), (0, x1), (9, 0), (9, 0)]) (mwk_s (mwk_s (mwk_s (mwk_s (mwk_s (mwk_s mwk_n)))))) (hR56 h _ hr)
theorem t_Kept_seekWith_L56 {G : mG} {r : mR} {v0 v1 v2 : Int}  : ∀ (n : Nat) (h : mH) (v3 : Int), f_Kept_seekWith_L56 v0 v1 v2 n h v3 = some r → mJ G M_Kept_seekWith 56 [(2, v0), (2, v1), (0, v2), (0, v3), (9, 0), (9, 0)] [] h r := by
  intro n
  induction n with
  | zero =>
    intro h v3 hr
    rw [f_Kept_seekWith_L56] at hr
    cases hr
  | succ n hR56 =>
    intro h v3 hr
    rw [f_Kept_seekWith_L56] at hr
    refine j_iload_n (pc := 56) d_Kept_seekWith_56 rfl ?_
    refine j_aload_n (pc := 57) d_Kept_seekWith_57 rfl ?_
    refine j_getf (pc := 58) d_Kept_seekWith_58 (fd_Kept_36 rfl) hr (fun hr => ?_)
    refine j_icmp_ge (pc := 61) (tgt := 208) d_Kept_seekWith_61 hr (fun hr => ?_) (fun hr => ?_)
    · exact j_vret (pc := 208) d_Kept_seekWith_208 rfl hr
    · refine j_iconst (pc := 64) d_Kept_seekWith_64 ?_
      refine j_istore (pc := 65) (ls' := [(2, v0), (2, v1), (0, v2), (0, v3), (0, 0), (9, 0)]) d_Kept_seekWith_65 rfl ?_
      refine j_iconst (pc := 67) d_Kept_seekWith_67 ?_
      refine j_istore (pc := 68) (ls' := [(2, v0), (2, v1), (0, v2), (0, v3), (0, 0), (0, 0)]) d_Kept_seekWith_68 rfl ?_
      refine mJ_weak (ls' := [(2, v0), (2, v1), (0, v2), (0, v3), (0, 0), (0, 0)]) (mwk_s (mwk_s (mwk_s (mwk_s (mwk_s (mwk_s mwk_n)))))) (t_Kept_seekWith_L70 (fun h1 x2 hr => ?_) _ _ _ _ hr)
      · refine j_iload (pc := 177) d_Kept_seekWith_177 rfl ?_
        refine j_aload_n (pc := 179) d_Kept_seekWith_179 rfl ?_
        refine j_getf (pc := 180) d_Kept_seekWith_180 (fd_Kept_49 rfl) hr (fun hr => ?_)
        refine j_icmp_le (pc := 183) (tgt := 202) d_Kept_seekWith_183 hr (fun hr => ?_) (fun hr => ?_)
        · exact mJ_weak (ls' := [(2, v0), (2, v1), (0, v2), (0, v3), (9, 0), (9, 0)]) (mwk_s (mwk_s (mwk_s (mwk_s (mwk_d (mwk_s mwk_n)))))) (t_Kept_seekWith_J202 hR56 hr)
        · refine j_aload_n (pc := 186) d_Kept_seekWith_186 rfl ?_
          refine j_iload (pc := 187) d_Kept_seekWith_187 rfl ?_
          refine j_puti (pc := 189) d_Kept_seekWith_189 (fd_Kept_49 rfl) (⟨_, _, _, rfl, Or.inl rfl, rfl⟩ : mFldW M_Kept_seekWith 49 5 4 .int) hr (fun h3 hr => ?_)
          refine j_aload_n (pc := 192) d_Kept_seekWith_192 rfl ?_
          refine j_iload_n (pc := 193) d_Kept_seekWith_193 rfl ?_
          refine j_puti (pc := 194) d_Kept_seekWith_194 (fd_Kept_52 rfl) (⟨_, _, _, rfl, Or.inl rfl, rfl⟩ : mFldW M_Kept_seekWith 52 5 5 .int) hr (fun h4 hr => ?_)
          refine j_aload_n (pc := 197) d_Kept_seekWith_197 rfl ?_
          refine j_iload_n (pc := 198) d_Kept_seekWith_198 rfl ?_
          refine j_puti (pc := 199) d_Kept_seekWith_199 (fd_Kept_55 rfl) (⟨_, _, _, rfl, Or.inl rfl, rfl⟩ : mFldW M_Kept_seekWith 55 5 6 .int) hr (fun h5 hr => ?_)
          exact mJ_weak (ls' := [(2, v0), (2, v1), (0, v2), (0, v3), (9, 0), (9, 0)]) (mwk_s (mwk_s (mwk_s (mwk_s (mwk_d (mwk_s mwk_n)))))) (t_Kept_seekWith_J202 hR56 hr)
theorem t_Kept_seekWith {G : mG} (h : mH) (v0 v1 v2 : Int) (r : mR) (hr : f_Kept_seekWith h v0 v1 v2 = some r) : mJM G M_Kept_seekWith [(2, v0), (2, v1), (0, v2)] h r := by
  refine mJM_of (L := [(2, v0), (2, v1), (0, v2), (9, 0), (9, 0), (9, 0)]) rfl rfl rfl (Nat.le_of_ble_eq_true rfl) ?_
  unfold f_Kept_seekWith at hr
  refine j_iconst (pc := 0) d_Kept_seekWith_0 ?_
  refine j_istore_n (pc := 1) (ls' := [(2, v0), (2, v1), (0, v2), (0, 0), (9, 0), (9, 0)]) d_Kept_seekWith_1 rfl ?_
  refine mJ_weak (ls' := [(2, v0), (2, v1), (0, v2), (0, 0), (9, 0), (9, 0)]) (mwk_s (mwk_s (mwk_s (mwk_s (mwk_s (mwk_s mwk_n)))))) (t_Kept_seekWith_L2 (fun h1  hr => ?_) _ _ _ hr)
  · refine j_iload_n (pc := 52) d_Kept_seekWith_52 rfl ?_
    refine j_iconst (pc := 53) d_Kept_seekWith_53 ?_
    refine j_iadd (pc := 54) d_Kept_seekWith_54 ?_
    refine j_istoreW_n (pc := 55) (L := fun x2 => [(2, v0), (2, v1), (0, v2), (0, x2), (9, 0), (9, 0)]) d_Kept_seekWith_55 (fun _ => rfl) hr (fun x2 hr => ?_)
    refine mJ_weak (ls' := [(2, v0), (2, v1), (0, v2), (0, x2), (9, 0), (9, 0)]) (mwk_s (mwk_s (mwk_s (mwk_s (mwk_s (mwk_s mwk_n)))))) (t_Kept_seekWith_L56  _ _ _ hr)
def M_Kept_seek : mM := ("NineBars$Kept", ⟨"NineBars$Kept", "seek", "(LNineBars$Graph;I)V"⟩, prog_7_method_3_code, 4, none, [], 9)
theorem tb_co_Kept_seek : mTB (Cond.code ⟨"NineBars$Kept", "seek", "(LNineBars$Graph;I)V"⟩ prog_7_method_3_code 4 (none)) := tbq6 22 (by decide +kernel) rfl
theorem mc_Kept_seek {M : mM} (hd : 9 < mDp M) : mCal M M_Kept_seek 2 := ⟨tb_co_Kept_seek, tb_in_NineBars_Kept, ⟨by decide +kernel, by decide +kernel⟩, by decide +kernel, hd, by decide⟩
theorem d_Kept_seek_0 : decode prog_7_method_3_code 0 = .ok (.aload_n 0, 1) := by decide +kernel
theorem d_Kept_seek_1 : decode prog_7_method_3_code 1 = .ok (.iconst 0, 1) := by decide +kernel
theorem d_Kept_seek_2 : decode prog_7_method_3_code 2 = .ok (.putfield 49, 3) := by decide +kernel
theorem d_Kept_seek_5 : decode prog_7_method_3_code 5 = .ok (.aload_n 0, 1) := by decide +kernel
theorem d_Kept_seek_6 : decode prog_7_method_3_code 6 = .ok (.iconst (-1), 1) := by decide +kernel
theorem d_Kept_seek_7 : decode prog_7_method_3_code 7 = .ok (.putfield 52, 3) := by decide +kernel
theorem d_Kept_seek_10 : decode prog_7_method_3_code 10 = .ok (.aload_n 0, 1) := by decide +kernel
theorem d_Kept_seek_11 : decode prog_7_method_3_code 11 = .ok (.iconst (-1), 1) := by decide +kernel
theorem d_Kept_seek_12 : decode prog_7_method_3_code 12 = .ok (.putfield 55, 3) := by decide +kernel
theorem d_Kept_seek_15 : decode prog_7_method_3_code 15 = .ok (.iload_n 2, 1) := by decide +kernel
theorem d_Kept_seek_16 : decode prog_7_method_3_code 16 = .ok (.iconst 1, 1) := by decide +kernel
theorem d_Kept_seek_17 : decode prog_7_method_3_code 17 = .ok (.if_icmp .ne 14, 3) := by decide +kernel
theorem d_Kept_seek_31 : decode prog_7_method_3_code 31 = .ok (.iconst 0, 1) := by decide +kernel
theorem d_Kept_seek_32 : decode prog_7_method_3_code 32 = .ok (.istore_n 3, 1) := by decide +kernel
theorem d_Kept_seek_33 : decode prog_7_method_3_code 33 = .ok (.iload_n 3, 1) := by decide +kernel
theorem d_Kept_seek_34 : decode prog_7_method_3_code 34 = .ok (.aload_n 0, 1) := by decide +kernel
theorem d_Kept_seek_35 : decode prog_7_method_3_code 35 = .ok (.getfield 36, 3) := by decide +kernel
theorem d_Kept_seek_38 : decode prog_7_method_3_code 38 = .ok (.if_icmp .ge 15, 3) := by decide +kernel
theorem d_Kept_seek_53 : decode prog_7_method_3_code 53 = .ok (.return_, 1) := by decide +kernel
theorem d_Kept_seek_41 : decode prog_7_method_3_code 41 = .ok (.aload_n 0, 1) := by decide +kernel
theorem d_Kept_seek_42 : decode prog_7_method_3_code 42 = .ok (.aload_n 1, 1) := by decide +kernel
theorem d_Kept_seek_43 : decode prog_7_method_3_code 43 = .ok (.iload_n 3, 1) := by decide +kernel
theorem d_Kept_seek_44 : decode prog_7_method_3_code 44 = .ok (.invokevirtual 58, 3) := by decide +kernel
theorem tb_ml_Kept_58 : mTB (Cond.methodLink "NineBars$Kept" 58 ⟨"NineBars$Kept", "seekWith", "(LNineBars$Graph;I)V"⟩) := tbq6 23 (by decide +kernel) rfl
theorem tb_im_Kept_seekWith : mTB (Cond.instanceMethod ⟨"NineBars$Kept", "seekWith", "(LNineBars$Graph;I)V"⟩) := tbq6 25 (by decide +kernel) rfl
theorem tb_se_Kept_seekWith : mTB (Cond.selects "NineBars$Kept" ⟨"NineBars$Kept", "seekWith", "(LNineBars$Graph;I)V"⟩ ⟨"NineBars$Kept", "seekWith", "(LNineBars$Graph;I)V"⟩) := tbqp 35 (by decide +kernel) rfl
theorem mv_Kept_seekWith {M : mM} {idx : Nat} (h : mTB (Cond.methodLink (mO M) idx ⟨"NineBars$Kept", "seekWith", "(LNineBars$Graph;I)V"⟩)) : mCaV M M_Kept_seekWith idx 5 := ⟨h, tb_im_Kept_seekWith, tb_se_Kept_seekWith, by decide, TX5, 7, rfl⟩
theorem d_Kept_seek_47 : decode prog_7_method_3_code 47 = .ok (.iinc 3 1, 3) := by decide +kernel
theorem d_Kept_seek_50 : decode prog_7_method_3_code 50 = .ok (.goto (-17), 3) := by decide +kernel
theorem d_Kept_seek_20 : decode prog_7_method_3_code 20 = .ok (.aload_n 0, 1) := by decide +kernel
theorem d_Kept_seek_21 : decode prog_7_method_3_code 21 = .ok (.iconst 1, 1) := by decide +kernel
theorem d_Kept_seek_22 : decode prog_7_method_3_code 22 = .ok (.putfield 49, 3) := by decide +kernel
theorem d_Kept_seek_25 : decode prog_7_method_3_code 25 = .ok (.aload_n 0, 1) := by decide +kernel
theorem d_Kept_seek_26 : decode prog_7_method_3_code 26 = .ok (.iconst 0, 1) := by decide +kernel
theorem d_Kept_seek_27 : decode prog_7_method_3_code 27 = .ok (.putfield 52, 3) := by decide +kernel
theorem d_Kept_seek_30 : decode prog_7_method_3_code 30 = .ok (.return_, 1) := by decide +kernel
theorem t_Kept_seek_L33 {G : mG} {r : mR} {v0 v1 : Int}  : ∀ (n : Nat) (h : mH) (v3 : Int), f_Kept_seek_L33 v0 v1 n h v3 = some r → mJ G M_Kept_seek 33 [(2, v0), (2, v1), (9, 0), (0, v3)] [] h r := by
  intro n
  induction n with
  | zero =>
    intro h v3 hr
    rw [f_Kept_seek_L33] at hr
    cases hr
  | succ n hR33 =>
    intro h v3 hr
    rw [f_Kept_seek_L33] at hr
    refine j_iload_n (pc := 33) d_Kept_seek_33 rfl ?_
    refine j_aload_n (pc := 34) d_Kept_seek_34 rfl ?_
    refine j_getf (pc := 35) d_Kept_seek_35 (fd_Kept_36 rfl) hr (fun hr => ?_)
    refine j_icmp_ge (pc := 38) (tgt := 53) d_Kept_seek_38 hr (fun hr => ?_) (fun hr => ?_)
    · exact j_vret (pc := 53) d_Kept_seek_53 rfl hr
    · refine j_aload_n (pc := 41) d_Kept_seek_41 rfl ?_
      refine j_aload_n (pc := 42) d_Kept_seek_42 rfl ?_
      refine j_iload_n (pc := 43) d_Kept_seek_43 rfl ?_
      obtain ⟨ha, hr⟩ := chk_some hr
      refine j_callG (pc := 44) (stk := [(0, v3), (2, v1), (2, v0)]) (as := [(2, v0), (2, v1), (0, v3)]) (P := (fun v9 => [])) (tg := 3) (My := M_Kept_seekWith) (mRunV (as := [(2, v1), (0, v3)]) (st := []) d_Kept_seek_44 (mc_Kept_seekWith (by decide)) rfl (mv_Kept_seekWith tb_ml_Kept_58) rfl (Nat.le_of_ble_eq_true rfl) ha) (fun v => rfl) rfl hr (fun r1 h1 => t_Kept_seekWith _ _ _ _ _ h1) (fun x2 h1 hr => ?_)
      refine j_iincW (pc := 47) (L := fun x3 => [(2, v0), (2, v1), (9, 0), (0, x3)]) d_Kept_seek_47 rfl (fun _ => rfl) hr (fun x3 hr => ?_)
      refine j_goto (pc := 50) (tgt := 33) d_Kept_seek_50 ?_
      exact mJ_weak (ls' := [(2, v0), (2, v1), (9, 0), (0, x3)]) (mwk_s (mwk_s (mwk_s (mwk_s mwk_n)))) (hR33 h1 _ hr)
theorem t_Kept_seek {G : mG} (h : mH) (v0 v1 v2 : Int) (r : mR) (hr : f_Kept_seek h v0 v1 v2 = some r) : mJM G M_Kept_seek [(2, v0), (2, v1), (0, v2)] h r := by
  refine mJM_of (L := [(2, v0), (2, v1), (0, v2), (9, 0)]) rfl rfl rfl (Nat.le_of_ble_eq_true rfl) ?_
  unfold f_Kept_seek at hr
  refine j_aload_n (pc := 0) d_Kept_seek_0 rfl ?_
  refine j_iconst (pc := 1) d_Kept_seek_1 ?_
  refine j_puti (pc := 2) d_Kept_seek_2 (fd_Kept_49 rfl) (⟨_, _, _, rfl, Or.inl rfl, rfl⟩ : mFldW M_Kept_seek 49 5 4 .int) hr (fun h1 hr => ?_)
  refine j_aload_n (pc := 5) d_Kept_seek_5 rfl ?_
  refine j_iconst (pc := 6) d_Kept_seek_6 ?_
  refine j_puti (pc := 7) d_Kept_seek_7 (fd_Kept_52 rfl) (⟨_, _, _, rfl, Or.inl rfl, rfl⟩ : mFldW M_Kept_seek 52 5 5 .int) hr (fun h2 hr => ?_)
  refine j_aload_n (pc := 10) d_Kept_seek_10 rfl ?_
  refine j_iconst (pc := 11) d_Kept_seek_11 ?_
  refine j_puti (pc := 12) d_Kept_seek_12 (fd_Kept_55 rfl) (⟨_, _, _, rfl, Or.inl rfl, rfl⟩ : mFldW M_Kept_seek 55 5 6 .int) hr (fun h3 hr => ?_)
  refine j_iload_n (pc := 15) d_Kept_seek_15 rfl ?_
  refine j_iconst (pc := 16) d_Kept_seek_16 ?_
  refine j_icmp_ne (pc := 17) (tgt := 31) d_Kept_seek_17 hr (fun hr => ?_) (fun hr => ?_)
  · refine j_iconst (pc := 31) d_Kept_seek_31 ?_
    refine j_istore_n (pc := 32) (ls' := [(2, v0), (2, v1), (0, v2), (0, 0)]) d_Kept_seek_32 rfl ?_
    refine mJ_weak (ls' := [(2, v0), (2, v1), (9, 0), (0, 0)]) (mwk_s (mwk_s (mwk_d (mwk_s mwk_n)))) (t_Kept_seek_L33  _ _ _ hr)
  · refine j_aload_n (pc := 20) d_Kept_seek_20 rfl ?_
    refine j_iconst (pc := 21) d_Kept_seek_21 ?_
    refine j_puti (pc := 22) d_Kept_seek_22 (fd_Kept_49 rfl) (⟨_, _, _, rfl, Or.inl rfl, rfl⟩ : mFldW M_Kept_seek 49 5 4 .int) hr (fun h4 hr => ?_)
    refine j_aload_n (pc := 25) d_Kept_seek_25 rfl ?_
    refine j_iconst (pc := 26) d_Kept_seek_26 ?_
    refine j_puti (pc := 27) d_Kept_seek_27 (fd_Kept_52 rfl) (⟨_, _, _, rfl, Or.inl rfl, rfl⟩ : mFldW M_Kept_seek 52 5 5 .int) hr (fun h5 hr => ?_)
    exact j_vret (pc := 30) d_Kept_seek_30 rfl hr
def M_Kept_takeVerse : mM := ("NineBars$Kept", ⟨"NineBars$Kept", "takeVerse", "(LNineBars$Graph;LNineBars$Paths;I)V"⟩, prog_7_method_2_code, 6, none, [], 7)
theorem tb_co_Kept_takeVerse : mTB (Cond.code ⟨"NineBars$Kept", "takeVerse", "(LNineBars$Graph;LNineBars$Paths;I)V"⟩ prog_7_method_2_code 6 (none)) := tbq6 13 (by decide +kernel) rfl
theorem mc_Kept_takeVerse {M : mM} (hd : 7 < mDp M) : mCal M M_Kept_takeVerse 3 := ⟨tb_co_Kept_takeVerse, tb_in_NineBars_Kept, ⟨by decide +kernel, by decide +kernel⟩, by decide +kernel, hd, by decide⟩
theorem d_Kept_takeVerse_0 : decode prog_7_method_2_code 0 = .ok (.aload_n 0, 1) := by decide +kernel
theorem d_Kept_takeVerse_1 : decode prog_7_method_2_code 1 = .ok (.iconst 0, 1) := by decide +kernel
theorem d_Kept_takeVerse_2 : decode prog_7_method_2_code 2 = .ok (.aload_n 2, 1) := by decide +kernel
theorem d_Kept_takeVerse_3 : decode prog_7_method_2_code 3 = .ok (.iload_n 3, 1) := by decide +kernel
theorem d_Kept_takeVerse_4 : decode prog_7_method_2_code 4 = .ok (.invokevirtual 21, 3) := by decide +kernel
theorem tb_ml_Kept_21 : mTB (Cond.methodLink "NineBars$Kept" 21 ⟨"NineBars$Paths", "farOf", "(I)I"⟩) := tbq6 14 (by decide +kernel) rfl
theorem d_Kept_takeVerse_7 : decode prog_7_method_2_code 7 = .ok (.invokestatic 27, 3) := by decide +kernel
theorem tb_ml_Kept_27 : mTB (Cond.methodLink "NineBars$Kept" 27 ⟨"java/lang/Math", "max", "(II)I"⟩) := tbq6 15 (by decide +kernel) rfl
theorem d_Kept_takeVerse_10 : decode prog_7_method_2_code 10 = .ok (.bipush 40, 2) := by decide +kernel
theorem d_Kept_takeVerse_12 : decode prog_7_method_2_code 12 = .ok (.invokestatic 33, 3) := by decide +kernel
theorem tb_ml_Kept_33 : mTB (Cond.methodLink "NineBars$Kept" 33 ⟨"java/lang/Math", "min", "(II)I"⟩) := tbq6 16 (by decide +kernel) rfl
theorem d_Kept_takeVerse_15 : decode prog_7_method_2_code 15 = .ok (.putfield 36, 3) := by decide +kernel
theorem d_Kept_takeVerse_18 : decode prog_7_method_2_code 18 = .ok (.iload_n 3, 1) := by decide +kernel
theorem d_Kept_takeVerse_19 : decode prog_7_method_2_code 19 = .ok (.istore 4, 2) := by decide +kernel
theorem d_Kept_takeVerse_21 : decode prog_7_method_2_code 21 = .ok (.iconst 0, 1) := by decide +kernel
theorem d_Kept_takeVerse_22 : decode prog_7_method_2_code 22 = .ok (.istore 5, 2) := by decide +kernel
theorem d_Kept_takeVerse_24 : decode prog_7_method_2_code 24 = .ok (.iload 5, 2) := by decide +kernel
theorem d_Kept_takeVerse_26 : decode prog_7_method_2_code 26 = .ok (.aload_n 0, 1) := by decide +kernel
theorem d_Kept_takeVerse_27 : decode prog_7_method_2_code 27 = .ok (.getfield 36, 3) := by decide +kernel
theorem d_Kept_takeVerse_30 : decode prog_7_method_2_code 30 = .ok (.if_icmp .ge 47, 3) := by decide +kernel
theorem d_Kept_takeVerse_33 : decode prog_7_method_2_code 33 = .ok (.aload_n 0, 1) := by decide +kernel
theorem d_Kept_takeVerse_34 : decode prog_7_method_2_code 34 = .ok (.getfield 15, 3) := by decide +kernel
theorem d_Kept_takeVerse_37 : decode prog_7_method_2_code 37 = .ok (.iload 5, 2) := by decide +kernel
theorem d_Kept_takeVerse_39 : decode prog_7_method_2_code 39 = .ok (.iload 4, 2) := by decide +kernel
theorem d_Kept_takeVerse_41 : decode prog_7_method_2_code 41 = .ok (.iastore, 1) := by decide +kernel
theorem d_Kept_takeVerse_42 : decode prog_7_method_2_code 42 = .ok (.aload_n 0, 1) := by decide +kernel
theorem d_Kept_takeVerse_43 : decode prog_7_method_2_code 43 = .ok (.getfield 9, 3) := by decide +kernel
theorem d_Kept_takeVerse_46 : decode prog_7_method_2_code 46 = .ok (.iload 5, 2) := by decide +kernel
theorem d_Kept_takeVerse_48 : decode prog_7_method_2_code 48 = .ok (.aload_n 2, 1) := by decide +kernel
theorem d_Kept_takeVerse_49 : decode prog_7_method_2_code 49 = .ok (.aload_n 1, 1) := by decide +kernel
theorem d_Kept_takeVerse_50 : decode prog_7_method_2_code 50 = .ok (.iload 4, 2) := by decide +kernel
theorem d_Kept_takeVerse_52 : decode prog_7_method_2_code 52 = .ok (.invokevirtual 40, 3) := by decide +kernel
theorem tb_ml_Kept_40 : mTB (Cond.methodLink "NineBars$Kept" 40 ⟨"NineBars$Paths", "lineFrom", "(LNineBars$Graph;I)I"⟩) := tbq6 17 (by decide +kernel) rfl
theorem d_Kept_takeVerse_55 : decode prog_7_method_2_code 55 = .ok (.iastore, 1) := by decide +kernel
theorem d_Kept_takeVerse_56 : decode prog_7_method_2_code 56 = .ok (.aload_n 1, 1) := by decide +kernel
theorem d_Kept_takeVerse_57 : decode prog_7_method_2_code 57 = .ok (.iload 4, 2) := by decide +kernel
theorem d_Kept_takeVerse_59 : decode prog_7_method_2_code 59 = .ok (.aload_n 0, 1) := by decide +kernel
theorem d_Kept_takeVerse_60 : decode prog_7_method_2_code 60 = .ok (.getfield 9, 3) := by decide +kernel
theorem d_Kept_takeVerse_63 : decode prog_7_method_2_code 63 = .ok (.iload 5, 2) := by decide +kernel
theorem d_Kept_takeVerse_65 : decode prog_7_method_2_code 65 = .ok (.iaload, 1) := by decide +kernel
theorem d_Kept_takeVerse_66 : decode prog_7_method_2_code 66 = .ok (.invokevirtual 44, 3) := by decide +kernel
theorem d_Kept_takeVerse_69 : decode prog_7_method_2_code 69 = .ok (.istore 4, 2) := by decide +kernel
theorem d_Kept_takeVerse_71 : decode prog_7_method_2_code 71 = .ok (.iinc 5 1, 3) := by decide +kernel
theorem d_Kept_takeVerse_74 : decode prog_7_method_2_code 74 = .ok (.goto (-50), 3) := by decide +kernel
theorem d_Kept_takeVerse_77 : decode prog_7_method_2_code 77 = .ok (.aload_n 0, 1) := by decide +kernel
theorem d_Kept_takeVerse_78 : decode prog_7_method_2_code 78 = .ok (.getfield 15, 3) := by decide +kernel
theorem d_Kept_takeVerse_81 : decode prog_7_method_2_code 81 = .ok (.aload_n 0, 1) := by decide +kernel
theorem d_Kept_takeVerse_82 : decode prog_7_method_2_code 82 = .ok (.getfield 36, 3) := by decide +kernel
theorem d_Kept_takeVerse_85 : decode prog_7_method_2_code 85 = .ok (.iload 4, 2) := by decide +kernel
theorem d_Kept_takeVerse_87 : decode prog_7_method_2_code 87 = .ok (.iastore, 1) := by decide +kernel
theorem d_Kept_takeVerse_88 : decode prog_7_method_2_code 88 = .ok (.return_, 1) := by decide +kernel
theorem t_Kept_takeVerse_L24 {G : mG} {r : mR} {v0 v1 v2 : Int} {K77 : mH → Int → Option mR} (hK77 : ∀ (h : mH) (w4 : Int) , K77 h w4 = some r → mJ G M_Kept_takeVerse 77 [(2, v0), (9, 0), (9, 0), (9, 0), (0, w4), (9, 0)] [] h r) : ∀ (n : Nat) (h : mH) (v4 v5 : Int), f_Kept_takeVerse_L24 K77 v0 v1 v2 n h v4 v5 = some r → mJ G M_Kept_takeVerse 24 [(2, v0), (2, v1), (2, v2), (9, 0), (0, v4), (0, v5)] [] h r := by
  intro n
  induction n with
  | zero =>
    intro h v4 v5 hr
    rw [f_Kept_takeVerse_L24] at hr
    cases hr
  | succ n hR24 =>
    intro h v4 v5 hr
    rw [f_Kept_takeVerse_L24] at hr
    refine j_iload (pc := 24) d_Kept_takeVerse_24 rfl ?_
    refine j_aload_n (pc := 26) d_Kept_takeVerse_26 rfl ?_
    refine j_getf (pc := 27) d_Kept_takeVerse_27 (fd_Kept_36 rfl) hr (fun hr => ?_)
    refine j_icmp_ge (pc := 30) (tgt := 77) d_Kept_takeVerse_30 hr (fun hr => ?_) (fun hr => ?_)
    · exact mJ_weak (ls' := [(2, v0), (9, 0), (9, 0), (9, 0), (0, v4), (9, 0)]) (mwk_s (mwk_d (mwk_d (mwk_s (mwk_s (mwk_d mwk_n)))))) (hK77 h _ hr)
    · refine j_aload_n (pc := 33) d_Kept_takeVerse_33 rfl ?_
      refine j_getf (pc := 34) d_Kept_takeVerse_34 (fd_Kept_15 rfl) hr (fun hr => ?_)
      refine j_iload (pc := 37) d_Kept_takeVerse_37 rfl ?_
      refine j_iload (pc := 39) d_Kept_takeVerse_39 rfl ?_
      refine j_iastore (pc := 41) d_Kept_takeVerse_41 hr (fun h1 hr => ?_)
      refine j_aload_n (pc := 42) d_Kept_takeVerse_42 rfl ?_
      refine j_getf (pc := 43) d_Kept_takeVerse_43 (fd_Kept_9 rfl) hr (fun hr => ?_)
      refine j_iload (pc := 46) d_Kept_takeVerse_46 rfl ?_
      refine j_aload_n (pc := 48) d_Kept_takeVerse_48 rfl ?_
      refine j_aload_n (pc := 49) d_Kept_takeVerse_49 rfl ?_
      refine j_iload (pc := 50) d_Kept_takeVerse_50 rfl ?_
      obtain ⟨ha, hr⟩ := chk_some hr
      refine j_callG (pc := 52) (stk := [(0, v4), (2, v1), (2, v2), (0, v5), (2, hpV h1 v0 0)]) (as := [(2, v2), (2, v1), (0, v4)]) (P := (fun v9 => ((0 : Nat), v9) :: [(0, v5), (2, hpV h1 v0 0)])) (tg := 0) (My := M_Paths_lineFrom) (mRunV (as := [(2, v1), (0, v4)]) (st := [(0, v5), (2, hpV h1 v0 0)]) d_Kept_takeVerse_52 (mc_Paths_lineFrom (by decide)) rfl (mv_Paths_lineFrom tb_ml_Kept_40) rfl (Nat.le_of_ble_eq_true rfl) ha) (fun v => rfl) rfl hr (fun r1 h1 => t_Paths_lineFrom _ _ _ _ _ h1) (fun x3 h2 hr => ?_)
      refine j_iastore (pc := 55) d_Kept_takeVerse_55 hr (fun h4 hr => ?_)
      refine j_aload_n (pc := 56) d_Kept_takeVerse_56 rfl ?_
      refine j_iload (pc := 57) d_Kept_takeVerse_57 rfl ?_
      refine j_aload_n (pc := 59) d_Kept_takeVerse_59 rfl ?_
      refine j_getf (pc := 60) d_Kept_takeVerse_60 (fd_Kept_9 rfl) hr (fun hr => ?_)
      refine j_iload (pc := 63) d_Kept_takeVerse_63 rfl ?_
      refine j_iaload (pc := 65) d_Kept_takeVerse_65 hr (fun hr => ?_)
      obtain ⟨ha, hr⟩ := chk_some hr
      refine j_callG (pc := 66) (stk := [(0, hpV h4 (hpV h4 v0 0) v5), (0, v4), (2, v1)]) (as := [(2, v1), (0, v4), (0, hpV h4 (hpV h4 v0 0) v5)]) (P := (fun v9 => ((0 : Nat), v9) :: [])) (tg := 0) (My := M_Graph_behind) (mRunV (as := [(0, v4), (0, hpV h4 (hpV h4 v0 0) v5)]) (st := []) d_Kept_takeVerse_66 (mc_Graph_behind (by decide)) rfl (mv_Graph_behind tb_ml_Kept_44) rfl (Nat.le_of_ble_eq_true rfl) ha) (fun v => rfl) rfl hr (fun r1 h1 => t_Graph_behind _ _ _ _ _ h1) (fun x6 h5 hr => ?_)
      refine j_istore (pc := 69) (ls' := [(2, v0), (2, v1), (2, v2), (9, 0), (0, x6), (0, v5)]) d_Kept_takeVerse_69 rfl ?_
      refine j_iincW (pc := 71) (L := fun x7 => [(2, v0), (2, v1), (2, v2), (9, 0), (0, x6), (0, x7)]) d_Kept_takeVerse_71 rfl (fun _ => rfl) hr (fun x7 hr => ?_)
      refine j_goto (pc := 74) (tgt := 24) d_Kept_takeVerse_74 ?_
      exact mJ_weak (ls' := [(2, v0), (2, v1), (2, v2), (9, 0), (0, x6), (0, x7)]) (mwk_s (mwk_s (mwk_s (mwk_s (mwk_s (mwk_s mwk_n)))))) (hR24 h5 _ _ hr)
theorem t_Kept_takeVerse {G : mG} (h : mH) (v0 v1 v2 v3 : Int) (r : mR) (hr : f_Kept_takeVerse h v0 v1 v2 v3 = some r) : mJM G M_Kept_takeVerse [(2, v0), (2, v1), (2, v2), (0, v3)] h r := by
  refine mJM_of (L := [(2, v0), (2, v1), (2, v2), (0, v3), (9, 0), (9, 0)]) rfl rfl rfl (Nat.le_of_ble_eq_true rfl) ?_
  unfold f_Kept_takeVerse at hr
  refine j_aload_n (pc := 0) d_Kept_takeVerse_0 rfl ?_
  refine j_iconst (pc := 1) d_Kept_takeVerse_1 ?_
  refine j_aload_n (pc := 2) d_Kept_takeVerse_2 rfl ?_
  refine j_iload_n (pc := 3) d_Kept_takeVerse_3 rfl ?_
  obtain ⟨ha, hr⟩ := chk_some hr
  refine j_callG (pc := 4) (stk := [(0, v3), (2, v2), (0, 0), (2, v0)]) (as := [(2, v2), (0, v3)]) (P := (fun v9 => ((0 : Nat), v9) :: [(0, 0), (2, v0)])) (tg := 0) (My := M_Paths_farOf) (mRunV (as := [(0, v3)]) (st := [(0, 0), (2, v0)]) d_Kept_takeVerse_4 (mc_Paths_farOf (by decide)) rfl (mv_Paths_farOf tb_ml_Kept_21) rfl (Nat.le_of_ble_eq_true rfl) ha) (fun v => rfl) rfl hr (fun r1 h1 => t_Paths_farOf _ _ _ _ h1) (fun x2 h1 hr => ?_)
  refine j_max (pc := 7) d_Kept_takeVerse_7 tb_ml_Kept_27 tb_sm_Math_max tb_in_java_lang_Math tb_co_Math_max (Nat.le_of_ble_eq_true rfl) ?_
  refine j_bipush (pc := 10) d_Kept_takeVerse_10 ?_
  refine j_min (pc := 12) d_Kept_takeVerse_12 tb_ml_Kept_33 tb_sm_Math_min tb_in_java_lang_Math tb_co_Math_min (Nat.le_of_ble_eq_true rfl) ?_
  refine j_puti (pc := 15) d_Kept_takeVerse_15 (fd_Kept_36 rfl) (⟨_, _, _, rfl, Or.inl rfl, rfl⟩ : mFldW M_Kept_takeVerse 36 5 3 .int) hr (fun h3 hr => ?_)
  refine j_iload_n (pc := 18) d_Kept_takeVerse_18 rfl ?_
  refine j_istore (pc := 19) (ls' := [(2, v0), (2, v1), (2, v2), (0, v3), (0, v3), (9, 0)]) d_Kept_takeVerse_19 rfl ?_
  refine j_iconst (pc := 21) d_Kept_takeVerse_21 ?_
  refine j_istore (pc := 22) (ls' := [(2, v0), (2, v1), (2, v2), (0, v3), (0, v3), (0, 0)]) d_Kept_takeVerse_22 rfl ?_
  refine mJ_weak (ls' := [(2, v0), (2, v1), (2, v2), (9, 0), (0, v3), (0, 0)]) (mwk_s (mwk_s (mwk_s (mwk_d (mwk_s (mwk_s mwk_n)))))) (t_Kept_takeVerse_L24 (fun h4 x5 hr => ?_) _ _ _ _ hr)
  · refine j_aload_n (pc := 77) d_Kept_takeVerse_77 rfl ?_
    refine j_getf (pc := 78) d_Kept_takeVerse_78 (fd_Kept_15 rfl) hr (fun hr => ?_)
    refine j_aload_n (pc := 81) d_Kept_takeVerse_81 rfl ?_
    refine j_getf (pc := 82) d_Kept_takeVerse_82 (fd_Kept_36 rfl) hr (fun hr => ?_)
    refine j_iload (pc := 85) d_Kept_takeVerse_85 rfl ?_
    refine j_iastore (pc := 87) d_Kept_takeVerse_87 hr (fun h6 hr => ?_)
    exact j_vret (pc := 88) d_Kept_takeVerse_88 rfl hr
def M_Nb_keeps : mM := ("NineBars", ⟨"NineBars", "keeps", "(II)J"⟩, prog_1_method_34_code, 5, some .long, [], 13)
theorem tb_co_Nb_keeps : mTB (Cond.code ⟨"NineBars", "keeps", "(II)J"⟩ prog_1_method_34_code 5 (some .long)) := tbq6 7 (by decide +kernel) rfl
theorem mc_Nb_keeps {M : mM} (hd : 13 < mDp M) : mCal M M_Nb_keeps 2 := ⟨tb_co_Nb_keeps, tb_in_NineBars, ⟨by decide +kernel, by decide +kernel⟩, by decide +kernel, hd, by decide⟩
theorem d_Nb_keeps_0 : decode prog_1_method_34_code 0 = .ok (.iload_n 1, 1) := by decide +kernel
theorem d_Nb_keeps_1 : decode prog_1_method_34_code 1 = .ok (.iconst 1, 1) := by decide +kernel
theorem d_Nb_keeps_2 : decode prog_1_method_34_code 2 = .ok (.if_icmp .lt 17, 3) := by decide +kernel
theorem d_Nb_keeps_19 : decode prog_1_method_34_code 19 = .ok (.new 109, 3) := by decide +kernel
theorem d_Nb_keeps_22 : decode prog_1_method_34_code 22 = .ok (.dup, 1) := by decide +kernel
theorem d_Nb_keeps_23 : decode prog_1_method_34_code 23 = .ok (.ldc_w 347, 3) := by decide +kernel
theorem d_Nb_keeps_26 : decode prog_1_method_34_code 26 = .ok (.invokespecial 113, 3) := by decide +kernel
theorem d_Nb_keeps_29 : decode prog_1_method_34_code 29 = .ok (.athrow, 1) := by decide +kernel
theorem d_Nb_keeps_5 : decode prog_1_method_34_code 5 = .ok (.iload_n 1, 1) := by decide +kernel
theorem d_Nb_keeps_6 : decode prog_1_method_34_code 6 = .ok (.iconst 2, 1) := by decide +kernel
theorem d_Nb_keeps_7 : decode prog_1_method_34_code 7 = .ok (.if_icmp .gt 12, 3) := by decide +kernel
theorem d_Nb_keeps_10 : decode prog_1_method_34_code 10 = .ok (.iload_n 2, 1) := by decide +kernel
theorem d_Nb_keeps_11 : decode prog_1_method_34_code 11 = .ok (.ifCond .lt 8, 3) := by decide +kernel
theorem d_Nb_keeps_14 : decode prog_1_method_34_code 14 = .ok (.iload_n 2, 1) := by decide +kernel
theorem d_Nb_keeps_15 : decode prog_1_method_34_code 15 = .ok (.iconst 2, 1) := by decide +kernel
theorem d_Nb_keeps_16 : decode prog_1_method_34_code 16 = .ok (.if_icmp .le 14, 3) := by decide +kernel
theorem d_Nb_keeps_30 : decode prog_1_method_34_code 30 = .ok (.aload_n 0, 1) := by decide +kernel
theorem d_Nb_keeps_31 : decode prog_1_method_34_code 31 = .ok (.invokevirtual 260, 3) := by decide +kernel
theorem d_Nb_keeps_34 : decode prog_1_method_34_code 34 = .ok (.aload_n 0, 1) := by decide +kernel
theorem d_Nb_keeps_35 : decode prog_1_method_34_code 35 = .ok (.getfield 27, 3) := by decide +kernel
theorem d_Nb_keeps_38 : decode prog_1_method_34_code 38 = .ok (.aload_n 0, 1) := by decide +kernel
theorem d_Nb_keeps_39 : decode prog_1_method_34_code 39 = .ok (.getfield 27, 3) := by decide +kernel
theorem d_Nb_keeps_42 : decode prog_1_method_34_code 42 = .ok (.getfield 149, 3) := by decide +kernel
theorem d_Nb_keeps_45 : decode prog_1_method_34_code 45 = .ok (.invokevirtual 198, 3) := by decide +kernel
theorem d_Nb_keeps_48 : decode prog_1_method_34_code 48 = .ok (.istore_n 3, 1) := by decide +kernel
theorem d_Nb_keeps_49 : decode prog_1_method_34_code 49 = .ok (.aload_n 0, 1) := by decide +kernel
theorem d_Nb_keeps_50 : decode prog_1_method_34_code 50 = .ok (.invokevirtual 274, 3) := by decide +kernel
theorem d_Nb_keeps_53 : decode prog_1_method_34_code 53 = .ok (.iload_n 3, 1) := by decide +kernel
theorem d_Nb_keeps_54 : decode prog_1_method_34_code 54 = .ok (.invokevirtual 263, 3) := by decide +kernel
theorem d_Nb_keeps_57 : decode prog_1_method_34_code 57 = .ok (.istore 4, 2) := by decide +kernel
theorem d_Nb_keeps_59 : decode prog_1_method_34_code 59 = .ok (.iload 4, 2) := by decide +kernel
theorem d_Nb_keeps_61 : decode prog_1_method_34_code 61 = .ok (.iload_n 1, 1) := by decide +kernel
theorem d_Nb_keeps_62 : decode prog_1_method_34_code 62 = .ok (.if_icmp .lt 15, 3) := by decide +kernel
theorem tb_cj_Nb_349 : mTB (Cond.constantLong "NineBars" 349 (-1)) := tbq6 9 (by decide +kernel) rfl
theorem d_Nb_keeps_77 : decode prog_1_method_34_code 77 = .ok (.ldc2_w 349, 3) := by decide +kernel
theorem d_Nb_keeps_80 : decode prog_1_method_34_code 80 = .ok (.lreturn, 1) := by decide +kernel
theorem d_Nb_keeps_65 : decode prog_1_method_34_code 65 = .ok (.iload 4, 2) := by decide +kernel
theorem d_Nb_keeps_67 : decode prog_1_method_34_code 67 = .ok (.bipush 40, 2) := by decide +kernel
theorem d_Nb_keeps_69 : decode prog_1_method_34_code 69 = .ok (.if_icmp .gt 8, 3) := by decide +kernel
theorem d_Nb_keeps_72 : decode prog_1_method_34_code 72 = .ok (.iload_n 2, 1) := by decide +kernel
theorem d_Nb_keeps_73 : decode prog_1_method_34_code 73 = .ok (.iload_n 1, 1) := by decide +kernel
theorem d_Nb_keeps_74 : decode prog_1_method_34_code 74 = .ok (.if_icmp .le 7, 3) := by decide +kernel
theorem d_Nb_keeps_81 : decode prog_1_method_34_code 81 = .ok (.aload_n 0, 1) := by decide +kernel
theorem d_Nb_keeps_82 : decode prog_1_method_34_code 82 = .ok (.getfield 91, 3) := by decide +kernel
theorem d_Nb_keeps_85 : decode prog_1_method_34_code 85 = .ok (.aload_n 0, 1) := by decide +kernel
theorem d_Nb_keeps_86 : decode prog_1_method_34_code 86 = .ok (.getfield 48, 3) := by decide +kernel
theorem d_Nb_keeps_89 : decode prog_1_method_34_code 89 = .ok (.aload_n 0, 1) := by decide +kernel
theorem d_Nb_keeps_90 : decode prog_1_method_34_code 90 = .ok (.getfield 61, 3) := by decide +kernel
theorem d_Nb_keeps_93 : decode prog_1_method_34_code 93 = .ok (.iload_n 3, 1) := by decide +kernel
theorem d_Nb_keeps_94 : decode prog_1_method_34_code 94 = .ok (.invokevirtual 351, 3) := by decide +kernel
theorem tb_ml_Nb_351 : mTB (Cond.methodLink "NineBars" 351 ⟨"NineBars$Kept", "takeVerse", "(LNineBars$Graph;LNineBars$Paths;I)V"⟩) := tbq6 10 (by decide +kernel) rfl
theorem tb_im_Kept_takeVerse : mTB (Cond.instanceMethod ⟨"NineBars$Kept", "takeVerse", "(LNineBars$Graph;LNineBars$Paths;I)V"⟩) := tbq6 11 (by decide +kernel) rfl
theorem tb_se_Kept_takeVerse : mTB (Cond.selects "NineBars$Kept" ⟨"NineBars$Kept", "takeVerse", "(LNineBars$Graph;LNineBars$Paths;I)V"⟩ ⟨"NineBars$Kept", "takeVerse", "(LNineBars$Graph;LNineBars$Paths;I)V"⟩) := tbq6 12 (by decide +kernel) rfl
theorem mv_Kept_takeVerse {M : mM} {idx : Nat} (h : mTB (Cond.methodLink (mO M) idx ⟨"NineBars$Kept", "takeVerse", "(LNineBars$Graph;LNineBars$Paths;I)V"⟩)) : mCaV M M_Kept_takeVerse idx 5 := ⟨h, tb_im_Kept_takeVerse, tb_se_Kept_takeVerse, by decide, TX5, 7, rfl⟩
theorem d_Nb_keeps_97 : decode prog_1_method_34_code 97 = .ok (.aload_n 0, 1) := by decide +kernel
theorem d_Nb_keeps_98 : decode prog_1_method_34_code 98 = .ok (.getfield 91, 3) := by decide +kernel
theorem d_Nb_keeps_101 : decode prog_1_method_34_code 101 = .ok (.aload_n 0, 1) := by decide +kernel
theorem d_Nb_keeps_102 : decode prog_1_method_34_code 102 = .ok (.getfield 48, 3) := by decide +kernel
theorem d_Nb_keeps_105 : decode prog_1_method_34_code 105 = .ok (.iload_n 1, 1) := by decide +kernel
theorem d_Nb_keeps_106 : decode prog_1_method_34_code 106 = .ok (.invokevirtual 355, 3) := by decide +kernel
theorem tb_ml_Nb_355 : mTB (Cond.methodLink "NineBars" 355 ⟨"NineBars$Kept", "seek", "(LNineBars$Graph;I)V"⟩) := tbq6 19 (by decide +kernel) rfl
theorem tb_im_Kept_seek : mTB (Cond.instanceMethod ⟨"NineBars$Kept", "seek", "(LNineBars$Graph;I)V"⟩) := tbq6 20 (by decide +kernel) rfl
theorem tb_se_Kept_seek : mTB (Cond.selects "NineBars$Kept" ⟨"NineBars$Kept", "seek", "(LNineBars$Graph;I)V"⟩ ⟨"NineBars$Kept", "seek", "(LNineBars$Graph;I)V"⟩) := tbq6 21 (by decide +kernel) rfl
theorem mv_Kept_seek {M : mM} {idx : Nat} (h : mTB (Cond.methodLink (mO M) idx ⟨"NineBars$Kept", "seek", "(LNineBars$Graph;I)V"⟩)) : mCaV M M_Kept_seek idx 5 := ⟨h, tb_im_Kept_seek, tb_se_Kept_seek, by decide, TX5, 7, rfl⟩
theorem d_Nb_keeps_109 : decode prog_1_method_34_code 109 = .ok (.iload_n 2, 1) := by decide +kernel
theorem d_Nb_keeps_110 : decode prog_1_method_34_code 110 = .ok (.ifCond .ne 14, 3) := by decide +kernel
theorem d_Nb_keeps_124 : decode prog_1_method_34_code 124 = .ok (.iload_n 2, 1) := by decide +kernel
theorem d_Nb_keeps_125 : decode prog_1_method_34_code 125 = .ok (.iconst 1, 1) := by decide +kernel
theorem d_Nb_keeps_126 : decode prog_1_method_34_code 126 = .ok (.if_icmp .ne 14, 3) := by decide +kernel
theorem d_Nb_keeps_140 : decode prog_1_method_34_code 140 = .ok (.aload_n 0, 1) := by decide +kernel
theorem d_Nb_keeps_141 : decode prog_1_method_34_code 141 = .ok (.getfield 91, 3) := by decide +kernel
theorem tb_fl_Nb_362 : mTN (Cond.fieldLinkNest "NineBars" 362 "NineBars$Kept" "second" "I" "NineBars") := tbqn2 112 (by decide +kernel) rfl
theorem fd_Nb_362 {M : mM} (h : mO M = "NineBars") : mFld M 362 5 6 0 := ⟨_, _, _, tyX5, rfl, by decide, by decide, rfl, uw_5, tyX5_ok, nmX5, by rw [h]; exact Or.inr ⟨_, tb_fl_Nb_362⟩⟩
theorem d_Nb_keeps_144 : decode prog_1_method_34_code 144 = .ok (.getfield 362, 3) := by decide +kernel
theorem d_Nb_keeps_147 : decode prog_1_method_34_code 147 = .ok (.i2l, 1) := by decide +kernel
theorem d_Nb_keeps_148 : decode prog_1_method_34_code 148 = .ok (.lreturn, 1) := by decide +kernel
theorem d_Nb_keeps_129 : decode prog_1_method_34_code 129 = .ok (.aload_n 0, 1) := by decide +kernel
theorem d_Nb_keeps_130 : decode prog_1_method_34_code 130 = .ok (.getfield 91, 3) := by decide +kernel
theorem tb_fl_Nb_359 : mTN (Cond.fieldLinkNest "NineBars" 359 "NineBars$Kept" "first" "I" "NineBars") := tbqn2 110 (by decide +kernel) rfl
theorem fd_Nb_359 {M : mM} (h : mO M = "NineBars") : mFld M 359 5 5 0 := ⟨_, _, _, tyX5, rfl, by decide, by decide, rfl, uw_5, tyX5_ok, nmX5, by rw [h]; exact Or.inr ⟨_, tb_fl_Nb_359⟩⟩
theorem d_Nb_keeps_133 : decode prog_1_method_34_code 133 = .ok (.getfield 359, 3) := by decide +kernel
theorem d_Nb_keeps_136 : decode prog_1_method_34_code 136 = .ok (.i2l, 1) := by decide +kernel
theorem d_Nb_keeps_137 : decode prog_1_method_34_code 137 = .ok (.goto 11, 3) := by decide +kernel
theorem d_Nb_keeps_113 : decode prog_1_method_34_code 113 = .ok (.aload_n 0, 1) := by decide +kernel
theorem d_Nb_keeps_114 : decode prog_1_method_34_code 114 = .ok (.getfield 91, 3) := by decide +kernel
theorem tb_fl_Nb_356 : mTN (Cond.fieldLinkNest "NineBars" 356 "NineBars$Kept" "most" "I" "NineBars") := tbqn2 108 (by decide +kernel) rfl
theorem fd_Nb_356 {M : mM} (h : mO M = "NineBars") : mFld M 356 5 4 0 := ⟨_, _, _, tyX5, rfl, by decide, by decide, rfl, uw_5, tyX5_ok, nmX5, by rw [h]; exact Or.inr ⟨_, tb_fl_Nb_356⟩⟩
theorem d_Nb_keeps_117 : decode prog_1_method_34_code 117 = .ok (.getfield 356, 3) := by decide +kernel
theorem d_Nb_keeps_120 : decode prog_1_method_34_code 120 = .ok (.i2l, 1) := by decide +kernel
theorem d_Nb_keeps_121 : decode prog_1_method_34_code 121 = .ok (.goto 27, 3) := by decide +kernel
theorem t_Nb_keeps {G : mG} (h : mH) (v0 v1 v2 : Int) (r : mR) (hr : f_Nb_keeps h v0 v1 v2 = some r) : mJM G M_Nb_keeps [(2, v0), (0, v1), (0, v2)] h r := by
  refine mJM_of (L := [(2, v0), (0, v1), (0, v2), (9, 0), (9, 0)]) rfl rfl rfl (Nat.le_of_ble_eq_true rfl) ?_
  unfold f_Nb_keeps at hr
  refine j_iload_n (pc := 0) d_Nb_keeps_0 rfl ?_
  refine j_iconst (pc := 1) d_Nb_keeps_1 ?_
  refine j_icmp_lt (pc := 2) (tgt := 19) d_Nb_keeps_2 hr (fun hr => ?_) (fun hr => ?_)
  · exact j_throwW (pc := 19) (x9 := 7) (text := "n is 1 or 2, what is 0 to 2") (k := 29) d_Nb_keeps_19 d_Nb_keeps_22 d_Nb_keeps_23 d_Nb_keeps_26 d_Nb_keeps_29 rfl (by decide +kernel) tb_cl_Nb_109 tb_in_java_lang_IllegalArgumentException (by decide +kernel) rfl (Nat.le_of_ble_eq_true rfl) hr
  · refine j_iload_n (pc := 5) d_Nb_keeps_5 rfl ?_
    refine j_iconst (pc := 6) d_Nb_keeps_6 ?_
    refine j_icmp_gt (pc := 7) (tgt := 19) d_Nb_keeps_7 hr (fun hr => ?_) (fun hr => ?_)
    · exact j_throwW (pc := 19) (x9 := 7) (text := "n is 1 or 2, what is 0 to 2") (k := 29) d_Nb_keeps_19 d_Nb_keeps_22 d_Nb_keeps_23 d_Nb_keeps_26 d_Nb_keeps_29 rfl (by decide +kernel) tb_cl_Nb_109 tb_in_java_lang_IllegalArgumentException (by decide +kernel) rfl (Nat.le_of_ble_eq_true rfl) hr
    · refine j_iload_n (pc := 10) d_Nb_keeps_10 rfl ?_
      refine j_if_lt (pc := 11) (tgt := 19) d_Nb_keeps_11 hr (fun hr => ?_) (fun hr => ?_)
      · exact j_throwW (pc := 19) (x9 := 7) (text := "n is 1 or 2, what is 0 to 2") (k := 29) d_Nb_keeps_19 d_Nb_keeps_22 d_Nb_keeps_23 d_Nb_keeps_26 d_Nb_keeps_29 rfl (by decide +kernel) tb_cl_Nb_109 tb_in_java_lang_IllegalArgumentException (by decide +kernel) rfl (Nat.le_of_ble_eq_true rfl) hr
      · refine j_iload_n (pc := 14) d_Nb_keeps_14 rfl ?_
        refine j_iconst (pc := 15) d_Nb_keeps_15 ?_
        refine j_icmp_le (pc := 16) (tgt := 30) d_Nb_keeps_16 hr (fun hr => ?_) (fun hr => ?_)
        · refine j_aload_n (pc := 30) d_Nb_keeps_30 rfl ?_
          obtain ⟨ha, hr⟩ := chk_some hr
          refine j_callG (pc := 31) (stk := [(2, v0)]) (as := [(2, v0)]) (P := (fun v9 => [])) (tg := 3) (My := M_Nb_needGraph) (mRunV (as := []) (st := []) d_Nb_keeps_31 (mc_Nb_needGraph (by decide)) rfl (mv_Nb_needGraph tb_ml_Nb_260) rfl (Nat.le_of_ble_eq_true rfl) ha) (fun v => rfl) rfl hr (fun r1 h1 => t_Nb_needGraph _ _ _ h1) (fun x2 h1 hr => ?_)
          refine j_aload_n (pc := 34) d_Nb_keeps_34 rfl ?_
          refine j_getf (pc := 35) d_Nb_keeps_35 (fd_Nb_27 rfl) hr (fun hr => ?_)
          refine j_aload_n (pc := 38) d_Nb_keeps_38 rfl ?_
          refine j_getf (pc := 39) d_Nb_keeps_39 (fd_Nb_27 rfl) hr (fun hr => ?_)
          refine j_getf (pc := 42) d_Nb_keeps_42 (fd_Nb_149 rfl) hr (fun hr => ?_)
          obtain ⟨ha, hr⟩ := chk_some hr
          refine j_callG (pc := 45) (stk := [(2, hpV h1 (hpV h1 v0 6) 9), (2, hpV h1 v0 6)]) (as := [(2, hpV h1 v0 6), (2, hpV h1 (hpV h1 v0 6) 9)]) (P := (fun v9 => ((0 : Nat), v9) :: [])) (tg := 0) (My := M_Box_standOf) (mRunV (as := [(2, hpV h1 (hpV h1 v0 6) 9)]) (st := []) d_Nb_keeps_45 (mc_Box_standOf (by decide)) rfl (mv_Box_standOf tb_ml_Nb_198) rfl (Nat.le_of_ble_eq_true rfl) ha) (fun v => rfl) rfl hr (fun r1 h1 => t_Box_standOf _ _ _ _ h1) (fun x4 h3 hr => ?_)
          refine j_istore_n (pc := 48) (ls' := [(2, v0), (0, v1), (0, v2), (0, x4), (9, 0)]) d_Nb_keeps_48 rfl ?_
          refine j_aload_n (pc := 49) d_Nb_keeps_49 rfl ?_
          obtain ⟨ha, hr⟩ := chk_some hr
          refine j_callG (pc := 50) (stk := [(2, v0)]) (as := [(2, v0)]) (P := (fun v9 => ((2 : Nat), v9) :: [])) (tg := 2) (My := M_Nb_toOpen) (mRunV (as := []) (st := []) d_Nb_keeps_50 (mc_Nb_toOpen (by decide)) rfl (mv_Nb_toOpen tb_ml_Nb_274) rfl (Nat.le_of_ble_eq_true rfl) ha) (fun v => rfl) rfl hr (fun r1 h1 => t_Nb_toOpen _ _ _ h1) (fun x6 h5 hr => ?_)
          refine j_iload_n (pc := 53) d_Nb_keeps_53 rfl ?_
          obtain ⟨ha, hr⟩ := chk_some hr
          refine j_callG (pc := 54) (stk := [(0, x4), (2, x6)]) (as := [(2, x6), (0, x4)]) (P := (fun v9 => ((0 : Nat), v9) :: [])) (tg := 0) (My := M_Paths_farOf) (mRunV (as := [(0, x4)]) (st := []) d_Nb_keeps_54 (mc_Paths_farOf (by decide)) rfl (mv_Paths_farOf tb_ml_Nb_263) rfl (Nat.le_of_ble_eq_true rfl) ha) (fun v => rfl) rfl hr (fun r1 h1 => t_Paths_farOf _ _ _ _ h1) (fun x8 h7 hr => ?_)
          refine j_istore (pc := 57) (ls' := [(2, v0), (0, v1), (0, v2), (0, x4), (0, x8)]) d_Nb_keeps_57 rfl ?_
          refine j_iload (pc := 59) d_Nb_keeps_59 rfl ?_
          refine j_iload_n (pc := 61) d_Nb_keeps_61 rfl ?_
          refine j_icmp_lt (pc := 62) (tgt := 77) d_Nb_keeps_62 hr (fun hr => ?_) (fun hr => ?_)
          · refine j_ldc2 (pc := 77) (z := (-1)) d_Nb_keeps_77 tb_cj_Nb_349 rfl ?_
            exact j_lret (pc := 80) d_Nb_keeps_80 rfl hr
          · refine j_iload (pc := 65) d_Nb_keeps_65 rfl ?_
            refine j_bipush (pc := 67) d_Nb_keeps_67 ?_
            refine j_icmp_gt (pc := 69) (tgt := 77) d_Nb_keeps_69 hr (fun hr => ?_) (fun hr => ?_)
            · refine j_ldc2 (pc := 77) (z := (-1)) d_Nb_keeps_77 tb_cj_Nb_349 rfl ?_
              exact j_lret (pc := 80) d_Nb_keeps_80 rfl hr
            · refine j_iload_n (pc := 72) d_Nb_keeps_72 rfl ?_
              refine j_iload_n (pc := 73) d_Nb_keeps_73 rfl ?_
              refine j_icmp_le (pc := 74) (tgt := 81) d_Nb_keeps_74 hr (fun hr => ?_) (fun hr => ?_)
              · refine j_aload_n (pc := 81) d_Nb_keeps_81 rfl ?_
                refine j_getf (pc := 82) d_Nb_keeps_82 (fd_Nb_91 rfl) hr (fun hr => ?_)
                refine j_aload_n (pc := 85) d_Nb_keeps_85 rfl ?_
                refine j_getf (pc := 86) d_Nb_keeps_86 (fd_Nb_48 rfl) hr (fun hr => ?_)
                refine j_aload_n (pc := 89) d_Nb_keeps_89 rfl ?_
                refine j_getf (pc := 90) d_Nb_keeps_90 (fd_Nb_61 rfl) hr (fun hr => ?_)
                refine j_iload_n (pc := 93) d_Nb_keeps_93 rfl ?_
                obtain ⟨ha, hr⟩ := chk_some hr
                refine j_callG (pc := 94) (stk := [(0, x4), (2, hpV h7 v0 12), (2, hpV h7 v0 10), (2, hpV h7 v0 17)]) (as := [(2, hpV h7 v0 17), (2, hpV h7 v0 10), (2, hpV h7 v0 12), (0, x4)]) (P := (fun v9 => [])) (tg := 3) (My := M_Kept_takeVerse) (mRunV (as := [(2, hpV h7 v0 10), (2, hpV h7 v0 12), (0, x4)]) (st := []) d_Nb_keeps_94 (mc_Kept_takeVerse (by decide)) rfl (mv_Kept_takeVerse tb_ml_Nb_351) rfl (Nat.le_of_ble_eq_true rfl) ha) (fun v => rfl) rfl hr (fun r1 h1 => t_Kept_takeVerse _ _ _ _ _ _ h1) (fun x10 h9 hr => ?_)
                refine j_aload_n (pc := 97) d_Nb_keeps_97 rfl ?_
                refine j_getf (pc := 98) d_Nb_keeps_98 (fd_Nb_91 rfl) hr (fun hr => ?_)
                refine j_aload_n (pc := 101) d_Nb_keeps_101 rfl ?_
                refine j_getf (pc := 102) d_Nb_keeps_102 (fd_Nb_48 rfl) hr (fun hr => ?_)
                refine j_iload_n (pc := 105) d_Nb_keeps_105 rfl ?_
                obtain ⟨ha, hr⟩ := chk_some hr
                refine j_callG (pc := 106) (stk := [(0, v1), (2, hpV h9 v0 10), (2, hpV h9 v0 17)]) (as := [(2, hpV h9 v0 17), (2, hpV h9 v0 10), (0, v1)]) (P := (fun v9 => [])) (tg := 3) (My := M_Kept_seek) (mRunV (as := [(2, hpV h9 v0 10), (0, v1)]) (st := []) d_Nb_keeps_106 (mc_Kept_seek (by decide)) rfl (mv_Kept_seek tb_ml_Nb_355) rfl (Nat.le_of_ble_eq_true rfl) ha) (fun v => rfl) rfl hr (fun r1 h1 => t_Kept_seek _ _ _ _ _ h1) (fun x12 h11 hr => ?_)
                refine j_iload_n (pc := 109) d_Nb_keeps_109 rfl ?_
                refine j_if_ne (pc := 110) (tgt := 124) d_Nb_keeps_110 hr (fun hr => ?_) (fun hr => ?_)
                · refine j_iload_n (pc := 124) d_Nb_keeps_124 rfl ?_
                  refine j_iconst (pc := 125) d_Nb_keeps_125 ?_
                  refine j_icmp_ne (pc := 126) (tgt := 140) d_Nb_keeps_126 hr (fun hr => ?_) (fun hr => ?_)
                  · refine j_aload_n (pc := 140) d_Nb_keeps_140 rfl ?_
                    refine j_getf (pc := 141) d_Nb_keeps_141 (fd_Nb_91 rfl) hr (fun hr => ?_)
                    refine j_getf (pc := 144) d_Nb_keeps_144 (fd_Nb_362 rfl) hr (fun hr => ?_)
                    refine j_i2l (pc := 147) d_Nb_keeps_147 ?_
                    exact j_lret (pc := 148) d_Nb_keeps_148 rfl hr
                  · refine j_aload_n (pc := 129) d_Nb_keeps_129 rfl ?_
                    refine j_getf (pc := 130) d_Nb_keeps_130 (fd_Nb_91 rfl) hr (fun hr => ?_)
                    refine j_getf (pc := 133) d_Nb_keeps_133 (fd_Nb_359 rfl) hr (fun hr => ?_)
                    refine j_i2l (pc := 136) d_Nb_keeps_136 ?_
                    refine j_goto (pc := 137) (tgt := 148) d_Nb_keeps_137 ?_
                    exact j_lret (pc := 148) d_Nb_keeps_148 rfl hr
                · refine j_aload_n (pc := 113) d_Nb_keeps_113 rfl ?_
                  refine j_getf (pc := 114) d_Nb_keeps_114 (fd_Nb_91 rfl) hr (fun hr => ?_)
                  refine j_getf (pc := 117) d_Nb_keeps_117 (fd_Nb_356 rfl) hr (fun hr => ?_)
                  refine j_i2l (pc := 120) d_Nb_keeps_120 ?_
                  refine j_goto (pc := 121) (tgt := 148) d_Nb_keeps_121 ?_
                  exact j_lret (pc := 148) d_Nb_keeps_148 rfl hr
              · refine j_ldc2 (pc := 77) (z := (-1)) d_Nb_keeps_77 tb_cj_Nb_349 rfl ?_
                exact j_lret (pc := 80) d_Nb_keeps_80 rfl hr
        · exact j_throwW (pc := 19) (x9 := 7) (text := "n is 1 or 2, what is 0 to 2") (k := 29) d_Nb_keeps_19 d_Nb_keeps_22 d_Nb_keeps_23 d_Nb_keeps_26 d_Nb_keeps_29 rfl (by decide +kernel) tb_cl_Nb_109 tb_in_java_lang_IllegalArgumentException (by decide +kernel) rfl (Nat.le_of_ble_eq_true rfl) hr
