def M_Box_init : mM := ("NineBars$Box", ⟨"NineBars$Box", "<init>", "()V"⟩, prog_2_method_1_code, 1, none, [], 1)
theorem tb_co_Box_init : mTB (Cond.code ⟨"NineBars$Box", "<init>", "()V"⟩ prog_2_method_1_code 1 (none)) := tbq1 73 (by decide +kernel) rfl
theorem tb_in_NineBars_Box : mTB (Cond.initialized "NineBars$Box") := tbq1 3 (by decide +kernel) rfl
theorem mc_Box_init {M : mM} (hd : 1 < mDp M) : mCal M M_Box_init 0 := ⟨tb_co_Box_init, tb_in_NineBars_Box, ⟨by decide +kernel, by decide +kernel⟩, by decide +kernel, hd, by decide⟩
theorem d_Box_init_0 : decode prog_2_method_1_code 0 = .ok (.aload_n 0, 1) := by decide +kernel
theorem d_Box_init_1 : decode prog_2_method_1_code 1 = .ok (.invokespecial 3, 3) := by decide +kernel
theorem tb_ml_Box_3 : mTB (Cond.methodLink "NineBars$Box" 3 ⟨"java/lang/Object", "<init>", "()V"⟩) := tbq1 74 (by decide +kernel) rfl
theorem tb_im_Obj : mTB (Cond.instanceMethod ⟨"java/lang/Object", "<init>", "()V"⟩) := tbq1 33 (by decide +kernel) rfl
theorem tb_co_Obj : mTB (Cond.code ⟨"java/lang/Object", "<init>", "()V"⟩ object_method_1_code 1 none) := tbq1 34 (by decide +kernel) rfl
theorem d_Box_init_4 : decode prog_2_method_1_code 4 = .ok (.aload_n 0, 1) := by decide +kernel
theorem d_Box_init_5 : decode prog_2_method_1_code 5 = .ok (.bipush 9, 2) := by decide +kernel
theorem tb_ac_int : mTB (Cond.arrayClass .int) := tbq1 159 (by decide +kernel) rfl
theorem d_Box_init_7 : decode prog_2_method_1_code 7 = .ok (.newarray .int, 2) := by decide +kernel
theorem tb_fl_Box_9 : mTB (Cond.fieldLink "NineBars$Box" 9 "NineBars$Box" "places" "[I") := tbq1 96 (by decide +kernel) rfl
theorem fd_Box_9 {M : mM} (h : mO M = "NineBars$Box") : mFld M 9 0 6 2 := ⟨_, _, _, tyX0, rfl, by decide, by decide, rfl, uw_0, tyX0_ok, nmX0, by rw [h]; exact Or.inl tb_fl_Box_9⟩
theorem d_Box_init_9 : decode prog_2_method_1_code 9 = .ok (.putfield 9, 3) := by decide +kernel
theorem d_Box_init_12 : decode prog_2_method_1_code 12 = .ok (.aload_n 0, 1) := by decide +kernel
theorem d_Box_init_13 : decode prog_2_method_1_code 13 = .ok (.bipush 9, 2) := by decide +kernel
theorem d_Box_init_15 : decode prog_2_method_1_code 15 = .ok (.newarray .int, 2) := by decide +kernel
theorem tb_fl_Box_15 : mTB (Cond.fieldLink "NineBars$Box" 15 "NineBars$Box" "starts" "[I") := tbq1 101 (by decide +kernel) rfl
theorem fd_Box_15 {M : mM} (h : mO M = "NineBars$Box") : mFld M 15 0 7 2 := ⟨_, _, _, tyX0, rfl, by decide, by decide, rfl, uw_0, tyX0_ok, nmX0, by rw [h]; exact Or.inl tb_fl_Box_15⟩
theorem d_Box_init_17 : decode prog_2_method_1_code 17 = .ok (.putfield 15, 3) := by decide +kernel
theorem d_Box_init_20 : decode prog_2_method_1_code 20 = .ok (.aload_n 0, 1) := by decide +kernel
theorem d_Box_init_21 : decode prog_2_method_1_code 21 = .ok (.bipush 9, 2) := by decide +kernel
theorem d_Box_init_23 : decode prog_2_method_1_code 23 = .ok (.newarray .int, 2) := by decide +kernel
theorem tb_fl_Box_18 : mTB (Cond.fieldLink "NineBars$Box" 18 "NineBars$Box" "opens" "[I") := tbq1 103 (by decide +kernel) rfl
theorem fd_Box_18 {M : mM} (h : mO M = "NineBars$Box") : mFld M 18 0 8 2 := ⟨_, _, _, tyX0, rfl, by decide, by decide, rfl, uw_0, tyX0_ok, nmX0, by rw [h]; exact Or.inl tb_fl_Box_18⟩
theorem d_Box_init_25 : decode prog_2_method_1_code 25 = .ok (.putfield 18, 3) := by decide +kernel
theorem d_Box_init_28 : decode prog_2_method_1_code 28 = .ok (.aload_n 0, 1) := by decide +kernel
theorem d_Box_init_29 : decode prog_2_method_1_code 29 = .ok (.bipush 9, 2) := by decide +kernel
theorem d_Box_init_31 : decode prog_2_method_1_code 31 = .ok (.newarray .int, 2) := by decide +kernel
theorem tb_fl_Box_21 : mTB (Cond.fieldLink "NineBars$Box" 21 "NineBars$Box" "at" "[I") := tbq1 106 (by decide +kernel) rfl
theorem fd_Box_21 {M : mM} (h : mO M = "NineBars$Box") : mFld M 21 0 9 2 := ⟨_, _, _, tyX0, rfl, by decide, by decide, rfl, uw_0, tyX0_ok, nmX0, by rw [h]; exact Or.inl tb_fl_Box_21⟩
theorem d_Box_init_33 : decode prog_2_method_1_code 33 = .ok (.putfield 21, 3) := by decide +kernel
theorem d_Box_init_36 : decode prog_2_method_1_code 36 = .ok (.aload_n 0, 1) := by decide +kernel
theorem d_Box_init_37 : decode prog_2_method_1_code 37 = .ok (.bipush 9, 2) := by decide +kernel
theorem d_Box_init_39 : decode prog_2_method_1_code 39 = .ok (.newarray .int, 2) := by decide +kernel
theorem tb_fl_Box_24 : mTB (Cond.fieldLink "NineBars$Box" 24 "NineBars$Box" "made" "[I") := tbq1 109 (by decide +kernel) rfl
theorem fd_Box_24 {M : mM} (h : mO M = "NineBars$Box") : mFld M 24 0 10 2 := ⟨_, _, _, tyX0, rfl, by decide, by decide, rfl, uw_0, tyX0_ok, nmX0, by rw [h]; exact Or.inl tb_fl_Box_24⟩
theorem d_Box_init_41 : decode prog_2_method_1_code 41 = .ok (.putfield 24, 3) := by decide +kernel
theorem d_Box_init_44 : decode prog_2_method_1_code 44 = .ok (.aload_n 0, 1) := by decide +kernel
theorem d_Box_init_45 : decode prog_2_method_1_code 45 = .ok (.bipush 24, 2) := by decide +kernel
theorem d_Box_init_47 : decode prog_2_method_1_code 47 = .ok (.newarray .int, 2) := by decide +kernel
theorem tb_fl_Box_27 : mTB (Cond.fieldLink "NineBars$Box" 27 "NineBars$Box" "ruleBars" "[I") := tbq1 111 (by decide +kernel) rfl
theorem fd_Box_27 {M : mM} (h : mO M = "NineBars$Box") : mFld M 27 0 11 2 := ⟨_, _, _, tyX0, rfl, by decide, by decide, rfl, uw_0, tyX0_ok, nmX0, by rw [h]; exact Or.inl tb_fl_Box_27⟩
theorem d_Box_init_49 : decode prog_2_method_1_code 49 = .ok (.putfield 27, 3) := by decide +kernel
theorem d_Box_init_52 : decode prog_2_method_1_code 52 = .ok (.aload_n 0, 1) := by decide +kernel
theorem d_Box_init_53 : decode prog_2_method_1_code 53 = .ok (.bipush 24, 2) := by decide +kernel
theorem d_Box_init_55 : decode prog_2_method_1_code 55 = .ok (.newarray .int, 2) := by decide +kernel
theorem tb_fl_Box_30 : mTB (Cond.fieldLink "NineBars$Box" 30 "NineBars$Box" "ruleFroms" "[I") := tbq1 113 (by decide +kernel) rfl
theorem fd_Box_30 {M : mM} (h : mO M = "NineBars$Box") : mFld M 30 0 12 2 := ⟨_, _, _, tyX0, rfl, by decide, by decide, rfl, uw_0, tyX0_ok, nmX0, by rw [h]; exact Or.inl tb_fl_Box_30⟩
theorem d_Box_init_57 : decode prog_2_method_1_code 57 = .ok (.putfield 30, 3) := by decide +kernel
theorem d_Box_init_60 : decode prog_2_method_1_code 60 = .ok (.aload_n 0, 1) := by decide +kernel
theorem d_Box_init_61 : decode prog_2_method_1_code 61 = .ok (.bipush 24, 2) := by decide +kernel
theorem d_Box_init_63 : decode prog_2_method_1_code 63 = .ok (.newarray .int, 2) := by decide +kernel
theorem tb_fl_Box_33 : mTB (Cond.fieldLink "NineBars$Box" 33 "NineBars$Box" "ruleTos" "[I") := tbq1 115 (by decide +kernel) rfl
theorem fd_Box_33 {M : mM} (h : mO M = "NineBars$Box") : mFld M 33 0 13 2 := ⟨_, _, _, tyX0, rfl, by decide, by decide, rfl, uw_0, tyX0_ok, nmX0, by rw [h]; exact Or.inl tb_fl_Box_33⟩
theorem d_Box_init_65 : decode prog_2_method_1_code 65 = .ok (.putfield 33, 3) := by decide +kernel
theorem d_Box_init_68 : decode prog_2_method_1_code 68 = .ok (.aload_n 0, 1) := by decide +kernel
theorem d_Box_init_69 : decode prog_2_method_1_code 69 = .ok (.bipush 24, 2) := by decide +kernel
theorem d_Box_init_71 : decode prog_2_method_1_code 71 = .ok (.newarray .int, 2) := by decide +kernel
theorem tb_fl_Box_36 : mTB (Cond.fieldLink "NineBars$Box" 36 "NineBars$Box" "ruleFacts" "[I") := tbq1 117 (by decide +kernel) rfl
theorem fd_Box_36 {M : mM} (h : mO M = "NineBars$Box") : mFld M 36 0 14 2 := ⟨_, _, _, tyX0, rfl, by decide, by decide, rfl, uw_0, tyX0_ok, nmX0, by rw [h]; exact Or.inl tb_fl_Box_36⟩
theorem d_Box_init_73 : decode prog_2_method_1_code 73 = .ok (.putfield 36, 3) := by decide +kernel
theorem d_Box_init_76 : decode prog_2_method_1_code 76 = .ok (.aload_n 0, 1) := by decide +kernel
theorem d_Box_init_77 : decode prog_2_method_1_code 77 = .ok (.bipush 96, 2) := by decide +kernel
theorem d_Box_init_79 : decode prog_2_method_1_code 79 = .ok (.newarray .int, 2) := by decide +kernel
theorem tb_fl_Box_39 : mTB (Cond.fieldLink "NineBars$Box" 39 "NineBars$Box" "factBars" "[I") := tbq1 119 (by decide +kernel) rfl
theorem fd_Box_39 {M : mM} (h : mO M = "NineBars$Box") : mFld M 39 0 15 2 := ⟨_, _, _, tyX0, rfl, by decide, by decide, rfl, uw_0, tyX0_ok, nmX0, by rw [h]; exact Or.inl tb_fl_Box_39⟩
theorem d_Box_init_81 : decode prog_2_method_1_code 81 = .ok (.putfield 39, 3) := by decide +kernel
theorem d_Box_init_84 : decode prog_2_method_1_code 84 = .ok (.aload_n 0, 1) := by decide +kernel
theorem d_Box_init_85 : decode prog_2_method_1_code 85 = .ok (.bipush 96, 2) := by decide +kernel
theorem d_Box_init_87 : decode prog_2_method_1_code 87 = .ok (.newarray .int, 2) := by decide +kernel
theorem tb_fl_Box_42 : mTB (Cond.fieldLink "NineBars$Box" 42 "NineBars$Box" "factPlaces" "[I") := tbq1 120 (by decide +kernel) rfl
theorem fd_Box_42 {M : mM} (h : mO M = "NineBars$Box") : mFld M 42 0 16 2 := ⟨_, _, _, tyX0, rfl, by decide, by decide, rfl, uw_0, tyX0_ok, nmX0, by rw [h]; exact Or.inl tb_fl_Box_42⟩
theorem d_Box_init_89 : decode prog_2_method_1_code 89 = .ok (.putfield 42, 3) := by decide +kernel
theorem d_Box_init_92 : decode prog_2_method_1_code 92 = .ok (.aload_n 0, 1) := by decide +kernel
theorem d_Box_init_93 : decode prog_2_method_1_code 93 = .ok (.bipush 96, 2) := by decide +kernel
theorem d_Box_init_95 : decode prog_2_method_1_code 95 = .ok (.newarray .int, 2) := by decide +kernel
theorem tb_fl_Box_45 : mTB (Cond.fieldLink "NineBars$Box" 45 "NineBars$Box" "factNots" "[I") := tbq1 121 (by decide +kernel) rfl
theorem fd_Box_45 {M : mM} (h : mO M = "NineBars$Box") : mFld M 45 0 17 2 := ⟨_, _, _, tyX0, rfl, by decide, by decide, rfl, uw_0, tyX0_ok, nmX0, by rw [h]; exact Or.inl tb_fl_Box_45⟩
theorem d_Box_init_97 : decode prog_2_method_1_code 97 = .ok (.putfield 45, 3) := by decide +kernel
theorem d_Box_init_100 : decode prog_2_method_1_code 100 = .ok (.return_, 1) := by decide +kernel
theorem t_Box_init {G : mG} (h : mH) (v0 : Int) (r : mR) (hr : f_Box_init h v0 = some r) : mJM G M_Box_init [(2, v0)] h r := by
  refine mJM_of (L := [(2, v0)]) rfl rfl rfl (Nat.le_of_ble_eq_true rfl) ?_
  unfold f_Box_init at hr
  refine j_aload_n (pc := 0) d_Box_init_0 rfl ?_
  obtain ⟨ha, hr⟩ := chk_some hr
  refine j_objInit (pc := 1) d_Box_init_1 tb_ml_Box_3 tb_im_Obj tb_co_Obj (Nat.le_of_ble_eq_true rfl) ha ?_
  refine j_aload_n (pc := 4) d_Box_init_4 rfl ?_
  refine j_bipush (pc := 5) d_Box_init_5 ?_
  refine j_newI (pc := 7) d_Box_init_7 tb_ac_int hr (fun h1 hr => ?_)
  refine j_puta (pc := 9) d_Box_init_9 (fd_Box_9 rfl) (⟨_, _, _, rfl, Or.inr ⟨rfl, rfl, rfl, tb_fl_Box_9⟩, rfl⟩ : mFldW M_Box_init 9 0 6 (.array .int)) (Or.inr ⟨_, rfl⟩) hr (fun h2 hr => ?_)
  refine j_aload_n (pc := 12) d_Box_init_12 rfl ?_
  refine j_bipush (pc := 13) d_Box_init_13 ?_
  refine j_newI (pc := 15) d_Box_init_15 tb_ac_int hr (fun h3 hr => ?_)
  refine j_puta (pc := 17) d_Box_init_17 (fd_Box_15 rfl) (⟨_, _, _, rfl, Or.inr ⟨rfl, rfl, rfl, tb_fl_Box_15⟩, rfl⟩ : mFldW M_Box_init 15 0 7 (.array .int)) (Or.inr ⟨_, rfl⟩) hr (fun h4 hr => ?_)
  refine j_aload_n (pc := 20) d_Box_init_20 rfl ?_
  refine j_bipush (pc := 21) d_Box_init_21 ?_
  refine j_newI (pc := 23) d_Box_init_23 tb_ac_int hr (fun h5 hr => ?_)
  refine j_puta (pc := 25) d_Box_init_25 (fd_Box_18 rfl) (⟨_, _, _, rfl, Or.inr ⟨rfl, rfl, rfl, tb_fl_Box_18⟩, rfl⟩ : mFldW M_Box_init 18 0 8 (.array .int)) (Or.inr ⟨_, rfl⟩) hr (fun h6 hr => ?_)
  refine j_aload_n (pc := 28) d_Box_init_28 rfl ?_
  refine j_bipush (pc := 29) d_Box_init_29 ?_
  refine j_newI (pc := 31) d_Box_init_31 tb_ac_int hr (fun h7 hr => ?_)
  refine j_puta (pc := 33) d_Box_init_33 (fd_Box_21 rfl) (⟨_, _, _, rfl, Or.inr ⟨rfl, rfl, rfl, tb_fl_Box_21⟩, rfl⟩ : mFldW M_Box_init 21 0 9 (.array .int)) (Or.inr ⟨_, rfl⟩) hr (fun h8 hr => ?_)
  refine j_aload_n (pc := 36) d_Box_init_36 rfl ?_
  refine j_bipush (pc := 37) d_Box_init_37 ?_
  refine j_newI (pc := 39) d_Box_init_39 tb_ac_int hr (fun h9 hr => ?_)
  refine j_puta (pc := 41) d_Box_init_41 (fd_Box_24 rfl) (⟨_, _, _, rfl, Or.inr ⟨rfl, rfl, rfl, tb_fl_Box_24⟩, rfl⟩ : mFldW M_Box_init 24 0 10 (.array .int)) (Or.inr ⟨_, rfl⟩) hr (fun h10 hr => ?_)
  refine j_aload_n (pc := 44) d_Box_init_44 rfl ?_
  refine j_bipush (pc := 45) d_Box_init_45 ?_
  refine j_newI (pc := 47) d_Box_init_47 tb_ac_int hr (fun h11 hr => ?_)
  refine j_puta (pc := 49) d_Box_init_49 (fd_Box_27 rfl) (⟨_, _, _, rfl, Or.inr ⟨rfl, rfl, rfl, tb_fl_Box_27⟩, rfl⟩ : mFldW M_Box_init 27 0 11 (.array .int)) (Or.inr ⟨_, rfl⟩) hr (fun h12 hr => ?_)
  refine j_aload_n (pc := 52) d_Box_init_52 rfl ?_
  refine j_bipush (pc := 53) d_Box_init_53 ?_
  refine j_newI (pc := 55) d_Box_init_55 tb_ac_int hr (fun h13 hr => ?_)
  refine j_puta (pc := 57) d_Box_init_57 (fd_Box_30 rfl) (⟨_, _, _, rfl, Or.inr ⟨rfl, rfl, rfl, tb_fl_Box_30⟩, rfl⟩ : mFldW M_Box_init 30 0 12 (.array .int)) (Or.inr ⟨_, rfl⟩) hr (fun h14 hr => ?_)
  refine j_aload_n (pc := 60) d_Box_init_60 rfl ?_
  refine j_bipush (pc := 61) d_Box_init_61 ?_
  refine j_newI (pc := 63) d_Box_init_63 tb_ac_int hr (fun h15 hr => ?_)
  refine j_puta (pc := 65) d_Box_init_65 (fd_Box_33 rfl) (⟨_, _, _, rfl, Or.inr ⟨rfl, rfl, rfl, tb_fl_Box_33⟩, rfl⟩ : mFldW M_Box_init 33 0 13 (.array .int)) (Or.inr ⟨_, rfl⟩) hr (fun h16 hr => ?_)
  refine j_aload_n (pc := 68) d_Box_init_68 rfl ?_
  refine j_bipush (pc := 69) d_Box_init_69 ?_
  refine j_newI (pc := 71) d_Box_init_71 tb_ac_int hr (fun h17 hr => ?_)
  refine j_puta (pc := 73) d_Box_init_73 (fd_Box_36 rfl) (⟨_, _, _, rfl, Or.inr ⟨rfl, rfl, rfl, tb_fl_Box_36⟩, rfl⟩ : mFldW M_Box_init 36 0 14 (.array .int)) (Or.inr ⟨_, rfl⟩) hr (fun h18 hr => ?_)
  refine j_aload_n (pc := 76) d_Box_init_76 rfl ?_
  refine j_bipush (pc := 77) d_Box_init_77 ?_
  refine j_newI (pc := 79) d_Box_init_79 tb_ac_int hr (fun h19 hr => ?_)
  refine j_puta (pc := 81) d_Box_init_81 (fd_Box_39 rfl) (⟨_, _, _, rfl, Or.inr ⟨rfl, rfl, rfl, tb_fl_Box_39⟩, rfl⟩ : mFldW M_Box_init 39 0 15 (.array .int)) (Or.inr ⟨_, rfl⟩) hr (fun h20 hr => ?_)
  refine j_aload_n (pc := 84) d_Box_init_84 rfl ?_
  refine j_bipush (pc := 85) d_Box_init_85 ?_
  refine j_newI (pc := 87) d_Box_init_87 tb_ac_int hr (fun h21 hr => ?_)
  refine j_puta (pc := 89) d_Box_init_89 (fd_Box_42 rfl) (⟨_, _, _, rfl, Or.inr ⟨rfl, rfl, rfl, tb_fl_Box_42⟩, rfl⟩ : mFldW M_Box_init 42 0 16 (.array .int)) (Or.inr ⟨_, rfl⟩) hr (fun h22 hr => ?_)
  refine j_aload_n (pc := 92) d_Box_init_92 rfl ?_
  refine j_bipush (pc := 93) d_Box_init_93 ?_
  refine j_newI (pc := 95) d_Box_init_95 tb_ac_int hr (fun h23 hr => ?_)
  refine j_puta (pc := 97) d_Box_init_97 (fd_Box_45 rfl) (⟨_, _, _, rfl, Or.inr ⟨rfl, rfl, rfl, tb_fl_Box_45⟩, rfl⟩ : mFldW M_Box_init 45 0 17 (.array .int)) (Or.inr ⟨_, rfl⟩) hr (fun h24 hr => ?_)
  exact j_vret (pc := 100) d_Box_init_100 rfl hr
def M_Counter_init : mM := ("NineBars$Counter", ⟨"NineBars$Counter", "<init>", "()V"⟩, prog_3_method_1_code, 1, none, [], 1)
theorem tb_co_Counter_init : mTB (Cond.code ⟨"NineBars$Counter", "<init>", "()V"⟩ prog_3_method_1_code 1 (none)) := tbq2 43 (by decide +kernel) rfl
theorem tb_in_NineBars_Counter : mTB (Cond.initialized "NineBars$Counter") := tbq1 7 (by decide +kernel) rfl
theorem mc_Counter_init {M : mM} (hd : 1 < mDp M) : mCal M M_Counter_init 0 := ⟨tb_co_Counter_init, tb_in_NineBars_Counter, ⟨by decide +kernel, by decide +kernel⟩, by decide +kernel, hd, by decide⟩
theorem d_Counter_init_0 : decode prog_3_method_1_code 0 = .ok (.aload_n 0, 1) := by decide +kernel
theorem d_Counter_init_1 : decode prog_3_method_1_code 1 = .ok (.invokespecial 3, 3) := by decide +kernel
theorem tb_ml_Counter_3 : mTB (Cond.methodLink "NineBars$Counter" 3 ⟨"java/lang/Object", "<init>", "()V"⟩) := tbq2 44 (by decide +kernel) rfl
theorem d_Counter_init_4 : decode prog_3_method_1_code 4 = .ok (.aload_n 0, 1) := by decide +kernel
theorem d_Counter_init_5 : decode prog_3_method_1_code 5 = .ok (.iconst 0, 1) := by decide +kernel
theorem tb_ac_long : mTB (Cond.arrayClass .long) := tbq1 184 (by decide +kernel) rfl
theorem d_Counter_init_6 : decode prog_3_method_1_code 6 = .ok (.newarray .long, 2) := by decide +kernel
theorem tb_fl_Counter_9 : mTB (Cond.fieldLink "NineBars$Counter" 9 "NineBars$Counter" "here" "[J") := tbq2 45 (by decide +kernel) rfl
theorem fd_Counter_9 {M : mM} (h : mO M = "NineBars$Counter") : mFld M 9 1 0 2 := ⟨_, _, _, tyX1, rfl, by decide, by decide, rfl, uw_1, tyX1_ok, nmX1, by rw [h]; exact Or.inl tb_fl_Counter_9⟩
theorem d_Counter_init_8 : decode prog_3_method_1_code 8 = .ok (.putfield 9, 3) := by decide +kernel
theorem d_Counter_init_11 : decode prog_3_method_1_code 11 = .ok (.aload_n 0, 1) := by decide +kernel
theorem d_Counter_init_12 : decode prog_3_method_1_code 12 = .ok (.iconst 0, 1) := by decide +kernel
theorem d_Counter_init_13 : decode prog_3_method_1_code 13 = .ok (.newarray .long, 2) := by decide +kernel
theorem tb_fl_Counter_15 : mTB (Cond.fieldLink "NineBars$Counter" 15 "NineBars$Counter" "next" "[J") := tbq2 46 (by decide +kernel) rfl
theorem fd_Counter_15 {M : mM} (h : mO M = "NineBars$Counter") : mFld M 15 1 1 2 := ⟨_, _, _, tyX1, rfl, by decide, by decide, rfl, uw_1, tyX1_ok, nmX1, by rw [h]; exact Or.inl tb_fl_Counter_15⟩
theorem d_Counter_init_15 : decode prog_3_method_1_code 15 = .ok (.putfield 15, 3) := by decide +kernel
theorem d_Counter_init_18 : decode prog_3_method_1_code 18 = .ok (.return_, 1) := by decide +kernel
theorem t_Counter_init {G : mG} (h : mH) (v0 : Int) (r : mR) (hr : f_Counter_init h v0 = some r) : mJM G M_Counter_init [(2, v0)] h r := by
  refine mJM_of (L := [(2, v0)]) rfl rfl rfl (Nat.le_of_ble_eq_true rfl) ?_
  unfold f_Counter_init at hr
  refine j_aload_n (pc := 0) d_Counter_init_0 rfl ?_
  obtain ⟨ha, hr⟩ := chk_some hr
  refine j_objInit (pc := 1) d_Counter_init_1 tb_ml_Counter_3 tb_im_Obj tb_co_Obj (Nat.le_of_ble_eq_true rfl) ha ?_
  refine j_aload_n (pc := 4) d_Counter_init_4 rfl ?_
  refine j_iconst (pc := 5) d_Counter_init_5 ?_
  refine j_newJ (pc := 6) d_Counter_init_6 tb_ac_long hr (fun h1 hr => ?_)
  refine j_puta (pc := 8) d_Counter_init_8 (fd_Counter_9 rfl) (⟨_, _, _, rfl, Or.inl rfl, rfl⟩ : mFldW M_Counter_init 9 1 0 (.array .long)) (Or.inr ⟨_, rfl⟩) hr (fun h2 hr => ?_)
  refine j_aload_n (pc := 11) d_Counter_init_11 rfl ?_
  refine j_iconst (pc := 12) d_Counter_init_12 ?_
  refine j_newJ (pc := 13) d_Counter_init_13 tb_ac_long hr (fun h3 hr => ?_)
  refine j_puta (pc := 15) d_Counter_init_15 (fd_Counter_15 rfl) (⟨_, _, _, rfl, Or.inl rfl, rfl⟩ : mFldW M_Counter_init 15 1 1 (.array .long)) (Or.inr ⟨_, rfl⟩) hr (fun h4 hr => ?_)
  exact j_vret (pc := 18) d_Counter_init_18 rfl hr
def M_Fits_init : mM := ("NineBars$Fits", ⟨"NineBars$Fits", "<init>", "()V"⟩, prog_4_method_1_code, 1, none, [], 1)
theorem tb_co_Fits_init : mTB (Cond.code ⟨"NineBars$Fits", "<init>", "()V"⟩ prog_4_method_1_code 1 (none)) := tbq2 132 (by decide +kernel) rfl
theorem tb_in_NineBars_Fits : mTB (Cond.initialized "NineBars$Fits") := tbq1 11 (by decide +kernel) rfl
theorem mc_Fits_init {M : mM} (hd : 1 < mDp M) : mCal M M_Fits_init 0 := ⟨tb_co_Fits_init, tb_in_NineBars_Fits, ⟨by decide +kernel, by decide +kernel⟩, by decide +kernel, hd, by decide⟩
theorem d_Fits_init_0 : decode prog_4_method_1_code 0 = .ok (.aload_n 0, 1) := by decide +kernel
theorem d_Fits_init_1 : decode prog_4_method_1_code 1 = .ok (.invokespecial 3, 3) := by decide +kernel
theorem tb_ml_Fits_3 : mTB (Cond.methodLink "NineBars$Fits" 3 ⟨"java/lang/Object", "<init>", "()V"⟩) := tbq2 133 (by decide +kernel) rfl
theorem d_Fits_init_4 : decode prog_4_method_1_code 4 = .ok (.aload_n 0, 1) := by decide +kernel
theorem d_Fits_init_5 : decode prog_4_method_1_code 5 = .ok (.bipush 72, 2) := by decide +kernel
theorem d_Fits_init_7 : decode prog_4_method_1_code 7 = .ok (.newarray .int, 2) := by decide +kernel
theorem tb_fl_Fits_9 : mTB (Cond.fieldLink "NineBars$Fits" 9 "NineBars$Fits" "codes" "[I") := tbq2 134 (by decide +kernel) rfl
theorem fd_Fits_9 {M : mM} (h : mO M = "NineBars$Fits") : mFld M 9 2 0 2 := ⟨_, _, _, tyX2, rfl, by decide, by decide, rfl, uw_2, tyX2_ok, nmX2, by rw [h]; exact Or.inl tb_fl_Fits_9⟩
theorem d_Fits_init_9 : decode prog_4_method_1_code 9 = .ok (.putfield 9, 3) := by decide +kernel
theorem d_Fits_init_12 : decode prog_4_method_1_code 12 = .ok (.aload_n 0, 1) := by decide +kernel
theorem d_Fits_init_13 : decode prog_4_method_1_code 13 = .ok (.bipush 36, 2) := by decide +kernel
theorem d_Fits_init_15 : decode prog_4_method_1_code 15 = .ok (.newarray .int, 2) := by decide +kernel
theorem tb_fl_Fits_15 : mTB (Cond.fieldLink "NineBars$Fits" 15 "NineBars$Fits" "holding" "[I") := tbq2 136 (by decide +kernel) rfl
theorem fd_Fits_15 {M : mM} (h : mO M = "NineBars$Fits") : mFld M 15 2 1 2 := ⟨_, _, _, tyX2, rfl, by decide, by decide, rfl, uw_2, tyX2_ok, nmX2, by rw [h]; exact Or.inl tb_fl_Fits_15⟩
theorem d_Fits_init_17 : decode prog_4_method_1_code 17 = .ok (.putfield 15, 3) := by decide +kernel
theorem d_Fits_init_20 : decode prog_4_method_1_code 20 = .ok (.aload_n 0, 1) := by decide +kernel
theorem d_Fits_init_21 : decode prog_4_method_1_code 21 = .ok (.bipush 9, 2) := by decide +kernel
theorem d_Fits_init_23 : decode prog_4_method_1_code 23 = .ok (.newarray .int, 2) := by decide +kernel
theorem tb_fl_Fits_18 : mTB (Cond.fieldLink "NineBars$Fits" 18 "NineBars$Fits" "row" "[I") := tbq2 137 (by decide +kernel) rfl
theorem fd_Fits_18 {M : mM} (h : mO M = "NineBars$Fits") : mFld M 18 2 2 2 := ⟨_, _, _, tyX2, rfl, by decide, by decide, rfl, uw_2, tyX2_ok, nmX2, by rw [h]; exact Or.inl tb_fl_Fits_18⟩
theorem d_Fits_init_25 : decode prog_4_method_1_code 25 = .ok (.putfield 18, 3) := by decide +kernel
theorem d_Fits_init_28 : decode prog_4_method_1_code 28 = .ok (.return_, 1) := by decide +kernel
theorem t_Fits_init {G : mG} (h : mH) (v0 : Int) (r : mR) (hr : f_Fits_init h v0 = some r) : mJM G M_Fits_init [(2, v0)] h r := by
  refine mJM_of (L := [(2, v0)]) rfl rfl rfl (Nat.le_of_ble_eq_true rfl) ?_
  unfold f_Fits_init at hr
  refine j_aload_n (pc := 0) d_Fits_init_0 rfl ?_
  obtain ⟨ha, hr⟩ := chk_some hr
  refine j_objInit (pc := 1) d_Fits_init_1 tb_ml_Fits_3 tb_im_Obj tb_co_Obj (Nat.le_of_ble_eq_true rfl) ha ?_
  refine j_aload_n (pc := 4) d_Fits_init_4 rfl ?_
  refine j_bipush (pc := 5) d_Fits_init_5 ?_
  refine j_newI (pc := 7) d_Fits_init_7 tb_ac_int hr (fun h1 hr => ?_)
  refine j_puta (pc := 9) d_Fits_init_9 (fd_Fits_9 rfl) (⟨_, _, _, rfl, Or.inr ⟨rfl, rfl, rfl, tb_fl_Fits_9⟩, rfl⟩ : mFldW M_Fits_init 9 2 0 (.array .int)) (Or.inr ⟨_, rfl⟩) hr (fun h2 hr => ?_)
  refine j_aload_n (pc := 12) d_Fits_init_12 rfl ?_
  refine j_bipush (pc := 13) d_Fits_init_13 ?_
  refine j_newI (pc := 15) d_Fits_init_15 tb_ac_int hr (fun h3 hr => ?_)
  refine j_puta (pc := 17) d_Fits_init_17 (fd_Fits_15 rfl) (⟨_, _, _, rfl, Or.inr ⟨rfl, rfl, rfl, tb_fl_Fits_15⟩, rfl⟩ : mFldW M_Fits_init 15 2 1 (.array .int)) (Or.inr ⟨_, rfl⟩) hr (fun h4 hr => ?_)
  refine j_aload_n (pc := 20) d_Fits_init_20 rfl ?_
  refine j_bipush (pc := 21) d_Fits_init_21 ?_
  refine j_newI (pc := 23) d_Fits_init_23 tb_ac_int hr (fun h5 hr => ?_)
  refine j_puta (pc := 25) d_Fits_init_25 (fd_Fits_18 rfl) (⟨_, _, _, rfl, Or.inr ⟨rfl, rfl, rfl, tb_fl_Fits_18⟩, rfl⟩ : mFldW M_Fits_init 18 2 2 (.array .int)) (Or.inr ⟨_, rfl⟩) hr (fun h6 hr => ?_)
  exact j_vret (pc := 28) d_Fits_init_28 rfl hr
def M_Game_init : mM := ("NineBars$Game", ⟨"NineBars$Game", "<init>", "()V"⟩, prog_5_method_1_code, 1, none, [], 1)
theorem tb_co_Game_init : mTB (Cond.code ⟨"NineBars$Game", "<init>", "()V"⟩ prog_5_method_1_code 1 (none)) := tbq2 56 (by decide +kernel) rfl
theorem tb_in_NineBars_Game : mTB (Cond.initialized "NineBars$Game") := tbq1 8 (by decide +kernel) rfl
theorem mc_Game_init {M : mM} (hd : 1 < mDp M) : mCal M M_Game_init 0 := ⟨tb_co_Game_init, tb_in_NineBars_Game, ⟨by decide +kernel, by decide +kernel⟩, by decide +kernel, hd, by decide⟩
theorem d_Game_init_0 : decode prog_5_method_1_code 0 = .ok (.aload_n 0, 1) := by decide +kernel
theorem d_Game_init_1 : decode prog_5_method_1_code 1 = .ok (.invokespecial 3, 3) := by decide +kernel
theorem tb_ml_Game_3 : mTB (Cond.methodLink "NineBars$Game" 3 ⟨"java/lang/Object", "<init>", "()V"⟩) := tbq2 57 (by decide +kernel) rfl
theorem d_Game_init_4 : decode prog_5_method_1_code 4 = .ok (.aload_n 0, 1) := by decide +kernel
theorem d_Game_init_5 : decode prog_5_method_1_code 5 = .ok (.iconst 0, 1) := by decide +kernel
theorem d_Game_init_6 : decode prog_5_method_1_code 6 = .ok (.newarray .int, 2) := by decide +kernel
theorem tb_fl_Game_9 : mTB (Cond.fieldLink "NineBars$Game" 9 "NineBars$Game" "turns" "[I") := tbq2 58 (by decide +kernel) rfl
theorem fd_Game_9 {M : mM} (h : mO M = "NineBars$Game") : mFld M 9 3 0 2 := ⟨_, _, _, tyX3, rfl, by decide, by decide, rfl, uw_3, tyX3_ok, nmX3, by rw [h]; exact Or.inl tb_fl_Game_9⟩
theorem d_Game_init_8 : decode prog_5_method_1_code 8 = .ok (.putfield 9, 3) := by decide +kernel
theorem d_Game_init_11 : decode prog_5_method_1_code 11 = .ok (.aload_n 0, 1) := by decide +kernel
theorem d_Game_init_12 : decode prog_5_method_1_code 12 = .ok (.iconst 0, 1) := by decide +kernel
theorem d_Game_init_13 : decode prog_5_method_1_code 13 = .ok (.newarray .int, 2) := by decide +kernel
theorem tb_fl_Game_15 : mTB (Cond.fieldLink "NineBars$Game" 15 "NineBars$Game" "left" "[I") := tbq2 59 (by decide +kernel) rfl
theorem fd_Game_15 {M : mM} (h : mO M = "NineBars$Game") : mFld M 15 3 1 2 := ⟨_, _, _, tyX3, rfl, by decide, by decide, rfl, uw_3, tyX3_ok, nmX3, by rw [h]; exact Or.inl tb_fl_Game_15⟩
theorem d_Game_init_15 : decode prog_5_method_1_code 15 = .ok (.putfield 15, 3) := by decide +kernel
theorem d_Game_init_18 : decode prog_5_method_1_code 18 = .ok (.aload_n 0, 1) := by decide +kernel
theorem d_Game_init_19 : decode prog_5_method_1_code 19 = .ok (.iconst 0, 1) := by decide +kernel
theorem d_Game_init_20 : decode prog_5_method_1_code 20 = .ok (.newarray .int, 2) := by decide +kernel
theorem tb_fl_Game_18 : mTB (Cond.fieldLink "NineBars$Game" 18 "NineBars$Game" "settled" "[I") := tbq2 60 (by decide +kernel) rfl
theorem fd_Game_18 {M : mM} (h : mO M = "NineBars$Game") : mFld M 18 3 2 2 := ⟨_, _, _, tyX3, rfl, by decide, by decide, rfl, uw_3, tyX3_ok, nmX3, by rw [h]; exact Or.inl tb_fl_Game_18⟩
theorem d_Game_init_22 : decode prog_5_method_1_code 22 = .ok (.putfield 18, 3) := by decide +kernel
theorem d_Game_init_25 : decode prog_5_method_1_code 25 = .ok (.return_, 1) := by decide +kernel
theorem t_Game_init {G : mG} (h : mH) (v0 : Int) (r : mR) (hr : f_Game_init h v0 = some r) : mJM G M_Game_init [(2, v0)] h r := by
  refine mJM_of (L := [(2, v0)]) rfl rfl rfl (Nat.le_of_ble_eq_true rfl) ?_
  unfold f_Game_init at hr
  refine j_aload_n (pc := 0) d_Game_init_0 rfl ?_
  obtain ⟨ha, hr⟩ := chk_some hr
  refine j_objInit (pc := 1) d_Game_init_1 tb_ml_Game_3 tb_im_Obj tb_co_Obj (Nat.le_of_ble_eq_true rfl) ha ?_
  refine j_aload_n (pc := 4) d_Game_init_4 rfl ?_
  refine j_iconst (pc := 5) d_Game_init_5 ?_
  refine j_newI (pc := 6) d_Game_init_6 tb_ac_int hr (fun h1 hr => ?_)
  refine j_puta (pc := 8) d_Game_init_8 (fd_Game_9 rfl) (⟨_, _, _, rfl, Or.inl rfl, rfl⟩ : mFldW M_Game_init 9 3 0 (.array .int)) (Or.inr ⟨_, rfl⟩) hr (fun h2 hr => ?_)
  refine j_aload_n (pc := 11) d_Game_init_11 rfl ?_
  refine j_iconst (pc := 12) d_Game_init_12 ?_
  refine j_newI (pc := 13) d_Game_init_13 tb_ac_int hr (fun h3 hr => ?_)
  refine j_puta (pc := 15) d_Game_init_15 (fd_Game_15 rfl) (⟨_, _, _, rfl, Or.inl rfl, rfl⟩ : mFldW M_Game_init 15 3 1 (.array .int)) (Or.inr ⟨_, rfl⟩) hr (fun h4 hr => ?_)
  refine j_aload_n (pc := 18) d_Game_init_18 rfl ?_
  refine j_iconst (pc := 19) d_Game_init_19 ?_
  refine j_newI (pc := 20) d_Game_init_20 tb_ac_int hr (fun h5 hr => ?_)
  refine j_puta (pc := 22) d_Game_init_22 (fd_Game_18 rfl) (⟨_, _, _, rfl, Or.inl rfl, rfl⟩ : mFldW M_Game_init 18 3 2 (.array .int)) (Or.inr ⟨_, rfl⟩) hr (fun h6 hr => ?_)
  exact j_vret (pc := 25) d_Game_init_25 rfl hr
def M_Graph_init : mM := ("NineBars$Graph", ⟨"NineBars$Graph", "<init>", "()V"⟩, prog_6_method_1_code, 1, none, [], 1)
theorem tb_co_Graph_init : mTB (Cond.code ⟨"NineBars$Graph", "<init>", "()V"⟩ prog_6_method_1_code 1 (none)) := tbq1 189 (by decide +kernel) rfl
theorem tb_in_NineBars_Graph : mTB (Cond.initialized "NineBars$Graph") := tbq1 5 (by decide +kernel) rfl
theorem mc_Graph_init {M : mM} (hd : 1 < mDp M) : mCal M M_Graph_init 0 := ⟨tb_co_Graph_init, tb_in_NineBars_Graph, ⟨by decide +kernel, by decide +kernel⟩, by decide +kernel, hd, by decide⟩
theorem d_Graph_init_0 : decode prog_6_method_1_code 0 = .ok (.aload_n 0, 1) := by decide +kernel
theorem d_Graph_init_1 : decode prog_6_method_1_code 1 = .ok (.invokespecial 3, 3) := by decide +kernel
theorem tb_ml_Graph_3 : mTB (Cond.methodLink "NineBars$Graph" 3 ⟨"java/lang/Object", "<init>", "()V"⟩) := tbq1 190 (by decide +kernel) rfl
theorem d_Graph_init_4 : decode prog_6_method_1_code 4 = .ok (.aload_n 0, 1) := by decide +kernel
theorem d_Graph_init_5 : decode prog_6_method_1_code 5 = .ok (.iconst (-1), 1) := by decide +kernel
theorem tb_fl_Graph_9 : mTB (Cond.fieldLink "NineBars$Graph" 9 "NineBars$Graph" "edition" "I") := tbq1 191 (by decide +kernel) rfl
theorem fd_Graph_9 {M : mM} (h : mO M = "NineBars$Graph") : mFld M 9 4 0 0 := ⟨_, _, _, tyX4, rfl, by decide, by decide, rfl, uw_4, tyX4_ok, nmX4, by rw [h]; exact Or.inl tb_fl_Graph_9⟩
theorem d_Graph_init_6 : decode prog_6_method_1_code 6 = .ok (.putfield 9, 3) := by decide +kernel
theorem d_Graph_init_9 : decode prog_6_method_1_code 9 = .ok (.aload_n 0, 1) := by decide +kernel
theorem d_Graph_init_10 : decode prog_6_method_1_code 10 = .ok (.iconst (-1), 1) := by decide +kernel
theorem tb_fl_Graph_15 : mTB (Cond.fieldLink "NineBars$Graph" 15 "NineBars$Graph" "wornBits" "I") := tbq1 194 (by decide +kernel) rfl
theorem fd_Graph_15 {M : mM} (h : mO M = "NineBars$Graph") : mFld M 15 4 1 0 := ⟨_, _, _, tyX4, rfl, by decide, by decide, rfl, uw_4, tyX4_ok, nmX4, by rw [h]; exact Or.inl tb_fl_Graph_15⟩
theorem d_Graph_init_11 : decode prog_6_method_1_code 11 = .ok (.putfield 15, 3) := by decide +kernel
theorem d_Graph_init_14 : decode prog_6_method_1_code 14 = .ok (.aload_n 0, 1) := by decide +kernel
theorem d_Graph_init_15 : decode prog_6_method_1_code 15 = .ok (.bipush 18, 2) := by decide +kernel
theorem d_Graph_init_17 : decode prog_6_method_1_code 17 = .ok (.newarray .int, 2) := by decide +kernel
theorem tb_fl_Graph_18 : mTB (Cond.fieldLink "NineBars$Graph" 18 "NineBars$Graph" "shift" "[I") := tbq1 211 (by decide +kernel) rfl
theorem fd_Graph_18 {M : mM} (h : mO M = "NineBars$Graph") : mFld M 18 4 5 2 := ⟨_, _, _, tyX4, rfl, by decide, by decide, rfl, uw_4, tyX4_ok, nmX4, by rw [h]; exact Or.inl tb_fl_Graph_18⟩
theorem d_Graph_init_19 : decode prog_6_method_1_code 19 = .ok (.putfield 18, 3) := by decide +kernel
theorem d_Graph_init_22 : decode prog_6_method_1_code 22 = .ok (.aload_n 0, 1) := by decide +kernel
theorem d_Graph_init_23 : decode prog_6_method_1_code 23 = .ok (.bipush 9, 2) := by decide +kernel
theorem d_Graph_init_25 : decode prog_6_method_1_code 25 = .ok (.newarray .int, 2) := by decide +kernel
theorem tb_fl_Graph_22 : mTB (Cond.fieldLink "NineBars$Graph" 22 "NineBars$Graph" "row" "[I") := tbq1 215 (by decide +kernel) rfl
theorem fd_Graph_22 {M : mM} (h : mO M = "NineBars$Graph") : mFld M 22 4 6 2 := ⟨_, _, _, tyX4, rfl, by decide, by decide, rfl, uw_4, tyX4_ok, nmX4, by rw [h]; exact Or.inl tb_fl_Graph_22⟩
theorem d_Graph_init_27 : decode prog_6_method_1_code 27 = .ok (.putfield 22, 3) := by decide +kernel
theorem d_Graph_init_30 : decode prog_6_method_1_code 30 = .ok (.aload_n 0, 1) := by decide +kernel
theorem d_Graph_init_31 : decode prog_6_method_1_code 31 = .ok (.iconst 0, 1) := by decide +kernel
theorem d_Graph_init_32 : decode prog_6_method_1_code 32 = .ok (.newarray .int, 2) := by decide +kernel
theorem tb_fl_Graph_25 : mTB (Cond.fieldLink "NineBars$Graph" 25 "NineBars$Graph" "able" "[I") := tbq1 216 (by decide +kernel) rfl
theorem fd_Graph_25 {M : mM} (h : mO M = "NineBars$Graph") : mFld M 25 4 7 2 := ⟨_, _, _, tyX4, rfl, by decide, by decide, rfl, uw_4, tyX4_ok, nmX4, by rw [h]; exact Or.inl tb_fl_Graph_25⟩
theorem d_Graph_init_34 : decode prog_6_method_1_code 34 = .ok (.putfield 25, 3) := by decide +kernel
theorem d_Graph_init_37 : decode prog_6_method_1_code 37 = .ok (.aload_n 0, 1) := by decide +kernel
theorem d_Graph_init_38 : decode prog_6_method_1_code 38 = .ok (.iconst 0, 1) := by decide +kernel
theorem d_Graph_init_39 : decode prog_6_method_1_code 39 = .ok (.newarray .int, 2) := by decide +kernel
theorem tb_fl_Graph_28 : mTB (Cond.fieldLink "NineBars$Graph" 28 "NineBars$Graph" "shut" "[I") := tbq1 217 (by decide +kernel) rfl
theorem fd_Graph_28 {M : mM} (h : mO M = "NineBars$Graph") : mFld M 28 4 8 2 := ⟨_, _, _, tyX4, rfl, by decide, by decide, rfl, uw_4, tyX4_ok, nmX4, by rw [h]; exact Or.inl tb_fl_Graph_28⟩
theorem d_Graph_init_41 : decode prog_6_method_1_code 41 = .ok (.putfield 28, 3) := by decide +kernel
theorem d_Graph_init_44 : decode prog_6_method_1_code 44 = .ok (.aload_n 0, 1) := by decide +kernel
theorem d_Graph_init_45 : decode prog_6_method_1_code 45 = .ok (.iconst 0, 1) := by decide +kernel
theorem d_Graph_init_46 : decode prog_6_method_1_code 46 = .ok (.newarray .int, 2) := by decide +kernel
theorem tb_fl_Graph_31 : mTB (Cond.fieldLink "NineBars$Graph" 31 "NineBars$Graph" "goes" "[I") := tbq1 218 (by decide +kernel) rfl
theorem fd_Graph_31 {M : mM} (h : mO M = "NineBars$Graph") : mFld M 31 4 9 2 := ⟨_, _, _, tyX4, rfl, by decide, by decide, rfl, uw_4, tyX4_ok, nmX4, by rw [h]; exact Or.inl tb_fl_Graph_31⟩
theorem d_Graph_init_48 : decode prog_6_method_1_code 48 = .ok (.putfield 31, 3) := by decide +kernel
theorem d_Graph_init_51 : decode prog_6_method_1_code 51 = .ok (.aload_n 0, 1) := by decide +kernel
theorem d_Graph_init_52 : decode prog_6_method_1_code 52 = .ok (.iconst 0, 1) := by decide +kernel
theorem d_Graph_init_53 : decode prog_6_method_1_code 53 = .ok (.newarray .int, 2) := by decide +kernel
theorem tb_fl_Graph_34 : mTB (Cond.fieldLink "NineBars$Graph" 34 "NineBars$Graph" "tried" "[I") := tbq1 220 (by decide +kernel) rfl
theorem fd_Graph_34 {M : mM} (h : mO M = "NineBars$Graph") : mFld M 34 4 10 2 := ⟨_, _, _, tyX4, rfl, by decide, by decide, rfl, uw_4, tyX4_ok, nmX4, by rw [h]; exact Or.inl tb_fl_Graph_34⟩
theorem d_Graph_init_55 : decode prog_6_method_1_code 55 = .ok (.putfield 34, 3) := by decide +kernel
theorem d_Graph_init_58 : decode prog_6_method_1_code 58 = .ok (.return_, 1) := by decide +kernel
theorem t_Graph_init {G : mG} (h : mH) (v0 : Int) (r : mR) (hr : f_Graph_init h v0 = some r) : mJM G M_Graph_init [(2, v0)] h r := by
  refine mJM_of (L := [(2, v0)]) rfl rfl rfl (Nat.le_of_ble_eq_true rfl) ?_
  unfold f_Graph_init at hr
  refine j_aload_n (pc := 0) d_Graph_init_0 rfl ?_
  obtain ⟨ha, hr⟩ := chk_some hr
  refine j_objInit (pc := 1) d_Graph_init_1 tb_ml_Graph_3 tb_im_Obj tb_co_Obj (Nat.le_of_ble_eq_true rfl) ha ?_
  refine j_aload_n (pc := 4) d_Graph_init_4 rfl ?_
  refine j_iconst (pc := 5) d_Graph_init_5 ?_
  refine j_puti (pc := 6) d_Graph_init_6 (fd_Graph_9 rfl) (⟨_, _, _, rfl, Or.inl rfl, rfl⟩ : mFldW M_Graph_init 9 4 0 .int) hr (fun h1 hr => ?_)
  refine j_aload_n (pc := 9) d_Graph_init_9 rfl ?_
  refine j_iconst (pc := 10) d_Graph_init_10 ?_
  refine j_puti (pc := 11) d_Graph_init_11 (fd_Graph_15 rfl) (⟨_, _, _, rfl, Or.inl rfl, rfl⟩ : mFldW M_Graph_init 15 4 1 .int) hr (fun h2 hr => ?_)
  refine j_aload_n (pc := 14) d_Graph_init_14 rfl ?_
  refine j_bipush (pc := 15) d_Graph_init_15 ?_
  refine j_newI (pc := 17) d_Graph_init_17 tb_ac_int hr (fun h3 hr => ?_)
  refine j_puta (pc := 19) d_Graph_init_19 (fd_Graph_18 rfl) (⟨_, _, _, rfl, Or.inr ⟨rfl, rfl, rfl, tb_fl_Graph_18⟩, rfl⟩ : mFldW M_Graph_init 18 4 5 (.array .int)) (Or.inr ⟨_, rfl⟩) hr (fun h4 hr => ?_)
  refine j_aload_n (pc := 22) d_Graph_init_22 rfl ?_
  refine j_bipush (pc := 23) d_Graph_init_23 ?_
  refine j_newI (pc := 25) d_Graph_init_25 tb_ac_int hr (fun h5 hr => ?_)
  refine j_puta (pc := 27) d_Graph_init_27 (fd_Graph_22 rfl) (⟨_, _, _, rfl, Or.inr ⟨rfl, rfl, rfl, tb_fl_Graph_22⟩, rfl⟩ : mFldW M_Graph_init 22 4 6 (.array .int)) (Or.inr ⟨_, rfl⟩) hr (fun h6 hr => ?_)
  refine j_aload_n (pc := 30) d_Graph_init_30 rfl ?_
  refine j_iconst (pc := 31) d_Graph_init_31 ?_
  refine j_newI (pc := 32) d_Graph_init_32 tb_ac_int hr (fun h7 hr => ?_)
  refine j_puta (pc := 34) d_Graph_init_34 (fd_Graph_25 rfl) (⟨_, _, _, rfl, Or.inl rfl, rfl⟩ : mFldW M_Graph_init 25 4 7 (.array .int)) (Or.inr ⟨_, rfl⟩) hr (fun h8 hr => ?_)
  refine j_aload_n (pc := 37) d_Graph_init_37 rfl ?_
  refine j_iconst (pc := 38) d_Graph_init_38 ?_
  refine j_newI (pc := 39) d_Graph_init_39 tb_ac_int hr (fun h9 hr => ?_)
  refine j_puta (pc := 41) d_Graph_init_41 (fd_Graph_28 rfl) (⟨_, _, _, rfl, Or.inl rfl, rfl⟩ : mFldW M_Graph_init 28 4 8 (.array .int)) (Or.inr ⟨_, rfl⟩) hr (fun h10 hr => ?_)
  refine j_aload_n (pc := 44) d_Graph_init_44 rfl ?_
  refine j_iconst (pc := 45) d_Graph_init_45 ?_
  refine j_newI (pc := 46) d_Graph_init_46 tb_ac_int hr (fun h11 hr => ?_)
  refine j_puta (pc := 48) d_Graph_init_48 (fd_Graph_31 rfl) (⟨_, _, _, rfl, Or.inl rfl, rfl⟩ : mFldW M_Graph_init 31 4 9 (.array .int)) (Or.inr ⟨_, rfl⟩) hr (fun h12 hr => ?_)
  refine j_aload_n (pc := 51) d_Graph_init_51 rfl ?_
  refine j_iconst (pc := 52) d_Graph_init_52 ?_
  refine j_newI (pc := 53) d_Graph_init_53 tb_ac_int hr (fun h13 hr => ?_)
  refine j_puta (pc := 55) d_Graph_init_55 (fd_Graph_34 rfl) (⟨_, _, _, rfl, Or.inl rfl, rfl⟩ : mFldW M_Graph_init 34 4 10 (.array .int)) (Or.inr ⟨_, rfl⟩) hr (fun h14 hr => ?_)
  exact j_vret (pc := 58) d_Graph_init_58 rfl hr
def M_Kept_init : mM := ("NineBars$Kept", ⟨"NineBars$Kept", "<init>", "()V"⟩, prog_7_method_1_code, 1, none, [], 1)
theorem tb_co_Kept_init : mTB (Cond.code ⟨"NineBars$Kept", "<init>", "()V"⟩ prog_7_method_1_code 1 (none)) := tbq2 101 (by decide +kernel) rfl
theorem tb_in_NineBars_Kept : mTB (Cond.initialized "NineBars$Kept") := tbq1 10 (by decide +kernel) rfl
theorem mc_Kept_init {M : mM} (hd : 1 < mDp M) : mCal M M_Kept_init 0 := ⟨tb_co_Kept_init, tb_in_NineBars_Kept, ⟨by decide +kernel, by decide +kernel⟩, by decide +kernel, hd, by decide⟩
theorem d_Kept_init_0 : decode prog_7_method_1_code 0 = .ok (.aload_n 0, 1) := by decide +kernel
theorem d_Kept_init_1 : decode prog_7_method_1_code 1 = .ok (.invokespecial 3, 3) := by decide +kernel
theorem tb_ml_Kept_3 : mTB (Cond.methodLink "NineBars$Kept" 3 ⟨"java/lang/Object", "<init>", "()V"⟩) := tbq2 102 (by decide +kernel) rfl
theorem d_Kept_init_4 : decode prog_7_method_1_code 4 = .ok (.aload_n 0, 1) := by decide +kernel
theorem d_Kept_init_5 : decode prog_7_method_1_code 5 = .ok (.bipush 40, 2) := by decide +kernel
theorem d_Kept_init_7 : decode prog_7_method_1_code 7 = .ok (.newarray .int, 2) := by decide +kernel
theorem tb_fl_Kept_9 : mTB (Cond.fieldLink "NineBars$Kept" 9 "NineBars$Kept" "verse" "[I") := tbq2 103 (by decide +kernel) rfl
theorem fd_Kept_9 {M : mM} (h : mO M = "NineBars$Kept") : mFld M 9 5 0 2 := ⟨_, _, _, tyX5, rfl, by decide, by decide, rfl, uw_5, tyX5_ok, nmX5, by rw [h]; exact Or.inl tb_fl_Kept_9⟩
theorem d_Kept_init_9 : decode prog_7_method_1_code 9 = .ok (.putfield 9, 3) := by decide +kernel
theorem d_Kept_init_12 : decode prog_7_method_1_code 12 = .ok (.aload_n 0, 1) := by decide +kernel
theorem d_Kept_init_13 : decode prog_7_method_1_code 13 = .ok (.bipush 41, 2) := by decide +kernel
theorem d_Kept_init_15 : decode prog_7_method_1_code 15 = .ok (.newarray .int, 2) := by decide +kernel
theorem tb_fl_Kept_15 : mTB (Cond.fieldLink "NineBars$Kept" 15 "NineBars$Kept" "stands" "[I") := tbq2 104 (by decide +kernel) rfl
theorem fd_Kept_15 {M : mM} (h : mO M = "NineBars$Kept") : mFld M 15 5 1 2 := ⟨_, _, _, tyX5, rfl, by decide, by decide, rfl, uw_5, tyX5_ok, nmX5, by rw [h]; exact Or.inl tb_fl_Kept_15⟩
theorem d_Kept_init_17 : decode prog_7_method_1_code 17 = .ok (.putfield 15, 3) := by decide +kernel
theorem d_Kept_init_20 : decode prog_7_method_1_code 20 = .ok (.aload_n 0, 1) := by decide +kernel
theorem d_Kept_init_21 : decode prog_7_method_1_code 21 = .ok (.bipush 18, 2) := by decide +kernel
theorem d_Kept_init_23 : decode prog_7_method_1_code 23 = .ok (.newarray .int, 2) := by decide +kernel
theorem tb_fl_Kept_18 : mTB (Cond.fieldLink "NineBars$Kept" 18 "NineBars$Kept" "led" "[I") := tbq2 105 (by decide +kernel) rfl
theorem fd_Kept_18 {M : mM} (h : mO M = "NineBars$Kept") : mFld M 18 5 2 2 := ⟨_, _, _, tyX5, rfl, by decide, by decide, rfl, uw_5, tyX5_ok, nmX5, by rw [h]; exact Or.inl tb_fl_Kept_18⟩
theorem d_Kept_init_25 : decode prog_7_method_1_code 25 = .ok (.putfield 18, 3) := by decide +kernel
theorem d_Kept_init_28 : decode prog_7_method_1_code 28 = .ok (.return_, 1) := by decide +kernel
theorem t_Kept_init {G : mG} (h : mH) (v0 : Int) (r : mR) (hr : f_Kept_init h v0 = some r) : mJM G M_Kept_init [(2, v0)] h r := by
  refine mJM_of (L := [(2, v0)]) rfl rfl rfl (Nat.le_of_ble_eq_true rfl) ?_
  unfold f_Kept_init at hr
  refine j_aload_n (pc := 0) d_Kept_init_0 rfl ?_
  obtain ⟨ha, hr⟩ := chk_some hr
  refine j_objInit (pc := 1) d_Kept_init_1 tb_ml_Kept_3 tb_im_Obj tb_co_Obj (Nat.le_of_ble_eq_true rfl) ha ?_
  refine j_aload_n (pc := 4) d_Kept_init_4 rfl ?_
  refine j_bipush (pc := 5) d_Kept_init_5 ?_
  refine j_newI (pc := 7) d_Kept_init_7 tb_ac_int hr (fun h1 hr => ?_)
  refine j_puta (pc := 9) d_Kept_init_9 (fd_Kept_9 rfl) (⟨_, _, _, rfl, Or.inr ⟨rfl, rfl, rfl, tb_fl_Kept_9⟩, rfl⟩ : mFldW M_Kept_init 9 5 0 (.array .int)) (Or.inr ⟨_, rfl⟩) hr (fun h2 hr => ?_)
  refine j_aload_n (pc := 12) d_Kept_init_12 rfl ?_
  refine j_bipush (pc := 13) d_Kept_init_13 ?_
  refine j_newI (pc := 15) d_Kept_init_15 tb_ac_int hr (fun h3 hr => ?_)
  refine j_puta (pc := 17) d_Kept_init_17 (fd_Kept_15 rfl) (⟨_, _, _, rfl, Or.inr ⟨rfl, rfl, rfl, tb_fl_Kept_15⟩, rfl⟩ : mFldW M_Kept_init 15 5 1 (.array .int)) (Or.inr ⟨_, rfl⟩) hr (fun h4 hr => ?_)
  refine j_aload_n (pc := 20) d_Kept_init_20 rfl ?_
  refine j_bipush (pc := 21) d_Kept_init_21 ?_
  refine j_newI (pc := 23) d_Kept_init_23 tb_ac_int hr (fun h5 hr => ?_)
  refine j_puta (pc := 25) d_Kept_init_25 (fd_Kept_18 rfl) (⟨_, _, _, rfl, Or.inr ⟨rfl, rfl, rfl, tb_fl_Kept_18⟩, rfl⟩ : mFldW M_Kept_init 18 5 2 (.array .int)) (Or.inr ⟨_, rfl⟩) hr (fun h6 hr => ?_)
  exact j_vret (pc := 28) d_Kept_init_28 rfl hr
def M_Notches_init : mM := ("NineBars$Notches", ⟨"NineBars$Notches", "<init>", "()V"⟩, prog_8_method_1_code, 1, none, [], 1)
theorem tb_co_Notches_init : mTB (Cond.code ⟨"NineBars$Notches", "<init>", "()V"⟩ prog_8_method_1_code 1 (none)) := tbq2 75 (by decide +kernel) rfl
theorem tb_in_NineBars_Notches : mTB (Cond.initialized "NineBars$Notches") := tbq1 9 (by decide +kernel) rfl
theorem mc_Notches_init {M : mM} (hd : 1 < mDp M) : mCal M M_Notches_init 0 := ⟨tb_co_Notches_init, tb_in_NineBars_Notches, ⟨by decide +kernel, by decide +kernel⟩, by decide +kernel, hd, by decide⟩
theorem d_Notches_init_0 : decode prog_8_method_1_code 0 = .ok (.aload_n 0, 1) := by decide +kernel
theorem d_Notches_init_1 : decode prog_8_method_1_code 1 = .ok (.invokespecial 3, 3) := by decide +kernel
theorem tb_ml_Notches_3 : mTB (Cond.methodLink "NineBars$Notches" 3 ⟨"java/lang/Object", "<init>", "()V"⟩) := tbq2 76 (by decide +kernel) rfl
theorem d_Notches_init_4 : decode prog_8_method_1_code 4 = .ok (.aload_n 0, 1) := by decide +kernel
theorem d_Notches_init_5 : decode prog_8_method_1_code 5 = .ok (.bipush 7, 2) := by decide +kernel
theorem d_Notches_init_7 : decode prog_8_method_1_code 7 = .ok (.newarray .int, 2) := by decide +kernel
theorem tb_fl_Notches_9 : mTB (Cond.fieldLink "NineBars$Notches" 9 "NineBars$Notches" "best" "[I") := tbq2 77 (by decide +kernel) rfl
theorem fd_Notches_9 {M : mM} (h : mO M = "NineBars$Notches") : mFld M 9 6 0 2 := ⟨_, _, _, tyX6, rfl, by decide, by decide, rfl, uw_6, tyX6_ok, nmX6, by rw [h]; exact Or.inl tb_fl_Notches_9⟩
theorem d_Notches_init_9 : decode prog_8_method_1_code 9 = .ok (.putfield 9, 3) := by decide +kernel
theorem d_Notches_init_12 : decode prog_8_method_1_code 12 = .ok (.aload_n 0, 1) := by decide +kernel
theorem d_Notches_init_13 : decode prog_8_method_1_code 13 = .ok (.bipush 7, 2) := by decide +kernel
theorem d_Notches_init_15 : decode prog_8_method_1_code 15 = .ok (.newarray .int, 2) := by decide +kernel
theorem tb_fl_Notches_15 : mTB (Cond.fieldLink "NineBars$Notches" 15 "NineBars$Notches" "rule" "[I") := tbq2 79 (by decide +kernel) rfl
theorem fd_Notches_15 {M : mM} (h : mO M = "NineBars$Notches") : mFld M 15 6 1 2 := ⟨_, _, _, tyX6, rfl, by decide, by decide, rfl, uw_6, tyX6_ok, nmX6, by rw [h]; exact Or.inl tb_fl_Notches_15⟩
theorem d_Notches_init_17 : decode prog_8_method_1_code 17 = .ok (.putfield 15, 3) := by decide +kernel
theorem d_Notches_init_20 : decode prog_8_method_1_code 20 = .ok (.aload_n 0, 1) := by decide +kernel
theorem d_Notches_init_21 : decode prog_8_method_1_code 21 = .ok (.iconst (-1), 1) := by decide +kernel
theorem tb_fl_Notches_18 : mTB (Cond.fieldLink "NineBars$Notches" 18 "NineBars$Notches" "edition" "I") := tbq2 80 (by decide +kernel) rfl
theorem fd_Notches_18 {M : mM} (h : mO M = "NineBars$Notches") : mFld M 18 6 2 0 := ⟨_, _, _, tyX6, rfl, by decide, by decide, rfl, uw_6, tyX6_ok, nmX6, by rw [h]; exact Or.inl tb_fl_Notches_18⟩
theorem d_Notches_init_22 : decode prog_8_method_1_code 22 = .ok (.putfield 18, 3) := by decide +kernel
theorem d_Notches_init_25 : decode prog_8_method_1_code 25 = .ok (.aload_n 0, 1) := by decide +kernel
theorem d_Notches_init_26 : decode prog_8_method_1_code 26 = .ok (.iconst (-1), 1) := by decide +kernel
theorem tb_fl_Notches_22 : mTB (Cond.fieldLink "NineBars$Notches" 22 "NineBars$Notches" "wornBits" "I") := tbq2 81 (by decide +kernel) rfl
theorem fd_Notches_22 {M : mM} (h : mO M = "NineBars$Notches") : mFld M 22 6 3 0 := ⟨_, _, _, tyX6, rfl, by decide, by decide, rfl, uw_6, tyX6_ok, nmX6, by rw [h]; exact Or.inl tb_fl_Notches_22⟩
theorem d_Notches_init_27 : decode prog_8_method_1_code 27 = .ok (.putfield 22, 3) := by decide +kernel
theorem d_Notches_init_30 : decode prog_8_method_1_code 30 = .ok (.aload_n 0, 1) := by decide +kernel
theorem d_Notches_init_31 : decode prog_8_method_1_code 31 = .ok (.iconst (-1), 1) := by decide +kernel
theorem tb_fl_Notches_25 : mTB (Cond.fieldLink "NineBars$Notches" 25 "NineBars$Notches" "stand" "I") := tbq2 82 (by decide +kernel) rfl
theorem fd_Notches_25 {M : mM} (h : mO M = "NineBars$Notches") : mFld M 25 6 4 0 := ⟨_, _, _, tyX6, rfl, by decide, by decide, rfl, uw_6, tyX6_ok, nmX6, by rw [h]; exact Or.inl tb_fl_Notches_25⟩
theorem d_Notches_init_32 : decode prog_8_method_1_code 32 = .ok (.putfield 25, 3) := by decide +kernel
theorem d_Notches_init_35 : decode prog_8_method_1_code 35 = .ok (.aload_n 0, 1) := by decide +kernel
theorem d_Notches_init_36 : decode prog_8_method_1_code 36 = .ok (.iconst (-1), 1) := by decide +kernel
theorem tb_fl_Notches_28 : mTB (Cond.fieldLink "NineBars$Notches" 28 "NineBars$Notches" "bound" "I") := tbq2 83 (by decide +kernel) rfl
theorem fd_Notches_28 {M : mM} (h : mO M = "NineBars$Notches") : mFld M 28 6 5 0 := ⟨_, _, _, tyX6, rfl, by decide, by decide, rfl, uw_6, tyX6_ok, nmX6, by rw [h]; exact Or.inl tb_fl_Notches_28⟩
theorem d_Notches_init_37 : decode prog_8_method_1_code 37 = .ok (.putfield 28, 3) := by decide +kernel
theorem d_Notches_init_40 : decode prog_8_method_1_code 40 = .ok (.return_, 1) := by decide +kernel
theorem t_Notches_init {G : mG} (h : mH) (v0 : Int) (r : mR) (hr : f_Notches_init h v0 = some r) : mJM G M_Notches_init [(2, v0)] h r := by
  refine mJM_of (L := [(2, v0)]) rfl rfl rfl (Nat.le_of_ble_eq_true rfl) ?_
  unfold f_Notches_init at hr
  refine j_aload_n (pc := 0) d_Notches_init_0 rfl ?_
  obtain ⟨ha, hr⟩ := chk_some hr
  refine j_objInit (pc := 1) d_Notches_init_1 tb_ml_Notches_3 tb_im_Obj tb_co_Obj (Nat.le_of_ble_eq_true rfl) ha ?_
  refine j_aload_n (pc := 4) d_Notches_init_4 rfl ?_
  refine j_bipush (pc := 5) d_Notches_init_5 ?_
  refine j_newI (pc := 7) d_Notches_init_7 tb_ac_int hr (fun h1 hr => ?_)
  refine j_puta (pc := 9) d_Notches_init_9 (fd_Notches_9 rfl) (⟨_, _, _, rfl, Or.inr ⟨rfl, rfl, rfl, tb_fl_Notches_9⟩, rfl⟩ : mFldW M_Notches_init 9 6 0 (.array .int)) (Or.inr ⟨_, rfl⟩) hr (fun h2 hr => ?_)
  refine j_aload_n (pc := 12) d_Notches_init_12 rfl ?_
  refine j_bipush (pc := 13) d_Notches_init_13 ?_
  refine j_newI (pc := 15) d_Notches_init_15 tb_ac_int hr (fun h3 hr => ?_)
  refine j_puta (pc := 17) d_Notches_init_17 (fd_Notches_15 rfl) (⟨_, _, _, rfl, Or.inr ⟨rfl, rfl, rfl, tb_fl_Notches_15⟩, rfl⟩ : mFldW M_Notches_init 15 6 1 (.array .int)) (Or.inr ⟨_, rfl⟩) hr (fun h4 hr => ?_)
  refine j_aload_n (pc := 20) d_Notches_init_20 rfl ?_
  refine j_iconst (pc := 21) d_Notches_init_21 ?_
  refine j_puti (pc := 22) d_Notches_init_22 (fd_Notches_18 rfl) (⟨_, _, _, rfl, Or.inl rfl, rfl⟩ : mFldW M_Notches_init 18 6 2 .int) hr (fun h5 hr => ?_)
  refine j_aload_n (pc := 25) d_Notches_init_25 rfl ?_
  refine j_iconst (pc := 26) d_Notches_init_26 ?_
  refine j_puti (pc := 27) d_Notches_init_27 (fd_Notches_22 rfl) (⟨_, _, _, rfl, Or.inl rfl, rfl⟩ : mFldW M_Notches_init 22 6 3 .int) hr (fun h6 hr => ?_)
  refine j_aload_n (pc := 30) d_Notches_init_30 rfl ?_
  refine j_iconst (pc := 31) d_Notches_init_31 ?_
  refine j_puti (pc := 32) d_Notches_init_32 (fd_Notches_25 rfl) (⟨_, _, _, rfl, Or.inl rfl, rfl⟩ : mFldW M_Notches_init 25 6 4 .int) hr (fun h7 hr => ?_)
  refine j_aload_n (pc := 35) d_Notches_init_35 rfl ?_
  refine j_iconst (pc := 36) d_Notches_init_36 ?_
  refine j_puti (pc := 37) d_Notches_init_37 (fd_Notches_28 rfl) (⟨_, _, _, rfl, Or.inl rfl, rfl⟩ : mFldW M_Notches_init 28 6 5 .int) hr (fun h8 hr => ?_)
  exact j_vret (pc := 40) d_Notches_init_40 rfl hr
def M_Paths_init : mM := ("NineBars$Paths", ⟨"NineBars$Paths", "<init>", "(Z)V"⟩, prog_9_method_1_code, 2, none, [], 1)
theorem tb_co_Paths_init : mTB (Cond.code ⟨"NineBars$Paths", "<init>", "(Z)V"⟩ prog_9_method_1_code 2 (none)) := tbq2 10 (by decide +kernel) rfl
theorem tb_in_NineBars_Paths : mTB (Cond.initialized "NineBars$Paths") := tbq1 6 (by decide +kernel) rfl
theorem mc_Paths_init {M : mM} (hd : 1 < mDp M) : mCal M M_Paths_init 1 := ⟨tb_co_Paths_init, tb_in_NineBars_Paths, ⟨by decide +kernel, by decide +kernel⟩, by decide +kernel, hd, by decide⟩
theorem d_Paths_init_0 : decode prog_9_method_1_code 0 = .ok (.aload_n 0, 1) := by decide +kernel
theorem d_Paths_init_1 : decode prog_9_method_1_code 1 = .ok (.invokespecial 3, 3) := by decide +kernel
theorem tb_ml_Paths_3 : mTB (Cond.methodLink "NineBars$Paths" 3 ⟨"java/lang/Object", "<init>", "()V"⟩) := tbq2 11 (by decide +kernel) rfl
theorem d_Paths_init_4 : decode prog_9_method_1_code 4 = .ok (.aload_n 0, 1) := by decide +kernel
theorem d_Paths_init_5 : decode prog_9_method_1_code 5 = .ok (.iconst (-1), 1) := by decide +kernel
theorem tb_fl_Paths_9 : mTB (Cond.fieldLink "NineBars$Paths" 9 "NineBars$Paths" "edition" "I") := tbq2 13 (by decide +kernel) rfl
theorem fd_Paths_9 {M : mM} (h : mO M = "NineBars$Paths") : mFld M 9 7 1 0 := ⟨_, _, _, tyX7, rfl, by decide, by decide, rfl, uw_7, tyX7_ok, nmX7, by rw [h]; exact Or.inl tb_fl_Paths_9⟩
theorem d_Paths_init_6 : decode prog_9_method_1_code 6 = .ok (.putfield 9, 3) := by decide +kernel
theorem d_Paths_init_9 : decode prog_9_method_1_code 9 = .ok (.aload_n 0, 1) := by decide +kernel
theorem d_Paths_init_10 : decode prog_9_method_1_code 10 = .ok (.iconst (-1), 1) := by decide +kernel
theorem tb_fl_Paths_15 : mTB (Cond.fieldLink "NineBars$Paths" 15 "NineBars$Paths" "wornBits" "I") := tbq2 14 (by decide +kernel) rfl
theorem fd_Paths_15 {M : mM} (h : mO M = "NineBars$Paths") : mFld M 15 7 2 0 := ⟨_, _, _, tyX7, rfl, by decide, by decide, rfl, uw_7, tyX7_ok, nmX7, by rw [h]; exact Or.inl tb_fl_Paths_15⟩
theorem d_Paths_init_11 : decode prog_9_method_1_code 11 = .ok (.putfield 15, 3) := by decide +kernel
theorem d_Paths_init_14 : decode prog_9_method_1_code 14 = .ok (.aload_n 0, 1) := by decide +kernel
theorem d_Paths_init_15 : decode prog_9_method_1_code 15 = .ok (.iconst (-1), 1) := by decide +kernel
theorem tb_fl_Paths_18 : mTB (Cond.fieldLink "NineBars$Paths" 18 "NineBars$Paths" "source" "I") := tbq2 15 (by decide +kernel) rfl
theorem fd_Paths_18 {M : mM} (h : mO M = "NineBars$Paths") : mFld M 18 7 3 0 := ⟨_, _, _, tyX7, rfl, by decide, by decide, rfl, uw_7, tyX7_ok, nmX7, by rw [h]; exact Or.inl tb_fl_Paths_18⟩
theorem d_Paths_init_16 : decode prog_9_method_1_code 16 = .ok (.putfield 18, 3) := by decide +kernel
theorem d_Paths_init_19 : decode prog_9_method_1_code 19 = .ok (.aload_n 0, 1) := by decide +kernel
theorem d_Paths_init_20 : decode prog_9_method_1_code 20 = .ok (.iconst 0, 1) := by decide +kernel
theorem d_Paths_init_21 : decode prog_9_method_1_code 21 = .ok (.newarray .int, 2) := by decide +kernel
theorem tb_fl_Paths_21 : mTB (Cond.fieldLink "NineBars$Paths" 21 "NineBars$Paths" "far" "[I") := tbq2 20 (by decide +kernel) rfl
theorem fd_Paths_21 {M : mM} (h : mO M = "NineBars$Paths") : mFld M 21 7 5 2 := ⟨_, _, _, tyX7, rfl, by decide, by decide, rfl, uw_7, tyX7_ok, nmX7, by rw [h]; exact Or.inl tb_fl_Paths_21⟩
theorem d_Paths_init_23 : decode prog_9_method_1_code 23 = .ok (.putfield 21, 3) := by decide +kernel
theorem d_Paths_init_26 : decode prog_9_method_1_code 26 = .ok (.aload_n 0, 1) := by decide +kernel
theorem d_Paths_init_27 : decode prog_9_method_1_code 27 = .ok (.iconst 0, 1) := by decide +kernel
theorem d_Paths_init_28 : decode prog_9_method_1_code 28 = .ok (.newarray .int, 2) := by decide +kernel
theorem tb_fl_Paths_25 : mTB (Cond.fieldLink "NineBars$Paths" 25 "NineBars$Paths" "order" "[I") := tbq2 21 (by decide +kernel) rfl
theorem fd_Paths_25 {M : mM} (h : mO M = "NineBars$Paths") : mFld M 25 7 6 2 := ⟨_, _, _, tyX7, rfl, by decide, by decide, rfl, uw_7, tyX7_ok, nmX7, by rw [h]; exact Or.inl tb_fl_Paths_25⟩
theorem d_Paths_init_30 : decode prog_9_method_1_code 30 = .ok (.putfield 25, 3) := by decide +kernel
theorem d_Paths_init_33 : decode prog_9_method_1_code 33 = .ok (.aload_n 0, 1) := by decide +kernel
theorem d_Paths_init_34 : decode prog_9_method_1_code 34 = .ok (.iload_n 1, 1) := by decide +kernel
theorem tb_fl_Paths_28 : mTB (Cond.fieldLink "NineBars$Paths" 28 "NineBars$Paths" "back" "Z") := tbq2 12 (by decide +kernel) rfl
theorem fd_Paths_28 {M : mM} (h : mO M = "NineBars$Paths") : mFld M 28 7 0 0 := ⟨_, _, _, tyX7, rfl, by decide, by decide, rfl, uw_7, tyX7_ok, nmX7, by rw [h]; exact Or.inl tb_fl_Paths_28⟩
theorem d_Paths_init_35 : decode prog_9_method_1_code 35 = .ok (.putfield 28, 3) := by decide +kernel
theorem d_Paths_init_38 : decode prog_9_method_1_code 38 = .ok (.return_, 1) := by decide +kernel
theorem t_Paths_init {G : mG} (h : mH) (v0 v1 : Int) (r : mR) (hr : f_Paths_init h v0 v1 = some r) : mJM G M_Paths_init [(2, v0), (0, v1)] h r := by
  refine mJM_of (L := [(2, v0), (0, v1)]) rfl rfl rfl (Nat.le_of_ble_eq_true rfl) ?_
  unfold f_Paths_init at hr
  refine j_aload_n (pc := 0) d_Paths_init_0 rfl ?_
  obtain ⟨ha, hr⟩ := chk_some hr
  refine j_objInit (pc := 1) d_Paths_init_1 tb_ml_Paths_3 tb_im_Obj tb_co_Obj (Nat.le_of_ble_eq_true rfl) ha ?_
  refine j_aload_n (pc := 4) d_Paths_init_4 rfl ?_
  refine j_iconst (pc := 5) d_Paths_init_5 ?_
  refine j_puti (pc := 6) d_Paths_init_6 (fd_Paths_9 rfl) (⟨_, _, _, rfl, Or.inl rfl, rfl⟩ : mFldW M_Paths_init 9 7 1 .int) hr (fun h1 hr => ?_)
  refine j_aload_n (pc := 9) d_Paths_init_9 rfl ?_
  refine j_iconst (pc := 10) d_Paths_init_10 ?_
  refine j_puti (pc := 11) d_Paths_init_11 (fd_Paths_15 rfl) (⟨_, _, _, rfl, Or.inl rfl, rfl⟩ : mFldW M_Paths_init 15 7 2 .int) hr (fun h2 hr => ?_)
  refine j_aload_n (pc := 14) d_Paths_init_14 rfl ?_
  refine j_iconst (pc := 15) d_Paths_init_15 ?_
  refine j_puti (pc := 16) d_Paths_init_16 (fd_Paths_18 rfl) (⟨_, _, _, rfl, Or.inl rfl, rfl⟩ : mFldW M_Paths_init 18 7 3 .int) hr (fun h3 hr => ?_)
  refine j_aload_n (pc := 19) d_Paths_init_19 rfl ?_
  refine j_iconst (pc := 20) d_Paths_init_20 ?_
  refine j_newI (pc := 21) d_Paths_init_21 tb_ac_int hr (fun h4 hr => ?_)
  refine j_puta (pc := 23) d_Paths_init_23 (fd_Paths_21 rfl) (⟨_, _, _, rfl, Or.inl rfl, rfl⟩ : mFldW M_Paths_init 21 7 5 (.array .int)) (Or.inr ⟨_, rfl⟩) hr (fun h5 hr => ?_)
  refine j_aload_n (pc := 26) d_Paths_init_26 rfl ?_
  refine j_iconst (pc := 27) d_Paths_init_27 ?_
  refine j_newI (pc := 28) d_Paths_init_28 tb_ac_int hr (fun h6 hr => ?_)
  refine j_puta (pc := 30) d_Paths_init_30 (fd_Paths_25 rfl) (⟨_, _, _, rfl, Or.inl rfl, rfl⟩ : mFldW M_Paths_init 25 7 6 (.array .int)) (Or.inr ⟨_, rfl⟩) hr (fun h7 hr => ?_)
  refine j_aload_n (pc := 33) d_Paths_init_33 rfl ?_
  refine j_iload_n (pc := 34) d_Paths_init_34 rfl ?_
  refine j_putz (pc := 35) d_Paths_init_35 (fd_Paths_28 rfl) (⟨_, _, _, rfl, Or.inr ⟨rfl, rfl, rfl, tb_fl_Paths_28⟩, rfl⟩ : mFldW M_Paths_init 28 7 0 .boolean) hr (fun h8 hr => ?_)
  exact j_vret (pc := 38) d_Paths_init_38 rfl hr
def M_Reader_init : mM := ("NineBars$Reader", ⟨"NineBars$Reader", "<init>", "()V"⟩, prog_10_method_1_code, 1, none, [], 1)
theorem tb_co_Reader_init : mTB (Cond.code ⟨"NineBars$Reader", "<init>", "()V"⟩ prog_10_method_1_code 1 (none)) := tbq1 39 (by decide +kernel) rfl
theorem tb_in_NineBars_Reader : mTB (Cond.initialized "NineBars$Reader") := tbq1 2 (by decide +kernel) rfl
theorem mc_Reader_init {M : mM} (hd : 1 < mDp M) : mCal M M_Reader_init 0 := ⟨tb_co_Reader_init, tb_in_NineBars_Reader, ⟨by decide +kernel, by decide +kernel⟩, by decide +kernel, hd, by decide⟩
theorem d_Reader_init_0 : decode prog_10_method_1_code 0 = .ok (.aload_n 0, 1) := by decide +kernel
theorem d_Reader_init_1 : decode prog_10_method_1_code 1 = .ok (.invokespecial 3, 3) := by decide +kernel
theorem tb_ml_Reader_3 : mTB (Cond.methodLink "NineBars$Reader" 3 ⟨"java/lang/Object", "<init>", "()V"⟩) := tbq1 40 (by decide +kernel) rfl
theorem d_Reader_init_4 : decode prog_10_method_1_code 4 = .ok (.aload_n 0, 1) := by decide +kernel
theorem d_Reader_init_5 : decode prog_10_method_1_code 5 = .ok (.iconst 0, 1) := by decide +kernel
theorem tb_ac_byte : mTB (Cond.arrayClass .byte) := tbq1 68 (by decide +kernel) rfl
theorem d_Reader_init_6 : decode prog_10_method_1_code 6 = .ok (.newarray .byte, 2) := by decide +kernel
theorem tb_fl_Reader_9 : mTB (Cond.fieldLink "NineBars$Reader" 9 "NineBars$Reader" "text" "[B") := tbq1 41 (by decide +kernel) rfl
theorem fd_Reader_9 {M : mM} (h : mO M = "NineBars$Reader") : mFld M 9 8 0 2 := ⟨_, _, _, tyX8, rfl, by decide, by decide, rfl, uw_8, tyX8_ok, nmX8, by rw [h]; exact Or.inl tb_fl_Reader_9⟩
theorem d_Reader_init_8 : decode prog_10_method_1_code 8 = .ok (.putfield 9, 3) := by decide +kernel
theorem d_Reader_init_11 : decode prog_10_method_1_code 11 = .ok (.aload_n 0, 1) := by decide +kernel
theorem d_Reader_init_12 : decode prog_10_method_1_code 12 = .ok (.iconst (-1), 1) := by decide +kernel
theorem tb_fl_Reader_15 : mTB (Cond.fieldLink "NineBars$Reader" 15 "NineBars$Reader" "faultAt" "I") := tbq1 49 (by decide +kernel) rfl
theorem fd_Reader_15 {M : mM} (h : mO M = "NineBars$Reader") : mFld M 15 8 7 0 := ⟨_, _, _, tyX8, rfl, by decide, by decide, rfl, uw_8, tyX8_ok, nmX8, by rw [h]; exact Or.inl tb_fl_Reader_15⟩
theorem d_Reader_init_13 : decode prog_10_method_1_code 13 = .ok (.putfield 15, 3) := by decide +kernel
theorem d_Reader_init_16 : decode prog_10_method_1_code 16 = .ok (.return_, 1) := by decide +kernel
theorem t_Reader_init {G : mG} (h : mH) (v0 : Int) (r : mR) (hr : f_Reader_init h v0 = some r) : mJM G M_Reader_init [(2, v0)] h r := by
  refine mJM_of (L := [(2, v0)]) rfl rfl rfl (Nat.le_of_ble_eq_true rfl) ?_
  unfold f_Reader_init at hr
  refine j_aload_n (pc := 0) d_Reader_init_0 rfl ?_
  obtain ⟨ha, hr⟩ := chk_some hr
  refine j_objInit (pc := 1) d_Reader_init_1 tb_ml_Reader_3 tb_im_Obj tb_co_Obj (Nat.le_of_ble_eq_true rfl) ha ?_
  refine j_aload_n (pc := 4) d_Reader_init_4 rfl ?_
  refine j_iconst (pc := 5) d_Reader_init_5 ?_
  refine j_newB (pc := 6) d_Reader_init_6 tb_ac_byte hr (fun h1 hr => ?_)
  refine j_puta (pc := 8) d_Reader_init_8 (fd_Reader_9 rfl) (⟨_, _, _, rfl, Or.inl rfl, rfl⟩ : mFldW M_Reader_init 9 8 0 (.array .byte)) (Or.inr ⟨_, rfl⟩) hr (fun h2 hr => ?_)
  refine j_aload_n (pc := 11) d_Reader_init_11 rfl ?_
  refine j_iconst (pc := 12) d_Reader_init_12 ?_
  refine j_puti (pc := 13) d_Reader_init_13 (fd_Reader_15 rfl) (⟨_, _, _, rfl, Or.inl rfl, rfl⟩ : mFldW M_Reader_init 15 8 7 .int) hr (fun h3 hr => ?_)
  exact j_vret (pc := 16) d_Reader_init_16 rfl hr
def M_Tray_init : mM := ("NineBars$Tray", ⟨"NineBars$Tray", "<init>", "()V"⟩, prog_11_method_1_code, 1, none, [], 1)
theorem tb_co_Tray_init : mTB (Cond.code ⟨"NineBars$Tray", "<init>", "()V"⟩ prog_11_method_1_code 1 (none)) := tbq1 166 (by decide +kernel) rfl
theorem tb_in_NineBars_Tray : mTB (Cond.initialized "NineBars$Tray") := tbq1 4 (by decide +kernel) rfl
theorem mc_Tray_init {M : mM} (hd : 1 < mDp M) : mCal M M_Tray_init 0 := ⟨tb_co_Tray_init, tb_in_NineBars_Tray, ⟨by decide +kernel, by decide +kernel⟩, by decide +kernel, hd, by decide⟩
theorem d_Tray_init_0 : decode prog_11_method_1_code 0 = .ok (.aload_n 0, 1) := by decide +kernel
theorem d_Tray_init_1 : decode prog_11_method_1_code 1 = .ok (.invokespecial 3, 3) := by decide +kernel
theorem tb_ml_Tray_3 : mTB (Cond.methodLink "NineBars$Tray" 3 ⟨"java/lang/Object", "<init>", "()V"⟩) := tbq1 167 (by decide +kernel) rfl
theorem d_Tray_init_4 : decode prog_11_method_1_code 4 = .ok (.aload_n 0, 1) := by decide +kernel
theorem d_Tray_init_5 : decode prog_11_method_1_code 5 = .ok (.bipush 40, 2) := by decide +kernel
theorem d_Tray_init_7 : decode prog_11_method_1_code 7 = .ok (.newarray .long, 2) := by decide +kernel
theorem tb_fl_Tray_9 : mTB (Cond.fieldLink "NineBars$Tray" 9 "NineBars$Tray" "numbers" "[J") := tbq1 168 (by decide +kernel) rfl
theorem fd_Tray_9 {M : mM} (h : mO M = "NineBars$Tray") : mFld M 9 9 0 2 := ⟨_, _, _, tyX9, rfl, by decide, by decide, rfl, uw_9, tyX9_ok, nmX9, by rw [h]; exact Or.inl tb_fl_Tray_9⟩
theorem d_Tray_init_9 : decode prog_11_method_1_code 9 = .ok (.putfield 9, 3) := by decide +kernel
theorem d_Tray_init_12 : decode prog_11_method_1_code 12 = .ok (.aload_n 0, 1) := by decide +kernel
theorem d_Tray_init_13 : decode prog_11_method_1_code 13 = .ok (.iconst (-1), 1) := by decide +kernel
theorem tb_fl_Tray_15 : mTB (Cond.fieldLink "NineBars$Tray" 15 "NineBars$Tray" "many" "I") := tbq1 173 (by decide +kernel) rfl
theorem fd_Tray_15 {M : mM} (h : mO M = "NineBars$Tray") : mFld M 15 9 2 0 := ⟨_, _, _, tyX9, rfl, by decide, by decide, rfl, uw_9, tyX9_ok, nmX9, by rw [h]; exact Or.inl tb_fl_Tray_15⟩
theorem d_Tray_init_14 : decode prog_11_method_1_code 14 = .ok (.putfield 15, 3) := by decide +kernel
theorem d_Tray_init_17 : decode prog_11_method_1_code 17 = .ok (.return_, 1) := by decide +kernel
theorem t_Tray_init {G : mG} (h : mH) (v0 : Int) (r : mR) (hr : f_Tray_init h v0 = some r) : mJM G M_Tray_init [(2, v0)] h r := by
  refine mJM_of (L := [(2, v0)]) rfl rfl rfl (Nat.le_of_ble_eq_true rfl) ?_
  unfold f_Tray_init at hr
  refine j_aload_n (pc := 0) d_Tray_init_0 rfl ?_
  obtain ⟨ha, hr⟩ := chk_some hr
  refine j_objInit (pc := 1) d_Tray_init_1 tb_ml_Tray_3 tb_im_Obj tb_co_Obj (Nat.le_of_ble_eq_true rfl) ha ?_
  refine j_aload_n (pc := 4) d_Tray_init_4 rfl ?_
  refine j_bipush (pc := 5) d_Tray_init_5 ?_
  refine j_newJ (pc := 7) d_Tray_init_7 tb_ac_long hr (fun h1 hr => ?_)
  refine j_puta (pc := 9) d_Tray_init_9 (fd_Tray_9 rfl) (⟨_, _, _, rfl, Or.inr ⟨rfl, rfl, rfl, tb_fl_Tray_9⟩, rfl⟩ : mFldW M_Tray_init 9 9 0 (.array .long)) (Or.inr ⟨_, rfl⟩) hr (fun h2 hr => ?_)
  refine j_aload_n (pc := 12) d_Tray_init_12 rfl ?_
  refine j_iconst (pc := 13) d_Tray_init_13 ?_
  refine j_puti (pc := 14) d_Tray_init_14 (fd_Tray_15 rfl) (⟨_, _, _, rfl, Or.inl rfl, rfl⟩ : mFldW M_Tray_init 15 9 2 .int) hr (fun h3 hr => ?_)
  exact j_vret (pc := 17) d_Tray_init_17 rfl hr
def M_Nb_init : mM := ("NineBars", ⟨"NineBars", "<init>", "()V"⟩, prog_1_method_1_code, 2, none, [], 3)
theorem tb_co_Nb_init : mTB (Cond.code ⟨"NineBars", "<init>", "()V"⟩ prog_1_method_1_code 2 (none)) := tbq1 31 (by decide +kernel) rfl
theorem tb_in_NineBars : mTB (Cond.initialized "NineBars") := tbq1 1 (by decide +kernel) rfl
theorem mc_Nb_init {M : mM} (hd : 3 < mDp M) : mCal M M_Nb_init 0 := ⟨tb_co_Nb_init, tb_in_NineBars, ⟨by decide +kernel, by decide +kernel⟩, by decide +kernel, hd, by decide⟩
theorem d_Nb_init_0 : decode prog_1_method_1_code 0 = .ok (.aload_n 0, 1) := by decide +kernel
theorem d_Nb_init_1 : decode prog_1_method_1_code 1 = .ok (.invokespecial 3, 3) := by decide +kernel
theorem tb_ml_Nb_3 : mTB (Cond.methodLink "NineBars" 3 ⟨"java/lang/Object", "<init>", "()V"⟩) := tbq1 32 (by decide +kernel) rfl
theorem d_Nb_init_4 : decode prog_1_method_1_code 4 = .ok (.aload_n 0, 1) := by decide +kernel
theorem d_Nb_init_5 : decode prog_1_method_1_code 5 = .ok (.sipush 900, 3) := by decide +kernel
theorem d_Nb_init_8 : decode prog_1_method_1_code 8 = .ok (.newarray .byte, 2) := by decide +kernel
theorem tb_fl_Nb_9 : mTB (Cond.fieldLink "NineBars" 9 "NineBars" "tape" "[B") := tbq2 157 (by decide +kernel) rfl
theorem fd_Nb_9 {M : mM} (h : mO M = "NineBars") : mFld M 9 10 0 2 := ⟨_, _, _, tyX10, rfl, by decide, by decide, rfl, uw_10, tyX10_ok, nmX10, by rw [h]; exact Or.inl tb_fl_Nb_9⟩
theorem d_Nb_init_10 : decode prog_1_method_1_code 10 = .ok (.putfield 9, 3) := by decide +kernel
theorem d_Nb_init_13 : decode prog_1_method_1_code 13 = .ok (.aload_n 0, 1) := by decide +kernel
theorem d_Nb_init_14 : decode prog_1_method_1_code 14 = .ok (.iconst (-1), 1) := by decide +kernel
theorem tb_fl_Nb_13 : mTB (Cond.fieldLink "NineBars" 13 "NineBars" "latestPlace" "I") := tbq2 160 (by decide +kernel) rfl
theorem fd_Nb_13 {M : mM} (h : mO M = "NineBars") : mFld M 13 10 3 0 := ⟨_, _, _, tyX10, rfl, by decide, by decide, rfl, uw_10, tyX10_ok, nmX10, by rw [h]; exact Or.inl tb_fl_Nb_13⟩
theorem d_Nb_init_15 : decode prog_1_method_1_code 15 = .ok (.putfield 13, 3) := by decide +kernel
theorem d_Nb_init_18 : decode prog_1_method_1_code 18 = .ok (.aload_n 0, 1) := by decide +kernel
theorem tb_cl_Nb_17 : mTB (Cond.classLink "NineBars" 17 "NineBars$Reader") := tbq1 35 (by decide +kernel) rfl
theorem tb_is_Reader : mTB (Cond.instantiable "NineBars$Reader" 8) := tbq1 36 (by decide +kernel) rfl
theorem d_Nb_init_19 : decode prog_1_method_1_code 19 = .ok (.new 17, 3) := by decide +kernel
theorem d_Nb_init_22 : decode prog_1_method_1_code 22 = .ok (.dup, 1) := by decide +kernel
theorem d_Nb_init_23 : decode prog_1_method_1_code 23 = .ok (.invokespecial 19, 3) := by decide +kernel
theorem tb_mn_Nb_19 : mTN (Cond.methodLinkNest "NineBars" 19 ⟨"NineBars$Reader", "<init>", "()V"⟩ "NineBars") := tbqn1 37 (by decide +kernel) rfl
theorem tb_im_Reader_init : mTB (Cond.instanceMethod ⟨"NineBars$Reader", "<init>", "()V"⟩) := tbq1 38 (by decide +kernel) rfl
theorem tb_fl_Nb_20 : mTB (Cond.fieldLink "NineBars" 20 "NineBars" "reader" "LNineBars$Reader;") := tbq2 162 (by decide +kernel) rfl
theorem fd_Nb_20 {M : mM} (h : mO M = "NineBars") : mFld M 20 10 5 2 := ⟨_, _, _, tyX10, rfl, by decide, by decide, rfl, uw_10, tyX10_ok, nmX10, by rw [h]; exact Or.inl tb_fl_Nb_20⟩
theorem d_Nb_init_26 : decode prog_1_method_1_code 26 = .ok (.putfield 20, 3) := by decide +kernel
theorem d_Nb_init_29 : decode prog_1_method_1_code 29 = .ok (.aload_n 0, 1) := by decide +kernel
theorem tb_cl_Nb_24 : mTB (Cond.classLink "NineBars" 24 "NineBars$Box") := tbq1 69 (by decide +kernel) rfl
theorem tb_is_Box : mTB (Cond.instantiable "NineBars$Box" 18) := tbq1 70 (by decide +kernel) rfl
theorem d_Nb_init_30 : decode prog_1_method_1_code 30 = .ok (.new 24, 3) := by decide +kernel
theorem d_Nb_init_33 : decode prog_1_method_1_code 33 = .ok (.dup, 1) := by decide +kernel
theorem d_Nb_init_34 : decode prog_1_method_1_code 34 = .ok (.invokespecial 26, 3) := by decide +kernel
theorem tb_mn_Nb_26 : mTN (Cond.methodLinkNest "NineBars" 26 ⟨"NineBars$Box", "<init>", "()V"⟩ "NineBars") := tbqn1 71 (by decide +kernel) rfl
theorem tb_im_Box_init : mTB (Cond.instanceMethod ⟨"NineBars$Box", "<init>", "()V"⟩) := tbq1 72 (by decide +kernel) rfl
theorem tb_fl_Nb_27 : mTB (Cond.fieldLink "NineBars" 27 "NineBars" "told" "LNineBars$Box;") := tbq2 163 (by decide +kernel) rfl
theorem fd_Nb_27 {M : mM} (h : mO M = "NineBars") : mFld M 27 10 6 2 := ⟨_, _, _, tyX10, rfl, by decide, by decide, rfl, uw_10, tyX10_ok, nmX10, by rw [h]; exact Or.inl tb_fl_Nb_27⟩
theorem d_Nb_init_37 : decode prog_1_method_1_code 37 = .ok (.putfield 27, 3) := by decide +kernel
theorem d_Nb_init_40 : decode prog_1_method_1_code 40 = .ok (.aload_n 0, 1) := by decide +kernel
theorem d_Nb_init_41 : decode prog_1_method_1_code 41 = .ok (.new 24, 3) := by decide +kernel
theorem d_Nb_init_44 : decode prog_1_method_1_code 44 = .ok (.dup, 1) := by decide +kernel
theorem d_Nb_init_45 : decode prog_1_method_1_code 45 = .ok (.invokespecial 26, 3) := by decide +kernel
theorem tb_fl_Nb_31 : mTB (Cond.fieldLink "NineBars" 31 "NineBars" "spare" "LNineBars$Box;") := tbq2 164 (by decide +kernel) rfl
theorem fd_Nb_31 {M : mM} (h : mO M = "NineBars") : mFld M 31 10 7 2 := ⟨_, _, _, tyX10, rfl, by decide, by decide, rfl, uw_10, tyX10_ok, nmX10, by rw [h]; exact Or.inl tb_fl_Nb_31⟩
theorem d_Nb_init_48 : decode prog_1_method_1_code 48 = .ok (.putfield 31, 3) := by decide +kernel
theorem d_Nb_init_51 : decode prog_1_method_1_code 51 = .ok (.aload_n 0, 1) := by decide +kernel
theorem d_Nb_init_52 : decode prog_1_method_1_code 52 = .ok (.iconst 3, 1) := by decide +kernel
theorem d_Nb_init_53 : decode prog_1_method_1_code 53 = .ok (.anewarray 24, 3) := by decide +kernel
theorem tb_fl_Nb_34 : mTB (Cond.fieldLink "NineBars" 34 "NineBars" "images" "[LNineBars$Box;") := tbq2 165 (by decide +kernel) rfl
theorem fd_Nb_34 {M : mM} (h : mO M = "NineBars") : mFld M 34 10 8 2 := ⟨_, _, _, tyX10, rfl, by decide, by decide, rfl, uw_10, tyX10_ok, nmX10, by rw [h]; exact Or.inl tb_fl_Nb_34⟩
theorem d_Nb_init_56 : decode prog_1_method_1_code 56 = .ok (.putfield 34, 3) := by decide +kernel
theorem d_Nb_init_59 : decode prog_1_method_1_code 59 = .ok (.aload_n 0, 1) := by decide +kernel
theorem d_Nb_init_60 : decode prog_1_method_1_code 60 = .ok (.iconst 4, 1) := by decide +kernel
theorem tb_cl_Nb_38 : mTB (Cond.classLink "NineBars" 38 "NineBars$Tray") := tbq1 161 (by decide +kernel) rfl
theorem d_Nb_init_61 : decode prog_1_method_1_code 61 = .ok (.anewarray 38, 3) := by decide +kernel
theorem tb_fl_Nb_40 : mTB (Cond.fieldLink "NineBars" 40 "NineBars" "trays" "[LNineBars$Tray;") := tbq2 166 (by decide +kernel) rfl
theorem fd_Nb_40 {M : mM} (h : mO M = "NineBars") : mFld M 40 10 9 2 := ⟨_, _, _, tyX10, rfl, by decide, by decide, rfl, uw_10, tyX10_ok, nmX10, by rw [h]; exact Or.inl tb_fl_Nb_40⟩
theorem d_Nb_init_64 : decode prog_1_method_1_code 64 = .ok (.putfield 40, 3) := by decide +kernel
theorem d_Nb_init_67 : decode prog_1_method_1_code 67 = .ok (.iconst 0, 1) := by decide +kernel
theorem d_Nb_init_68 : decode prog_1_method_1_code 68 = .ok (.istore_n 1, 1) := by decide +kernel
theorem d_Nb_init_69 : decode prog_1_method_1_code 69 = .ok (.iload_n 1, 1) := by decide +kernel
theorem d_Nb_init_70 : decode prog_1_method_1_code 70 = .ok (.iconst 4, 1) := by decide +kernel
theorem d_Nb_init_71 : decode prog_1_method_1_code 71 = .ok (.if_icmp .ge 22, 3) := by decide +kernel
theorem d_Nb_init_74 : decode prog_1_method_1_code 74 = .ok (.aload_n 0, 1) := by decide +kernel
theorem d_Nb_init_75 : decode prog_1_method_1_code 75 = .ok (.getfield 40, 3) := by decide +kernel
theorem d_Nb_init_78 : decode prog_1_method_1_code 78 = .ok (.iload_n 1, 1) := by decide +kernel
theorem tb_is_Tray : mTB (Cond.instantiable "NineBars$Tray" 3) := tbq1 163 (by decide +kernel) rfl
theorem d_Nb_init_79 : decode prog_1_method_1_code 79 = .ok (.new 38, 3) := by decide +kernel
theorem d_Nb_init_82 : decode prog_1_method_1_code 82 = .ok (.dup, 1) := by decide +kernel
theorem d_Nb_init_83 : decode prog_1_method_1_code 83 = .ok (.invokespecial 44, 3) := by decide +kernel
theorem tb_mn_Nb_44 : mTN (Cond.methodLinkNest "NineBars" 44 ⟨"NineBars$Tray", "<init>", "()V"⟩ "NineBars") := tbqn1 164 (by decide +kernel) rfl
theorem tb_im_Tray_init : mTB (Cond.instanceMethod ⟨"NineBars$Tray", "<init>", "()V"⟩) := tbq1 165 (by decide +kernel) rfl
theorem d_Nb_init_86 : decode prog_1_method_1_code 86 = .ok (.aastore, 1) := by decide +kernel
theorem d_Nb_init_87 : decode prog_1_method_1_code 87 = .ok (.iinc 1 1, 3) := by decide +kernel
theorem d_Nb_init_90 : decode prog_1_method_1_code 90 = .ok (.goto (-21), 3) := by decide +kernel
theorem d_Nb_init_93 : decode prog_1_method_1_code 93 = .ok (.aload_n 0, 1) := by decide +kernel
theorem tb_cl_Nb_45 : mTB (Cond.classLink "NineBars" 45 "NineBars$Graph") := tbq1 185 (by decide +kernel) rfl
theorem tb_is_Graph : mTB (Cond.instantiable "NineBars$Graph" 11) := tbq1 186 (by decide +kernel) rfl
theorem d_Nb_init_94 : decode prog_1_method_1_code 94 = .ok (.new 45, 3) := by decide +kernel
theorem d_Nb_init_97 : decode prog_1_method_1_code 97 = .ok (.dup, 1) := by decide +kernel
theorem d_Nb_init_98 : decode prog_1_method_1_code 98 = .ok (.invokespecial 47, 3) := by decide +kernel
theorem tb_mn_Nb_47 : mTN (Cond.methodLinkNest "NineBars" 47 ⟨"NineBars$Graph", "<init>", "()V"⟩ "NineBars") := tbqn1 187 (by decide +kernel) rfl
theorem tb_im_Graph_init : mTB (Cond.instanceMethod ⟨"NineBars$Graph", "<init>", "()V"⟩) := tbq1 188 (by decide +kernel) rfl
theorem tb_fl_Nb_48 : mTB (Cond.fieldLink "NineBars" 48 "NineBars" "graph" "LNineBars$Graph;") := tbq2 167 (by decide +kernel) rfl
theorem fd_Nb_48 {M : mM} (h : mO M = "NineBars") : mFld M 48 10 10 2 := ⟨_, _, _, tyX10, rfl, by decide, by decide, rfl, uw_10, tyX10_ok, nmX10, by rw [h]; exact Or.inl tb_fl_Nb_48⟩
theorem d_Nb_init_101 : decode prog_1_method_1_code 101 = .ok (.putfield 48, 3) := by decide +kernel
theorem d_Nb_init_104 : decode prog_1_method_1_code 104 = .ok (.aload_n 0, 1) := by decide +kernel
theorem tb_cl_Nb_52 : mTB (Cond.classLink "NineBars" 52 "NineBars$Paths") := tbq2 6 (by decide +kernel) rfl
theorem tb_is_Paths : mTB (Cond.instantiable "NineBars$Paths" 7) := tbq2 7 (by decide +kernel) rfl
theorem d_Nb_init_105 : decode prog_1_method_1_code 105 = .ok (.new 52, 3) := by decide +kernel
theorem d_Nb_init_108 : decode prog_1_method_1_code 108 = .ok (.dup, 1) := by decide +kernel
theorem d_Nb_init_109 : decode prog_1_method_1_code 109 = .ok (.iconst 0, 1) := by decide +kernel
theorem d_Nb_init_110 : decode prog_1_method_1_code 110 = .ok (.invokespecial 54, 3) := by decide +kernel
theorem tb_ml_Nb_54 : mTB (Cond.methodLink "NineBars" 54 ⟨"NineBars$Paths", "<init>", "(Z)V"⟩) := tbq2 8 (by decide +kernel) rfl
theorem tb_im_Paths_init : mTB (Cond.instanceMethod ⟨"NineBars$Paths", "<init>", "(Z)V"⟩) := tbq2 9 (by decide +kernel) rfl
theorem tb_fl_Nb_57 : mTB (Cond.fieldLink "NineBars" 57 "NineBars" "onward" "LNineBars$Paths;") := tbq2 168 (by decide +kernel) rfl
theorem fd_Nb_57 {M : mM} (h : mO M = "NineBars") : mFld M 57 10 11 2 := ⟨_, _, _, tyX10, rfl, by decide, by decide, rfl, uw_10, tyX10_ok, nmX10, by rw [h]; exact Or.inl tb_fl_Nb_57⟩
theorem d_Nb_init_113 : decode prog_1_method_1_code 113 = .ok (.putfield 57, 3) := by decide +kernel
theorem d_Nb_init_116 : decode prog_1_method_1_code 116 = .ok (.aload_n 0, 1) := by decide +kernel
theorem d_Nb_init_117 : decode prog_1_method_1_code 117 = .ok (.new 52, 3) := by decide +kernel
theorem d_Nb_init_120 : decode prog_1_method_1_code 120 = .ok (.dup, 1) := by decide +kernel
theorem d_Nb_init_121 : decode prog_1_method_1_code 121 = .ok (.iconst 1, 1) := by decide +kernel
theorem d_Nb_init_122 : decode prog_1_method_1_code 122 = .ok (.invokespecial 54, 3) := by decide +kernel
theorem tb_fl_Nb_61 : mTB (Cond.fieldLink "NineBars" 61 "NineBars" "toward" "LNineBars$Paths;") := tbq2 169 (by decide +kernel) rfl
theorem fd_Nb_61 {M : mM} (h : mO M = "NineBars") : mFld M 61 10 12 2 := ⟨_, _, _, tyX10, rfl, by decide, by decide, rfl, uw_10, tyX10_ok, nmX10, by rw [h]; exact Or.inl tb_fl_Nb_61⟩
theorem d_Nb_init_125 : decode prog_1_method_1_code 125 = .ok (.putfield 61, 3) := by decide +kernel
theorem d_Nb_init_128 : decode prog_1_method_1_code 128 = .ok (.aload_n 0, 1) := by decide +kernel
theorem d_Nb_init_129 : decode prog_1_method_1_code 129 = .ok (.new 52, 3) := by decide +kernel
theorem d_Nb_init_132 : decode prog_1_method_1_code 132 = .ok (.dup, 1) := by decide +kernel
theorem d_Nb_init_133 : decode prog_1_method_1_code 133 = .ok (.iconst 0, 1) := by decide +kernel
theorem d_Nb_init_134 : decode prog_1_method_1_code 134 = .ok (.invokespecial 54, 3) := by decide +kernel
theorem tb_fl_Nb_64 : mTB (Cond.fieldLink "NineBars" 64 "NineBars" "aside" "LNineBars$Paths;") := tbq2 170 (by decide +kernel) rfl
theorem fd_Nb_64 {M : mM} (h : mO M = "NineBars") : mFld M 64 10 13 2 := ⟨_, _, _, tyX10, rfl, by decide, by decide, rfl, uw_10, tyX10_ok, nmX10, by rw [h]; exact Or.inl tb_fl_Nb_64⟩
theorem d_Nb_init_137 : decode prog_1_method_1_code 137 = .ok (.putfield 64, 3) := by decide +kernel
theorem d_Nb_init_140 : decode prog_1_method_1_code 140 = .ok (.aload_n 0, 1) := by decide +kernel
theorem tb_cl_Nb_67 : mTB (Cond.classLink "NineBars" 67 "NineBars$Counter") := tbq2 39 (by decide +kernel) rfl
theorem tb_is_Counter : mTB (Cond.instantiable "NineBars$Counter" 2) := tbq2 40 (by decide +kernel) rfl
theorem d_Nb_init_141 : decode prog_1_method_1_code 141 = .ok (.new 67, 3) := by decide +kernel
theorem d_Nb_init_144 : decode prog_1_method_1_code 144 = .ok (.dup, 1) := by decide +kernel
theorem d_Nb_init_145 : decode prog_1_method_1_code 145 = .ok (.invokespecial 69, 3) := by decide +kernel
theorem tb_mn_Nb_69 : mTN (Cond.methodLinkNest "NineBars" 69 ⟨"NineBars$Counter", "<init>", "()V"⟩ "NineBars") := tbqn2 41 (by decide +kernel) rfl
theorem tb_im_Counter_init : mTB (Cond.instanceMethod ⟨"NineBars$Counter", "<init>", "()V"⟩) := tbq2 42 (by decide +kernel) rfl
theorem tb_fl_Nb_70 : mTB (Cond.fieldLink "NineBars" 70 "NineBars" "counter" "LNineBars$Counter;") := tbq2 171 (by decide +kernel) rfl
theorem fd_Nb_70 {M : mM} (h : mO M = "NineBars") : mFld M 70 10 14 2 := ⟨_, _, _, tyX10, rfl, by decide, by decide, rfl, uw_10, tyX10_ok, nmX10, by rw [h]; exact Or.inl tb_fl_Nb_70⟩
theorem d_Nb_init_148 : decode prog_1_method_1_code 148 = .ok (.putfield 70, 3) := by decide +kernel
theorem d_Nb_init_151 : decode prog_1_method_1_code 151 = .ok (.aload_n 0, 1) := by decide +kernel
theorem tb_cl_Nb_74 : mTB (Cond.classLink "NineBars" 74 "NineBars$Game") := tbq2 52 (by decide +kernel) rfl
theorem tb_is_Game : mTB (Cond.instantiable "NineBars$Game" 4) := tbq2 53 (by decide +kernel) rfl
theorem d_Nb_init_152 : decode prog_1_method_1_code 152 = .ok (.new 74, 3) := by decide +kernel
theorem d_Nb_init_155 : decode prog_1_method_1_code 155 = .ok (.dup, 1) := by decide +kernel
theorem d_Nb_init_156 : decode prog_1_method_1_code 156 = .ok (.invokespecial 76, 3) := by decide +kernel
theorem tb_mn_Nb_76 : mTN (Cond.methodLinkNest "NineBars" 76 ⟨"NineBars$Game", "<init>", "()V"⟩ "NineBars") := tbqn2 54 (by decide +kernel) rfl
theorem tb_im_Game_init : mTB (Cond.instanceMethod ⟨"NineBars$Game", "<init>", "()V"⟩) := tbq2 55 (by decide +kernel) rfl
theorem tb_fl_Nb_77 : mTB (Cond.fieldLink "NineBars" 77 "NineBars" "game" "LNineBars$Game;") := tbq2 172 (by decide +kernel) rfl
theorem fd_Nb_77 {M : mM} (h : mO M = "NineBars") : mFld M 77 10 15 2 := ⟨_, _, _, tyX10, rfl, by decide, by decide, rfl, uw_10, tyX10_ok, nmX10, by rw [h]; exact Or.inl tb_fl_Nb_77⟩
theorem d_Nb_init_159 : decode prog_1_method_1_code 159 = .ok (.putfield 77, 3) := by decide +kernel
theorem d_Nb_init_162 : decode prog_1_method_1_code 162 = .ok (.aload_n 0, 1) := by decide +kernel
theorem tb_cl_Nb_81 : mTB (Cond.classLink "NineBars" 81 "NineBars$Notches") := tbq2 71 (by decide +kernel) rfl
theorem tb_is_Notches : mTB (Cond.instantiable "NineBars$Notches" 6) := tbq2 72 (by decide +kernel) rfl
theorem d_Nb_init_163 : decode prog_1_method_1_code 163 = .ok (.new 81, 3) := by decide +kernel
theorem d_Nb_init_166 : decode prog_1_method_1_code 166 = .ok (.dup, 1) := by decide +kernel
theorem d_Nb_init_167 : decode prog_1_method_1_code 167 = .ok (.invokespecial 83, 3) := by decide +kernel
theorem tb_mn_Nb_83 : mTN (Cond.methodLinkNest "NineBars" 83 ⟨"NineBars$Notches", "<init>", "()V"⟩ "NineBars") := tbqn2 73 (by decide +kernel) rfl
theorem tb_im_Notches_init : mTB (Cond.instanceMethod ⟨"NineBars$Notches", "<init>", "()V"⟩) := tbq2 74 (by decide +kernel) rfl
theorem tb_fl_Nb_84 : mTB (Cond.fieldLink "NineBars" 84 "NineBars" "notches" "LNineBars$Notches;") := tbq2 173 (by decide +kernel) rfl
theorem fd_Nb_84 {M : mM} (h : mO M = "NineBars") : mFld M 84 10 16 2 := ⟨_, _, _, tyX10, rfl, by decide, by decide, rfl, uw_10, tyX10_ok, nmX10, by rw [h]; exact Or.inl tb_fl_Nb_84⟩
theorem d_Nb_init_170 : decode prog_1_method_1_code 170 = .ok (.putfield 84, 3) := by decide +kernel
theorem d_Nb_init_173 : decode prog_1_method_1_code 173 = .ok (.aload_n 0, 1) := by decide +kernel
theorem tb_cl_Nb_88 : mTB (Cond.classLink "NineBars" 88 "NineBars$Kept") := tbq2 97 (by decide +kernel) rfl
theorem tb_is_Kept : mTB (Cond.instantiable "NineBars$Kept" 7) := tbq2 98 (by decide +kernel) rfl
theorem d_Nb_init_174 : decode prog_1_method_1_code 174 = .ok (.new 88, 3) := by decide +kernel
theorem d_Nb_init_177 : decode prog_1_method_1_code 177 = .ok (.dup, 1) := by decide +kernel
theorem d_Nb_init_178 : decode prog_1_method_1_code 178 = .ok (.invokespecial 90, 3) := by decide +kernel
theorem tb_mn_Nb_90 : mTN (Cond.methodLinkNest "NineBars" 90 ⟨"NineBars$Kept", "<init>", "()V"⟩ "NineBars") := tbqn2 99 (by decide +kernel) rfl
theorem tb_im_Kept_init : mTB (Cond.instanceMethod ⟨"NineBars$Kept", "<init>", "()V"⟩) := tbq2 100 (by decide +kernel) rfl
theorem tb_fl_Nb_91 : mTB (Cond.fieldLink "NineBars" 91 "NineBars" "kept" "LNineBars$Kept;") := tbq2 174 (by decide +kernel) rfl
theorem fd_Nb_91 {M : mM} (h : mO M = "NineBars") : mFld M 91 10 17 2 := ⟨_, _, _, tyX10, rfl, by decide, by decide, rfl, uw_10, tyX10_ok, nmX10, by rw [h]; exact Or.inl tb_fl_Nb_91⟩
theorem d_Nb_init_181 : decode prog_1_method_1_code 181 = .ok (.putfield 91, 3) := by decide +kernel
theorem d_Nb_init_184 : decode prog_1_method_1_code 184 = .ok (.aload_n 0, 1) := by decide +kernel
theorem tb_cl_Nb_95 : mTB (Cond.classLink "NineBars" 95 "NineBars$Fits") := tbq2 128 (by decide +kernel) rfl
theorem tb_is_Fits : mTB (Cond.instantiable "NineBars$Fits" 6) := tbq2 129 (by decide +kernel) rfl
theorem d_Nb_init_185 : decode prog_1_method_1_code 185 = .ok (.new 95, 3) := by decide +kernel
theorem d_Nb_init_188 : decode prog_1_method_1_code 188 = .ok (.dup, 1) := by decide +kernel
theorem d_Nb_init_189 : decode prog_1_method_1_code 189 = .ok (.invokespecial 97, 3) := by decide +kernel
theorem tb_mn_Nb_97 : mTN (Cond.methodLinkNest "NineBars" 97 ⟨"NineBars$Fits", "<init>", "()V"⟩ "NineBars") := tbqn2 130 (by decide +kernel) rfl
theorem tb_im_Fits_init : mTB (Cond.instanceMethod ⟨"NineBars$Fits", "<init>", "()V"⟩) := tbq2 131 (by decide +kernel) rfl
theorem tb_fl_Nb_98 : mTB (Cond.fieldLink "NineBars" 98 "NineBars" "fitting" "LNineBars$Fits;") := tbq2 175 (by decide +kernel) rfl
theorem fd_Nb_98 {M : mM} (h : mO M = "NineBars") : mFld M 98 10 18 2 := ⟨_, _, _, tyX10, rfl, by decide, by decide, rfl, uw_10, tyX10_ok, nmX10, by rw [h]; exact Or.inl tb_fl_Nb_98⟩
theorem d_Nb_init_192 : decode prog_1_method_1_code 192 = .ok (.putfield 98, 3) := by decide +kernel
theorem d_Nb_init_195 : decode prog_1_method_1_code 195 = .ok (.return_, 1) := by decide +kernel
theorem t_Nb_init_L69 {G : mG} {r : mR} {v0 : Int} {K93 : mH → Option mR} (hK93 : ∀ (h : mH) , K93 h  = some r → mJ G M_Nb_init 93 [(2, v0), (9, 0)] [] h r) : ∀ (n : Nat) (h : mH) (v1 : Int), f_Nb_init_L69 K93 v0 n h v1 = some r → mJ G M_Nb_init 69 [(2, v0), (0, v1)] [] h r := by
  intro n
  induction n with
  | zero =>
    intro h v1 hr
    rw [f_Nb_init_L69] at hr
    cases hr
  | succ n hR69 =>
    intro h v1 hr
    rw [f_Nb_init_L69] at hr
    refine j_iload_n (pc := 69) d_Nb_init_69 rfl ?_
    refine j_iconst (pc := 70) d_Nb_init_70 ?_
    refine j_icmp_ge (pc := 71) (tgt := 93) d_Nb_init_71 hr (fun hr => ?_) (fun hr => ?_)
    · exact mJ_weak (ls' := [(2, v0), (9, 0)]) (mwk_s (mwk_d mwk_n)) (hK93 h  hr)
    · refine j_aload_n (pc := 74) d_Nb_init_74 rfl ?_
      refine j_getf (pc := 75) d_Nb_init_75 (fd_Nb_40 rfl) hr (fun hr => ?_)
      refine j_iload_n (pc := 78) d_Nb_init_78 rfl ?_
      refine j_new (pc := 79) (c := 9) (N := 3) (ty := tyX9) d_Nb_init_79 rfl (by decide) tb_cl_Nb_38 tb_is_Tray tb_in_NineBars_Tray uw_9 tyX9_ok (mz_9 G) hr (fun h1 hr => ?_)
      refine j_dup (pc := 82) d_Nb_init_82 ?_
      obtain ⟨ha, hr⟩ := chk_some hr
      refine j_callR (pc := 83) (stk := [(2, hpN h + 1), (2, hpN h + 1), (0, v1), (2, hpV h v0 9)]) (as := [(2, hpN h + 1)]) (P := (fun v9 => [(2, hpN h + 1), (0, v1), (2, hpV h v0 9)])) (tg := 3) (My := M_Tray_init) (by decide) (mRunI (as := []) (st := [(2, hpN h + 1), (0, v1), (2, hpV h v0 9)]) d_Nb_init_83 (mc_Tray_init (by decide)) rfl rfl ⟨Or.inr ⟨_, tb_mn_Nb_44⟩, tb_im_Tray_init, rfl⟩ rfl (Nat.le_of_ble_eq_true rfl) ha) (fun v => rfl) hr (fun r1 h1 => t_Tray_init _ _ _ h1) (fun x3 h2 hr => ?_)
      refine j_aastore (pc := 86) (C9 := 0) (k9 := 5) (c := 9) (rc := (RX9, TX9, 3)) d_Nb_init_86 (by decide) rfl rfl (by decide) hr (fun h4 hr => ?_)
      refine j_iincW (pc := 87) (L := fun x5 => [(2, v0), (0, x5)]) d_Nb_init_87 rfl (fun _ => rfl) hr (fun x5 hr => ?_)
      refine j_goto (pc := 90) (tgt := 69) d_Nb_init_90 ?_
      exact mJ_weak (ls' := [(2, v0), (0, x5)]) (mwk_s (mwk_s mwk_n)) (hR69 h4 _ hr)
theorem t_Nb_init {G : mG} (h : mH) (v0 : Int) (r : mR) (hr : f_Nb_init h v0 = some r) : mJM G M_Nb_init [(2, v0)] h r := by
  refine mJM_of (L := [(2, v0), (9, 0)]) rfl rfl rfl (Nat.le_of_ble_eq_true rfl) ?_
  unfold f_Nb_init at hr
  refine j_aload_n (pc := 0) d_Nb_init_0 rfl ?_
  obtain ⟨ha, hr⟩ := chk_some hr
  refine j_objInit (pc := 1) d_Nb_init_1 tb_ml_Nb_3 tb_im_Obj tb_co_Obj (Nat.le_of_ble_eq_true rfl) ha ?_
  refine j_aload_n (pc := 4) d_Nb_init_4 rfl ?_
  refine j_sipush (pc := 5) d_Nb_init_5 ?_
  refine j_newB (pc := 8) d_Nb_init_8 tb_ac_byte hr (fun h1 hr => ?_)
  refine j_puta (pc := 10) d_Nb_init_10 (fd_Nb_9 rfl) (⟨_, _, _, rfl, Or.inr ⟨rfl, rfl, rfl, tb_fl_Nb_9⟩, rfl⟩ : mFldW M_Nb_init 9 10 0 (.array .byte)) (Or.inr ⟨_, rfl⟩) hr (fun h2 hr => ?_)
  refine j_aload_n (pc := 13) d_Nb_init_13 rfl ?_
  refine j_iconst (pc := 14) d_Nb_init_14 ?_
  refine j_puti (pc := 15) d_Nb_init_15 (fd_Nb_13 rfl) (⟨_, _, _, rfl, Or.inl rfl, rfl⟩ : mFldW M_Nb_init 13 10 3 .int) hr (fun h3 hr => ?_)
  refine j_aload_n (pc := 18) d_Nb_init_18 rfl ?_
  refine j_new (pc := 19) (c := 8) (N := 8) (ty := tyX8) d_Nb_init_19 rfl (by decide) tb_cl_Nb_17 tb_is_Reader tb_in_NineBars_Reader uw_8 tyX8_ok (mz_8 G) hr (fun h4 hr => ?_)
  refine j_dup (pc := 22) d_Nb_init_22 ?_
  obtain ⟨ha, hr⟩ := chk_some hr
  refine j_callR (pc := 23) (stk := [(2, hpN h3 + 1), (2, hpN h3 + 1), (2, v0)]) (as := [(2, hpN h3 + 1)]) (P := (fun v9 => [(2, hpN h3 + 1), (2, v0)])) (tg := 3) (My := M_Reader_init) (by decide) (mRunI (as := []) (st := [(2, hpN h3 + 1), (2, v0)]) d_Nb_init_23 (mc_Reader_init (by decide)) rfl rfl ⟨Or.inr ⟨_, tb_mn_Nb_19⟩, tb_im_Reader_init, rfl⟩ rfl (Nat.le_of_ble_eq_true rfl) ha) (fun v => rfl) hr (fun r1 h1 => t_Reader_init _ _ _ h1) (fun x6 h5 hr => ?_)
  refine j_puta (pc := 26) d_Nb_init_26 (fd_Nb_20 rfl) (⟨_, _, _, rfl, Or.inr ⟨rfl, rfl, rfl, tb_fl_Nb_20⟩, rfl⟩ : mFldW M_Nb_init 20 10 5 (.object "NineBars$Reader")) (Or.inl ⟨_, rfl⟩) hr (fun h7 hr => ?_)
  refine j_aload_n (pc := 29) d_Nb_init_29 rfl ?_
  refine j_new (pc := 30) (c := 0) (N := 18) (ty := tyX0) d_Nb_init_30 rfl (by decide) tb_cl_Nb_24 tb_is_Box tb_in_NineBars_Box uw_0 tyX0_ok (mz_0 G) hr (fun h8 hr => ?_)
  refine j_dup (pc := 33) d_Nb_init_33 ?_
  obtain ⟨ha, hr⟩ := chk_some hr
  refine j_callR (pc := 34) (stk := [(2, hpN h7 + 1), (2, hpN h7 + 1), (2, v0)]) (as := [(2, hpN h7 + 1)]) (P := (fun v9 => [(2, hpN h7 + 1), (2, v0)])) (tg := 3) (My := M_Box_init) (by decide) (mRunI (as := []) (st := [(2, hpN h7 + 1), (2, v0)]) d_Nb_init_34 (mc_Box_init (by decide)) rfl rfl ⟨Or.inr ⟨_, tb_mn_Nb_26⟩, tb_im_Box_init, rfl⟩ rfl (Nat.le_of_ble_eq_true rfl) ha) (fun v => rfl) hr (fun r1 h1 => t_Box_init _ _ _ h1) (fun x10 h9 hr => ?_)
  refine j_puta (pc := 37) d_Nb_init_37 (fd_Nb_27 rfl) (⟨_, _, _, rfl, Or.inr ⟨rfl, rfl, rfl, tb_fl_Nb_27⟩, rfl⟩ : mFldW M_Nb_init 27 10 6 (.object "NineBars$Box")) (Or.inl ⟨_, rfl⟩) hr (fun h11 hr => ?_)
  refine j_aload_n (pc := 40) d_Nb_init_40 rfl ?_
  refine j_new (pc := 41) (c := 0) (N := 18) (ty := tyX0) d_Nb_init_41 rfl (by decide) tb_cl_Nb_24 tb_is_Box tb_in_NineBars_Box uw_0 tyX0_ok (mz_0 G) hr (fun h12 hr => ?_)
  refine j_dup (pc := 44) d_Nb_init_44 ?_
  obtain ⟨ha, hr⟩ := chk_some hr
  refine j_callR (pc := 45) (stk := [(2, hpN h11 + 1), (2, hpN h11 + 1), (2, v0)]) (as := [(2, hpN h11 + 1)]) (P := (fun v9 => [(2, hpN h11 + 1), (2, v0)])) (tg := 3) (My := M_Box_init) (by decide) (mRunI (as := []) (st := [(2, hpN h11 + 1), (2, v0)]) d_Nb_init_45 (mc_Box_init (by decide)) rfl rfl ⟨Or.inr ⟨_, tb_mn_Nb_26⟩, tb_im_Box_init, rfl⟩ rfl (Nat.le_of_ble_eq_true rfl) ha) (fun v => rfl) hr (fun r1 h1 => t_Box_init _ _ _ h1) (fun x14 h13 hr => ?_)
  refine j_puta (pc := 48) d_Nb_init_48 (fd_Nb_31 rfl) (⟨_, _, _, rfl, Or.inr ⟨rfl, rfl, rfl, tb_fl_Nb_31⟩, rfl⟩ : mFldW M_Nb_init 31 10 7 (.object "NineBars$Box")) (Or.inl ⟨_, rfl⟩) hr (fun h15 hr => ?_)
  refine j_aload_n (pc := 51) d_Nb_init_51 rfl ?_
  refine j_iconst (pc := 52) d_Nb_init_52 ?_
  refine j_newQ (pc := 53) (t := 25) (k9 := 4) d_Nb_init_53 tb_cl_Nb_24 (by decide) rfl hr (fun h16 hr => ?_)
  refine j_puta (pc := 56) d_Nb_init_56 (fd_Nb_34 rfl) (⟨_, _, _, rfl, Or.inr ⟨rfl, rfl, rfl, tb_fl_Nb_34⟩, rfl⟩ : mFldW M_Nb_init 34 10 8 (.array (.object "NineBars$Box"))) (Or.inr ⟨_, rfl⟩) hr (fun h17 hr => ?_)
  refine j_aload_n (pc := 59) d_Nb_init_59 rfl ?_
  refine j_iconst (pc := 60) d_Nb_init_60 ?_
  refine j_newQ (pc := 61) (t := 26) (k9 := 5) d_Nb_init_61 tb_cl_Nb_38 (by decide) rfl hr (fun h18 hr => ?_)
  refine j_puta (pc := 64) d_Nb_init_64 (fd_Nb_40 rfl) (⟨_, _, _, rfl, Or.inr ⟨rfl, rfl, rfl, tb_fl_Nb_40⟩, rfl⟩ : mFldW M_Nb_init 40 10 9 (.array (.object "NineBars$Tray"))) (Or.inr ⟨_, rfl⟩) hr (fun h19 hr => ?_)
  refine j_iconst (pc := 67) d_Nb_init_67 ?_
  refine j_istore_n (pc := 68) (ls' := [(2, v0), (0, 0)]) d_Nb_init_68 rfl ?_
  refine mJ_weak (ls' := [(2, v0), (0, 0)]) (mwk_s (mwk_s mwk_n)) (t_Nb_init_L69 (fun h20  hr => ?_) _ _ _ hr)
  · refine j_aload_n (pc := 93) d_Nb_init_93 rfl ?_
    refine j_new (pc := 94) (c := 4) (N := 11) (ty := tyX4) d_Nb_init_94 rfl (by decide) tb_cl_Nb_45 tb_is_Graph tb_in_NineBars_Graph uw_4 tyX4_ok (mz_4 G) hr (fun h21 hr => ?_)
    refine j_dup (pc := 97) d_Nb_init_97 ?_
    obtain ⟨ha, hr⟩ := chk_some hr
    refine j_callR (pc := 98) (stk := [(2, hpN h20 + 1), (2, hpN h20 + 1), (2, v0)]) (as := [(2, hpN h20 + 1)]) (P := (fun v9 => [(2, hpN h20 + 1), (2, v0)])) (tg := 3) (My := M_Graph_init) (by decide) (mRunI (as := []) (st := [(2, hpN h20 + 1), (2, v0)]) d_Nb_init_98 (mc_Graph_init (by decide)) rfl rfl ⟨Or.inr ⟨_, tb_mn_Nb_47⟩, tb_im_Graph_init, rfl⟩ rfl (Nat.le_of_ble_eq_true rfl) ha) (fun v => rfl) hr (fun r1 h1 => t_Graph_init _ _ _ h1) (fun x23 h22 hr => ?_)
    refine j_puta (pc := 101) d_Nb_init_101 (fd_Nb_48 rfl) (⟨_, _, _, rfl, Or.inr ⟨rfl, rfl, rfl, tb_fl_Nb_48⟩, rfl⟩ : mFldW M_Nb_init 48 10 10 (.object "NineBars$Graph")) (Or.inl ⟨_, rfl⟩) hr (fun h24 hr => ?_)
    refine j_aload_n (pc := 104) d_Nb_init_104 rfl ?_
    refine j_new (pc := 105) (c := 7) (N := 7) (ty := tyX7) d_Nb_init_105 rfl (by decide) tb_cl_Nb_52 tb_is_Paths tb_in_NineBars_Paths uw_7 tyX7_ok (mz_7 G) hr (fun h25 hr => ?_)
    refine j_dup (pc := 108) d_Nb_init_108 ?_
    refine j_iconst (pc := 109) d_Nb_init_109 ?_
    obtain ⟨ha, hr⟩ := chk_some hr
    refine j_callR (pc := 110) (stk := [(0, 0), (2, hpN h24 + 1), (2, hpN h24 + 1), (2, v0)]) (as := [(2, hpN h24 + 1), (0, 0)]) (P := (fun v9 => [(2, hpN h24 + 1), (2, v0)])) (tg := 3) (My := M_Paths_init) (by decide) (mRunI (as := [(0, 0)]) (st := [(2, hpN h24 + 1), (2, v0)]) d_Nb_init_110 (mc_Paths_init (by decide)) rfl rfl ⟨Or.inl tb_ml_Nb_54, tb_im_Paths_init, rfl⟩ rfl (Nat.le_of_ble_eq_true rfl) ha) (fun v => rfl) hr (fun r1 h1 => t_Paths_init _ _ _ _ h1) (fun x27 h26 hr => ?_)
    refine j_puta (pc := 113) d_Nb_init_113 (fd_Nb_57 rfl) (⟨_, _, _, rfl, Or.inr ⟨rfl, rfl, rfl, tb_fl_Nb_57⟩, rfl⟩ : mFldW M_Nb_init 57 10 11 (.object "NineBars$Paths")) (Or.inl ⟨_, rfl⟩) hr (fun h28 hr => ?_)
    refine j_aload_n (pc := 116) d_Nb_init_116 rfl ?_
    refine j_new (pc := 117) (c := 7) (N := 7) (ty := tyX7) d_Nb_init_117 rfl (by decide) tb_cl_Nb_52 tb_is_Paths tb_in_NineBars_Paths uw_7 tyX7_ok (mz_7 G) hr (fun h29 hr => ?_)
    refine j_dup (pc := 120) d_Nb_init_120 ?_
    refine j_iconst (pc := 121) d_Nb_init_121 ?_
    obtain ⟨ha, hr⟩ := chk_some hr
    refine j_callR (pc := 122) (stk := [(0, 1), (2, hpN h28 + 1), (2, hpN h28 + 1), (2, v0)]) (as := [(2, hpN h28 + 1), (0, 1)]) (P := (fun v9 => [(2, hpN h28 + 1), (2, v0)])) (tg := 3) (My := M_Paths_init) (by decide) (mRunI (as := [(0, 1)]) (st := [(2, hpN h28 + 1), (2, v0)]) d_Nb_init_122 (mc_Paths_init (by decide)) rfl rfl ⟨Or.inl tb_ml_Nb_54, tb_im_Paths_init, rfl⟩ rfl (Nat.le_of_ble_eq_true rfl) ha) (fun v => rfl) hr (fun r1 h1 => t_Paths_init _ _ _ _ h1) (fun x31 h30 hr => ?_)
    refine j_puta (pc := 125) d_Nb_init_125 (fd_Nb_61 rfl) (⟨_, _, _, rfl, Or.inr ⟨rfl, rfl, rfl, tb_fl_Nb_61⟩, rfl⟩ : mFldW M_Nb_init 61 10 12 (.object "NineBars$Paths")) (Or.inl ⟨_, rfl⟩) hr (fun h32 hr => ?_)
    refine j_aload_n (pc := 128) d_Nb_init_128 rfl ?_
    refine j_new (pc := 129) (c := 7) (N := 7) (ty := tyX7) d_Nb_init_129 rfl (by decide) tb_cl_Nb_52 tb_is_Paths tb_in_NineBars_Paths uw_7 tyX7_ok (mz_7 G) hr (fun h33 hr => ?_)
    refine j_dup (pc := 132) d_Nb_init_132 ?_
    refine j_iconst (pc := 133) d_Nb_init_133 ?_
    obtain ⟨ha, hr⟩ := chk_some hr
    refine j_callR (pc := 134) (stk := [(0, 0), (2, hpN h32 + 1), (2, hpN h32 + 1), (2, v0)]) (as := [(2, hpN h32 + 1), (0, 0)]) (P := (fun v9 => [(2, hpN h32 + 1), (2, v0)])) (tg := 3) (My := M_Paths_init) (by decide) (mRunI (as := [(0, 0)]) (st := [(2, hpN h32 + 1), (2, v0)]) d_Nb_init_134 (mc_Paths_init (by decide)) rfl rfl ⟨Or.inl tb_ml_Nb_54, tb_im_Paths_init, rfl⟩ rfl (Nat.le_of_ble_eq_true rfl) ha) (fun v => rfl) hr (fun r1 h1 => t_Paths_init _ _ _ _ h1) (fun x35 h34 hr => ?_)
    refine j_puta (pc := 137) d_Nb_init_137 (fd_Nb_64 rfl) (⟨_, _, _, rfl, Or.inr ⟨rfl, rfl, rfl, tb_fl_Nb_64⟩, rfl⟩ : mFldW M_Nb_init 64 10 13 (.object "NineBars$Paths")) (Or.inl ⟨_, rfl⟩) hr (fun h36 hr => ?_)
    refine j_aload_n (pc := 140) d_Nb_init_140 rfl ?_
    refine j_new (pc := 141) (c := 1) (N := 2) (ty := tyX1) d_Nb_init_141 rfl (by decide) tb_cl_Nb_67 tb_is_Counter tb_in_NineBars_Counter uw_1 tyX1_ok (mz_1 G) hr (fun h37 hr => ?_)
    refine j_dup (pc := 144) d_Nb_init_144 ?_
    obtain ⟨ha, hr⟩ := chk_some hr
    refine j_callR (pc := 145) (stk := [(2, hpN h36 + 1), (2, hpN h36 + 1), (2, v0)]) (as := [(2, hpN h36 + 1)]) (P := (fun v9 => [(2, hpN h36 + 1), (2, v0)])) (tg := 3) (My := M_Counter_init) (by decide) (mRunI (as := []) (st := [(2, hpN h36 + 1), (2, v0)]) d_Nb_init_145 (mc_Counter_init (by decide)) rfl rfl ⟨Or.inr ⟨_, tb_mn_Nb_69⟩, tb_im_Counter_init, rfl⟩ rfl (Nat.le_of_ble_eq_true rfl) ha) (fun v => rfl) hr (fun r1 h1 => t_Counter_init _ _ _ h1) (fun x39 h38 hr => ?_)
    refine j_puta (pc := 148) d_Nb_init_148 (fd_Nb_70 rfl) (⟨_, _, _, rfl, Or.inr ⟨rfl, rfl, rfl, tb_fl_Nb_70⟩, rfl⟩ : mFldW M_Nb_init 70 10 14 (.object "NineBars$Counter")) (Or.inl ⟨_, rfl⟩) hr (fun h40 hr => ?_)
    refine j_aload_n (pc := 151) d_Nb_init_151 rfl ?_
    refine j_new (pc := 152) (c := 3) (N := 4) (ty := tyX3) d_Nb_init_152 rfl (by decide) tb_cl_Nb_74 tb_is_Game tb_in_NineBars_Game uw_3 tyX3_ok (mz_3 G) hr (fun h41 hr => ?_)
    refine j_dup (pc := 155) d_Nb_init_155 ?_
    obtain ⟨ha, hr⟩ := chk_some hr
    refine j_callR (pc := 156) (stk := [(2, hpN h40 + 1), (2, hpN h40 + 1), (2, v0)]) (as := [(2, hpN h40 + 1)]) (P := (fun v9 => [(2, hpN h40 + 1), (2, v0)])) (tg := 3) (My := M_Game_init) (by decide) (mRunI (as := []) (st := [(2, hpN h40 + 1), (2, v0)]) d_Nb_init_156 (mc_Game_init (by decide)) rfl rfl ⟨Or.inr ⟨_, tb_mn_Nb_76⟩, tb_im_Game_init, rfl⟩ rfl (Nat.le_of_ble_eq_true rfl) ha) (fun v => rfl) hr (fun r1 h1 => t_Game_init _ _ _ h1) (fun x43 h42 hr => ?_)
    refine j_puta (pc := 159) d_Nb_init_159 (fd_Nb_77 rfl) (⟨_, _, _, rfl, Or.inr ⟨rfl, rfl, rfl, tb_fl_Nb_77⟩, rfl⟩ : mFldW M_Nb_init 77 10 15 (.object "NineBars$Game")) (Or.inl ⟨_, rfl⟩) hr (fun h44 hr => ?_)
    refine j_aload_n (pc := 162) d_Nb_init_162 rfl ?_
    refine j_new (pc := 163) (c := 6) (N := 6) (ty := tyX6) d_Nb_init_163 rfl (by decide) tb_cl_Nb_81 tb_is_Notches tb_in_NineBars_Notches uw_6 tyX6_ok (mz_6 G) hr (fun h45 hr => ?_)
    refine j_dup (pc := 166) d_Nb_init_166 ?_
    obtain ⟨ha, hr⟩ := chk_some hr
    refine j_callR (pc := 167) (stk := [(2, hpN h44 + 1), (2, hpN h44 + 1), (2, v0)]) (as := [(2, hpN h44 + 1)]) (P := (fun v9 => [(2, hpN h44 + 1), (2, v0)])) (tg := 3) (My := M_Notches_init) (by decide) (mRunI (as := []) (st := [(2, hpN h44 + 1), (2, v0)]) d_Nb_init_167 (mc_Notches_init (by decide)) rfl rfl ⟨Or.inr ⟨_, tb_mn_Nb_83⟩, tb_im_Notches_init, rfl⟩ rfl (Nat.le_of_ble_eq_true rfl) ha) (fun v => rfl) hr (fun r1 h1 => t_Notches_init _ _ _ h1) (fun x47 h46 hr => ?_)
    refine j_puta (pc := 170) d_Nb_init_170 (fd_Nb_84 rfl) (⟨_, _, _, rfl, Or.inr ⟨rfl, rfl, rfl, tb_fl_Nb_84⟩, rfl⟩ : mFldW M_Nb_init 84 10 16 (.object "NineBars$Notches")) (Or.inl ⟨_, rfl⟩) hr (fun h48 hr => ?_)
    refine j_aload_n (pc := 173) d_Nb_init_173 rfl ?_
    refine j_new (pc := 174) (c := 5) (N := 7) (ty := tyX5) d_Nb_init_174 rfl (by decide) tb_cl_Nb_88 tb_is_Kept tb_in_NineBars_Kept uw_5 tyX5_ok (mz_5 G) hr (fun h49 hr => ?_)
    refine j_dup (pc := 177) d_Nb_init_177 ?_
    obtain ⟨ha, hr⟩ := chk_some hr
    refine j_callR (pc := 178) (stk := [(2, hpN h48 + 1), (2, hpN h48 + 1), (2, v0)]) (as := [(2, hpN h48 + 1)]) (P := (fun v9 => [(2, hpN h48 + 1), (2, v0)])) (tg := 3) (My := M_Kept_init) (by decide) (mRunI (as := []) (st := [(2, hpN h48 + 1), (2, v0)]) d_Nb_init_178 (mc_Kept_init (by decide)) rfl rfl ⟨Or.inr ⟨_, tb_mn_Nb_90⟩, tb_im_Kept_init, rfl⟩ rfl (Nat.le_of_ble_eq_true rfl) ha) (fun v => rfl) hr (fun r1 h1 => t_Kept_init _ _ _ h1) (fun x51 h50 hr => ?_)
    refine j_puta (pc := 181) d_Nb_init_181 (fd_Nb_91 rfl) (⟨_, _, _, rfl, Or.inr ⟨rfl, rfl, rfl, tb_fl_Nb_91⟩, rfl⟩ : mFldW M_Nb_init 91 10 17 (.object "NineBars$Kept")) (Or.inl ⟨_, rfl⟩) hr (fun h52 hr => ?_)
    refine j_aload_n (pc := 184) d_Nb_init_184 rfl ?_
    refine j_new (pc := 185) (c := 2) (N := 6) (ty := tyX2) d_Nb_init_185 rfl (by decide) tb_cl_Nb_95 tb_is_Fits tb_in_NineBars_Fits uw_2 tyX2_ok (mz_2 G) hr (fun h53 hr => ?_)
    refine j_dup (pc := 188) d_Nb_init_188 ?_
    obtain ⟨ha, hr⟩ := chk_some hr
    refine j_callR (pc := 189) (stk := [(2, hpN h52 + 1), (2, hpN h52 + 1), (2, v0)]) (as := [(2, hpN h52 + 1)]) (P := (fun v9 => [(2, hpN h52 + 1), (2, v0)])) (tg := 3) (My := M_Fits_init) (by decide) (mRunI (as := []) (st := [(2, hpN h52 + 1), (2, v0)]) d_Nb_init_189 (mc_Fits_init (by decide)) rfl rfl ⟨Or.inr ⟨_, tb_mn_Nb_97⟩, tb_im_Fits_init, rfl⟩ rfl (Nat.le_of_ble_eq_true rfl) ha) (fun v => rfl) hr (fun r1 h1 => t_Fits_init _ _ _ h1) (fun x55 h54 hr => ?_)
    refine j_puta (pc := 192) d_Nb_init_192 (fd_Nb_98 rfl) (⟨_, _, _, rfl, Or.inr ⟨rfl, rfl, rfl, tb_fl_Nb_98⟩, rfl⟩ : mFldW M_Nb_init 98 10 18 (.object "NineBars$Fits")) (Or.inl ⟨_, rfl⟩) hr (fun h56 hr => ?_)
    exact j_vret (pc := 195) d_Nb_init_195 rfl hr
def M_Nb_putBytes : mM := ("NineBars", ⟨"NineBars", "putBytes", "(I)V"⟩, prog_1_method_45_code, 3, none, [], 1)
theorem tb_co_Nb_putBytes : mTB (Cond.code ⟨"NineBars", "putBytes", "(I)V"⟩ prog_1_method_45_code 3 (none)) := tbq2 222 (by decide +kernel) rfl
theorem mc_Nb_putBytes {M : mM} (hd : 1 < mDp M) : mCal M M_Nb_putBytes 1 := ⟨tb_co_Nb_putBytes, tb_in_NineBars, ⟨by decide +kernel, by decide +kernel⟩, by decide +kernel, hd, by decide⟩
theorem d_Nb_putBytes_0 : decode prog_1_method_45_code 0 = .ok (.bipush 24, 2) := by decide +kernel
theorem d_Nb_putBytes_2 : decode prog_1_method_45_code 2 = .ok (.istore_n 2, 1) := by decide +kernel
theorem d_Nb_putBytes_3 : decode prog_1_method_45_code 3 = .ok (.iload_n 2, 1) := by decide +kernel
theorem d_Nb_putBytes_4 : decode prog_1_method_45_code 4 = .ok (.ifCond .lt 42, 3) := by decide +kernel
theorem d_Nb_putBytes_46 : decode prog_1_method_45_code 46 = .ok (.return_, 1) := by decide +kernel
theorem d_Nb_putBytes_7 : decode prog_1_method_45_code 7 = .ok (.aload_n 0, 1) := by decide +kernel
theorem tb_fl_Nb_102 : mTB (Cond.fieldLink "NineBars" 102 "NineBars" "fed" "I") := tbq2 158 (by decide +kernel) rfl
theorem fd_Nb_102 {M : mM} (h : mO M = "NineBars") : mFld M 102 10 1 0 := ⟨_, _, _, tyX10, rfl, by decide, by decide, rfl, uw_10, tyX10_ok, nmX10, by rw [h]; exact Or.inl tb_fl_Nb_102⟩
theorem d_Nb_putBytes_8 : decode prog_1_method_45_code 8 = .ok (.getfield 102, 3) := by decide +kernel
theorem d_Nb_putBytes_11 : decode prog_1_method_45_code 11 = .ok (.sipush 900, 3) := by decide +kernel
theorem d_Nb_putBytes_14 : decode prog_1_method_45_code 14 = .ok (.if_icmp .ge 32, 3) := by decide +kernel
theorem d_Nb_putBytes_17 : decode prog_1_method_45_code 17 = .ok (.aload_n 0, 1) := by decide +kernel
theorem d_Nb_putBytes_18 : decode prog_1_method_45_code 18 = .ok (.getfield 9, 3) := by decide +kernel
theorem d_Nb_putBytes_21 : decode prog_1_method_45_code 21 = .ok (.aload_n 0, 1) := by decide +kernel
theorem d_Nb_putBytes_22 : decode prog_1_method_45_code 22 = .ok (.getfield 102, 3) := by decide +kernel
theorem d_Nb_putBytes_25 : decode prog_1_method_45_code 25 = .ok (.iload_n 1, 1) := by decide +kernel
theorem d_Nb_putBytes_26 : decode prog_1_method_45_code 26 = .ok (.iload_n 2, 1) := by decide +kernel
theorem d_Nb_putBytes_27 : decode prog_1_method_45_code 27 = .ok (.ishr, 1) := by decide +kernel
theorem d_Nb_putBytes_28 : decode prog_1_method_45_code 28 = .ok (.i2b, 1) := by decide +kernel
theorem d_Nb_putBytes_29 : decode prog_1_method_45_code 29 = .ok (.bastore, 1) := by decide +kernel
theorem d_Nb_putBytes_30 : decode prog_1_method_45_code 30 = .ok (.aload_n 0, 1) := by decide +kernel
theorem d_Nb_putBytes_31 : decode prog_1_method_45_code 31 = .ok (.dup, 1) := by decide +kernel
theorem d_Nb_putBytes_32 : decode prog_1_method_45_code 32 = .ok (.getfield 102, 3) := by decide +kernel
theorem d_Nb_putBytes_35 : decode prog_1_method_45_code 35 = .ok (.iconst 1, 1) := by decide +kernel
theorem d_Nb_putBytes_36 : decode prog_1_method_45_code 36 = .ok (.iadd, 1) := by decide +kernel
theorem d_Nb_putBytes_37 : decode prog_1_method_45_code 37 = .ok (.putfield 102, 3) := by decide +kernel
theorem d_Nb_putBytes_40 : decode prog_1_method_45_code 40 = .ok (.iinc 2 (-8), 3) := by decide +kernel
theorem d_Nb_putBytes_43 : decode prog_1_method_45_code 43 = .ok (.goto (-40), 3) := by decide +kernel
theorem t_Nb_putBytes_L3 {G : mG} {r : mR} {v0 v1 : Int}  : ∀ (n : Nat) (h : mH) (v2 : Int), f_Nb_putBytes_L3 v0 v1 n h v2 = some r → mJ G M_Nb_putBytes 3 [(2, v0), (0, v1), (0, v2)] [] h r := by
  intro n
  induction n with
  | zero =>
    intro h v2 hr
    rw [f_Nb_putBytes_L3] at hr
    cases hr
  | succ n hR3 =>
    intro h v2 hr
    rw [f_Nb_putBytes_L3] at hr
    refine j_iload_n (pc := 3) d_Nb_putBytes_3 rfl ?_
    refine j_if_lt (pc := 4) (tgt := 46) d_Nb_putBytes_4 hr (fun hr => ?_) (fun hr => ?_)
    · exact j_vret (pc := 46) d_Nb_putBytes_46 rfl hr
    · refine j_aload_n (pc := 7) d_Nb_putBytes_7 rfl ?_
      refine j_getf (pc := 8) d_Nb_putBytes_8 (fd_Nb_102 rfl) hr (fun hr => ?_)
      refine j_sipush (pc := 11) d_Nb_putBytes_11 ?_
      refine j_icmp_ge (pc := 14) (tgt := 46) d_Nb_putBytes_14 hr (fun hr => ?_) (fun hr => ?_)
      · exact j_vret (pc := 46) d_Nb_putBytes_46 rfl hr
      · refine j_aload_n (pc := 17) d_Nb_putBytes_17 rfl ?_
        refine j_getf (pc := 18) d_Nb_putBytes_18 (fd_Nb_9 rfl) hr (fun hr => ?_)
        refine j_aload_n (pc := 21) d_Nb_putBytes_21 rfl ?_
        refine j_getf (pc := 22) d_Nb_putBytes_22 (fd_Nb_102 rfl) hr (fun hr => ?_)
        refine j_iload_n (pc := 25) d_Nb_putBytes_25 rfl ?_
        refine j_iload_n (pc := 26) d_Nb_putBytes_26 rfl ?_
        refine j_ishr (pc := 27) d_Nb_putBytes_27 ?_
        refine j_i2b (pc := 28) d_Nb_putBytes_28 ?_
        refine j_bastore (pc := 29) d_Nb_putBytes_29 hr (fun h1 hr => ?_)
        refine j_aload_n (pc := 30) d_Nb_putBytes_30 rfl ?_
        refine j_dup (pc := 31) d_Nb_putBytes_31 ?_
        refine j_getf (pc := 32) d_Nb_putBytes_32 (fd_Nb_102 rfl) hr (fun hr => ?_)
        refine j_iconst (pc := 35) d_Nb_putBytes_35 ?_
        refine j_iadd (pc := 36) d_Nb_putBytes_36 ?_
        refine j_puti (pc := 37) d_Nb_putBytes_37 (fd_Nb_102 rfl) (⟨_, _, _, rfl, Or.inl rfl, rfl⟩ : mFldW M_Nb_putBytes 102 10 1 .int) hr (fun h2 hr => ?_)
        refine j_iincW (pc := 40) (L := fun x3 => [(2, v0), (0, v1), (0, x3)]) d_Nb_putBytes_40 rfl (fun _ => rfl) hr (fun x3 hr => ?_)
        refine j_goto (pc := 43) (tgt := 3) d_Nb_putBytes_43 ?_
        exact mJ_weak (ls' := [(2, v0), (0, v1), (0, x3)]) (mwk_s (mwk_s (mwk_s mwk_n))) (hR3 h2 _ hr)
theorem t_Nb_putBytes {G : mG} (h : mH) (v0 v1 : Int) (r : mR) (hr : f_Nb_putBytes h v0 v1 = some r) : mJM G M_Nb_putBytes [(2, v0), (0, v1)] h r := by
  refine mJM_of (L := [(2, v0), (0, v1), (9, 0)]) rfl rfl rfl (Nat.le_of_ble_eq_true rfl) ?_
  unfold f_Nb_putBytes at hr
  refine j_bipush (pc := 0) d_Nb_putBytes_0 ?_
  refine j_istore_n (pc := 2) (ls' := [(2, v0), (0, v1), (0, 24)]) d_Nb_putBytes_2 rfl ?_
  refine mJ_weak (ls' := [(2, v0), (0, v1), (0, 24)]) (mwk_s (mwk_s (mwk_s mwk_n))) (t_Nb_putBytes_L3  _ _ _ hr)
def M_Nb_feed : mM := ("NineBars", ⟨"NineBars", "feed", "(IIIII)I"⟩, prog_1_method_2_code, 6, some .int, [], 3)
theorem tb_co_Nb_feed : mTB (Cond.code ⟨"NineBars", "feed", "(IIIII)I"⟩ prog_1_method_2_code 6 (some .int)) := tbq2 218 (by decide +kernel) rfl
theorem mc_Nb_feed {M : mM} (hd : 3 < mDp M) : mCal M M_Nb_feed 5 := ⟨tb_co_Nb_feed, tb_in_NineBars, ⟨by decide +kernel, by decide +kernel⟩, by decide +kernel, hd, by decide⟩
theorem d_Nb_feed_0 : decode prog_1_method_2_code 0 = .ok (.aload_n 0, 1) := by decide +kernel
theorem d_Nb_feed_1 : decode prog_1_method_2_code 1 = .ok (.getfield 102, 3) := by decide +kernel
theorem d_Nb_feed_4 : decode prog_1_method_2_code 4 = .ok (.bipush 20, 2) := by decide +kernel
theorem d_Nb_feed_6 : decode prog_1_method_2_code 6 = .ok (.iadd, 1) := by decide +kernel
theorem d_Nb_feed_7 : decode prog_1_method_2_code 7 = .ok (.sipush 900, 3) := by decide +kernel
theorem d_Nb_feed_10 : decode prog_1_method_2_code 10 = .ok (.if_icmp .le 5, 3) := by decide +kernel
theorem d_Nb_feed_15 : decode prog_1_method_2_code 15 = .ok (.aload_n 0, 1) := by decide +kernel
theorem d_Nb_feed_16 : decode prog_1_method_2_code 16 = .ok (.iload_n 1, 1) := by decide +kernel
theorem d_Nb_feed_17 : decode prog_1_method_2_code 17 = .ok (.invokevirtual 105, 3) := by decide +kernel
theorem tb_ml_Nb_105 : mTB (Cond.methodLink "NineBars" 105 ⟨"NineBars", "putBytes", "(I)V"⟩) := tbq2 219 (by decide +kernel) rfl
theorem tb_im_Nb_putBytes : mTB (Cond.instanceMethod ⟨"NineBars", "putBytes", "(I)V"⟩) := tbq2 221 (by decide +kernel) rfl
theorem tb_se_Nb_putBytes : mTB (Cond.selects "NineBars" ⟨"NineBars", "putBytes", "(I)V"⟩ ⟨"NineBars", "putBytes", "(I)V"⟩) := tbqp 0 (by decide +kernel) rfl
theorem mv_Nb_putBytes {M : mM} {idx : Nat} (h : mTB (Cond.methodLink (mO M) idx ⟨"NineBars", "putBytes", "(I)V"⟩)) : mCaV M M_Nb_putBytes idx 10 := ⟨h, tb_im_Nb_putBytes, tb_se_Nb_putBytes, by decide, TX10, 19, rfl⟩
theorem d_Nb_feed_20 : decode prog_1_method_2_code 20 = .ok (.aload_n 0, 1) := by decide +kernel
theorem d_Nb_feed_21 : decode prog_1_method_2_code 21 = .ok (.iload_n 2, 1) := by decide +kernel
theorem d_Nb_feed_22 : decode prog_1_method_2_code 22 = .ok (.invokevirtual 105, 3) := by decide +kernel
theorem d_Nb_feed_25 : decode prog_1_method_2_code 25 = .ok (.aload_n 0, 1) := by decide +kernel
theorem d_Nb_feed_26 : decode prog_1_method_2_code 26 = .ok (.iload_n 3, 1) := by decide +kernel
theorem d_Nb_feed_27 : decode prog_1_method_2_code 27 = .ok (.invokevirtual 105, 3) := by decide +kernel
theorem d_Nb_feed_30 : decode prog_1_method_2_code 30 = .ok (.aload_n 0, 1) := by decide +kernel
theorem d_Nb_feed_31 : decode prog_1_method_2_code 31 = .ok (.iload 4, 2) := by decide +kernel
theorem d_Nb_feed_33 : decode prog_1_method_2_code 33 = .ok (.invokevirtual 105, 3) := by decide +kernel
theorem d_Nb_feed_36 : decode prog_1_method_2_code 36 = .ok (.aload_n 0, 1) := by decide +kernel
theorem d_Nb_feed_37 : decode prog_1_method_2_code 37 = .ok (.iload 5, 2) := by decide +kernel
theorem d_Nb_feed_39 : decode prog_1_method_2_code 39 = .ok (.invokevirtual 105, 3) := by decide +kernel
theorem d_Nb_feed_42 : decode prog_1_method_2_code 42 = .ok (.aload_n 0, 1) := by decide +kernel
theorem d_Nb_feed_43 : decode prog_1_method_2_code 43 = .ok (.getfield 102, 3) := by decide +kernel
theorem d_Nb_feed_46 : decode prog_1_method_2_code 46 = .ok (.ireturn, 1) := by decide +kernel
theorem d_Nb_feed_13 : decode prog_1_method_2_code 13 = .ok (.iconst (-1), 1) := by decide +kernel
theorem d_Nb_feed_14 : decode prog_1_method_2_code 14 = .ok (.ireturn, 1) := by decide +kernel
theorem t_Nb_feed {G : mG} (h : mH) (v0 v1 v2 v3 v4 v5 : Int) (r : mR) (hr : f_Nb_feed h v0 v1 v2 v3 v4 v5 = some r) : mJM G M_Nb_feed [(2, v0), (0, v1), (0, v2), (0, v3), (0, v4), (0, v5)] h r := by
  refine mJM_of (L := [(2, v0), (0, v1), (0, v2), (0, v3), (0, v4), (0, v5)]) rfl rfl rfl (Nat.le_of_ble_eq_true rfl) ?_
  unfold f_Nb_feed at hr
  refine j_aload_n (pc := 0) d_Nb_feed_0 rfl ?_
  refine j_getf (pc := 1) d_Nb_feed_1 (fd_Nb_102 rfl) hr (fun hr => ?_)
  refine j_bipush (pc := 4) d_Nb_feed_4 ?_
  refine j_iadd (pc := 6) d_Nb_feed_6 ?_
  refine j_sipush (pc := 7) d_Nb_feed_7 ?_
  refine j_icmp_le (pc := 10) (tgt := 15) d_Nb_feed_10 hr (fun hr => ?_) (fun hr => ?_)
  · refine j_aload_n (pc := 15) d_Nb_feed_15 rfl ?_
    refine j_iload_n (pc := 16) d_Nb_feed_16 rfl ?_
    obtain ⟨ha, hr⟩ := chk_some hr
    refine j_callG (pc := 17) (stk := [(0, v1), (2, v0)]) (as := [(2, v0), (0, v1)]) (P := (fun v9 => [])) (tg := 3) (My := M_Nb_putBytes) (mRunV (as := [(0, v1)]) (st := []) d_Nb_feed_17 (mc_Nb_putBytes (by decide)) rfl (mv_Nb_putBytes tb_ml_Nb_105) rfl (Nat.le_of_ble_eq_true rfl) ha) (fun v => rfl) rfl hr (fun r1 h1 => t_Nb_putBytes _ _ _ _ h1) (fun x2 h1 hr => ?_)
    refine j_aload_n (pc := 20) d_Nb_feed_20 rfl ?_
    refine j_iload_n (pc := 21) d_Nb_feed_21 rfl ?_
    obtain ⟨ha, hr⟩ := chk_some hr
    refine j_callG (pc := 22) (stk := [(0, v2), (2, v0)]) (as := [(2, v0), (0, v2)]) (P := (fun v9 => [])) (tg := 3) (My := M_Nb_putBytes) (mRunV (as := [(0, v2)]) (st := []) d_Nb_feed_22 (mc_Nb_putBytes (by decide)) rfl (mv_Nb_putBytes tb_ml_Nb_105) rfl (Nat.le_of_ble_eq_true rfl) ha) (fun v => rfl) rfl hr (fun r1 h1 => t_Nb_putBytes _ _ _ _ h1) (fun x4 h3 hr => ?_)
    refine j_aload_n (pc := 25) d_Nb_feed_25 rfl ?_
    refine j_iload_n (pc := 26) d_Nb_feed_26 rfl ?_
    obtain ⟨ha, hr⟩ := chk_some hr
    refine j_callG (pc := 27) (stk := [(0, v3), (2, v0)]) (as := [(2, v0), (0, v3)]) (P := (fun v9 => [])) (tg := 3) (My := M_Nb_putBytes) (mRunV (as := [(0, v3)]) (st := []) d_Nb_feed_27 (mc_Nb_putBytes (by decide)) rfl (mv_Nb_putBytes tb_ml_Nb_105) rfl (Nat.le_of_ble_eq_true rfl) ha) (fun v => rfl) rfl hr (fun r1 h1 => t_Nb_putBytes _ _ _ _ h1) (fun x6 h5 hr => ?_)
    refine j_aload_n (pc := 30) d_Nb_feed_30 rfl ?_
    refine j_iload (pc := 31) d_Nb_feed_31 rfl ?_
    obtain ⟨ha, hr⟩ := chk_some hr
    refine j_callG (pc := 33) (stk := [(0, v4), (2, v0)]) (as := [(2, v0), (0, v4)]) (P := (fun v9 => [])) (tg := 3) (My := M_Nb_putBytes) (mRunV (as := [(0, v4)]) (st := []) d_Nb_feed_33 (mc_Nb_putBytes (by decide)) rfl (mv_Nb_putBytes tb_ml_Nb_105) rfl (Nat.le_of_ble_eq_true rfl) ha) (fun v => rfl) rfl hr (fun r1 h1 => t_Nb_putBytes _ _ _ _ h1) (fun x8 h7 hr => ?_)
    refine j_aload_n (pc := 36) d_Nb_feed_36 rfl ?_
    refine j_iload (pc := 37) d_Nb_feed_37 rfl ?_
    obtain ⟨ha, hr⟩ := chk_some hr
    refine j_callG (pc := 39) (stk := [(0, v5), (2, v0)]) (as := [(2, v0), (0, v5)]) (P := (fun v9 => [])) (tg := 3) (My := M_Nb_putBytes) (mRunV (as := [(0, v5)]) (st := []) d_Nb_feed_39 (mc_Nb_putBytes (by decide)) rfl (mv_Nb_putBytes tb_ml_Nb_105) rfl (Nat.le_of_ble_eq_true rfl) ha) (fun v => rfl) rfl hr (fun r1 h1 => t_Nb_putBytes _ _ _ _ h1) (fun x10 h9 hr => ?_)
    refine j_aload_n (pc := 42) d_Nb_feed_42 rfl ?_
    refine j_getf (pc := 43) d_Nb_feed_43 (fd_Nb_102 rfl) hr (fun hr => ?_)
    exact j_iret (pc := 46) d_Nb_feed_46 rfl hr
  · refine j_iconst (pc := 13) d_Nb_feed_13 ?_
    exact j_iret (pc := 14) d_Nb_feed_14 rfl hr
def M_Box_become : mM := ("NineBars$Box", ⟨"NineBars$Box", "become", "(LNineBars$Box;)V"⟩, prog_2_method_3_code, 2, none, [], 1)
theorem tb_co_Box_become : mTB (Cond.code ⟨"NineBars$Box", "become", "(LNineBars$Box;)V"⟩ prog_2_method_3_code 2 (none)) := tbq4 99 (by decide +kernel) rfl
theorem mc_Box_become {M : mM} (hd : 1 < mDp M) : mCal M M_Box_become 1 := ⟨tb_co_Box_become, tb_in_NineBars_Box, ⟨by decide +kernel, by decide +kernel⟩, by decide +kernel, hd, by decide⟩
theorem d_Box_become_0 : decode prog_2_method_3_code 0 = .ok (.aload_n 0, 1) := by decide +kernel
theorem d_Box_become_1 : decode prog_2_method_3_code 1 = .ok (.aload_n 1, 1) := by decide +kernel
theorem tb_fl_Box_64 : mTB (Cond.fieldLink "NineBars$Box" 64 "NineBars$Box" "edition" "I") := tbq1 76 (by decide +kernel) rfl
theorem fd_Box_64 {M : mM} (h : mO M = "NineBars$Box") : mFld M 64 0 0 0 := ⟨_, _, _, tyX0, rfl, by decide, by decide, rfl, uw_0, tyX0_ok, nmX0, by rw [h]; exact Or.inl tb_fl_Box_64⟩
theorem d_Box_become_2 : decode prog_2_method_3_code 2 = .ok (.getfield 64, 3) := by decide +kernel
theorem d_Box_become_5 : decode prog_2_method_3_code 5 = .ok (.putfield 64, 3) := by decide +kernel
theorem d_Box_become_8 : decode prog_2_method_3_code 8 = .ok (.aload_n 0, 1) := by decide +kernel
theorem d_Box_become_9 : decode prog_2_method_3_code 9 = .ok (.aload_n 1, 1) := by decide +kernel
theorem tb_fl_Box_48 : mTB (Cond.fieldLink "NineBars$Box" 48 "NineBars$Box" "lines" "I") := tbq1 78 (by decide +kernel) rfl
theorem fd_Box_48 {M : mM} (h : mO M = "NineBars$Box") : mFld M 48 0 1 0 := ⟨_, _, _, tyX0, rfl, by decide, by decide, rfl, uw_0, tyX0_ok, nmX0, by rw [h]; exact Or.inl tb_fl_Box_48⟩
theorem d_Box_become_10 : decode prog_2_method_3_code 10 = .ok (.getfield 48, 3) := by decide +kernel
theorem d_Box_become_13 : decode prog_2_method_3_code 13 = .ok (.putfield 48, 3) := by decide +kernel
theorem d_Box_become_16 : decode prog_2_method_3_code 16 = .ok (.aload_n 0, 1) := by decide +kernel
theorem d_Box_become_17 : decode prog_2_method_3_code 17 = .ok (.aload_n 1, 1) := by decide +kernel
theorem tb_fl_Box_52 : mTB (Cond.fieldLink "NineBars$Box" 52 "NineBars$Box" "bars" "I") := tbq1 81 (by decide +kernel) rfl
theorem fd_Box_52 {M : mM} (h : mO M = "NineBars$Box") : mFld M 52 0 2 0 := ⟨_, _, _, tyX0, rfl, by decide, by decide, rfl, uw_0, tyX0_ok, nmX0, by rw [h]; exact Or.inl tb_fl_Box_52⟩
theorem d_Box_become_18 : decode prog_2_method_3_code 18 = .ok (.getfield 52, 3) := by decide +kernel
theorem d_Box_become_21 : decode prog_2_method_3_code 21 = .ok (.putfield 52, 3) := by decide +kernel
theorem d_Box_become_24 : decode prog_2_method_3_code 24 = .ok (.aload_n 0, 1) := by decide +kernel
theorem d_Box_become_25 : decode prog_2_method_3_code 25 = .ok (.aload_n 1, 1) := by decide +kernel
theorem tb_fl_Box_55 : mTB (Cond.fieldLink "NineBars$Box" 55 "NineBars$Box" "rules" "I") := tbq1 87 (by decide +kernel) rfl
theorem fd_Box_55 {M : mM} (h : mO M = "NineBars$Box") : mFld M 55 0 3 0 := ⟨_, _, _, tyX0, rfl, by decide, by decide, rfl, uw_0, tyX0_ok, nmX0, by rw [h]; exact Or.inl tb_fl_Box_55⟩
theorem d_Box_become_26 : decode prog_2_method_3_code 26 = .ok (.getfield 55, 3) := by decide +kernel
theorem d_Box_become_29 : decode prog_2_method_3_code 29 = .ok (.putfield 55, 3) := by decide +kernel
theorem d_Box_become_32 : decode prog_2_method_3_code 32 = .ok (.aload_n 0, 1) := by decide +kernel
theorem d_Box_become_33 : decode prog_2_method_3_code 33 = .ok (.aload_n 1, 1) := by decide +kernel
theorem tb_fl_Box_58 : mTB (Cond.fieldLink "NineBars$Box" 58 "NineBars$Box" "nested" "I") := tbq1 90 (by decide +kernel) rfl
theorem fd_Box_58 {M : mM} (h : mO M = "NineBars$Box") : mFld M 58 0 4 0 := ⟨_, _, _, tyX0, rfl, by decide, by decide, rfl, uw_0, tyX0_ok, nmX0, by rw [h]; exact Or.inl tb_fl_Box_58⟩
theorem d_Box_become_34 : decode prog_2_method_3_code 34 = .ok (.getfield 58, 3) := by decide +kernel
theorem d_Box_become_37 : decode prog_2_method_3_code 37 = .ok (.putfield 58, 3) := by decide +kernel
theorem d_Box_become_40 : decode prog_2_method_3_code 40 = .ok (.aload_n 0, 1) := by decide +kernel
theorem d_Box_become_41 : decode prog_2_method_3_code 41 = .ok (.aload_n 1, 1) := by decide +kernel
theorem tb_fl_Box_61 : mTB (Cond.fieldLink "NineBars$Box" 61 "NineBars$Box" "wear" "I") := tbq1 93 (by decide +kernel) rfl
theorem fd_Box_61 {M : mM} (h : mO M = "NineBars$Box") : mFld M 61 0 5 0 := ⟨_, _, _, tyX0, rfl, by decide, by decide, rfl, uw_0, tyX0_ok, nmX0, by rw [h]; exact Or.inl tb_fl_Box_61⟩
theorem d_Box_become_42 : decode prog_2_method_3_code 42 = .ok (.getfield 61, 3) := by decide +kernel
theorem d_Box_become_45 : decode prog_2_method_3_code 45 = .ok (.putfield 61, 3) := by decide +kernel
theorem d_Box_become_48 : decode prog_2_method_3_code 48 = .ok (.aload_n 1, 1) := by decide +kernel
theorem d_Box_become_49 : decode prog_2_method_3_code 49 = .ok (.getfield 9, 3) := by decide +kernel
theorem d_Box_become_52 : decode prog_2_method_3_code 52 = .ok (.iconst 0, 1) := by decide +kernel
theorem d_Box_become_53 : decode prog_2_method_3_code 53 = .ok (.aload_n 0, 1) := by decide +kernel
theorem d_Box_become_54 : decode prog_2_method_3_code 54 = .ok (.getfield 9, 3) := by decide +kernel
theorem d_Box_become_57 : decode prog_2_method_3_code 57 = .ok (.iconst 0, 1) := by decide +kernel
theorem d_Box_become_58 : decode prog_2_method_3_code 58 = .ok (.bipush 9, 2) := by decide +kernel
theorem d_Box_become_60 : decode prog_2_method_3_code 60 = .ok (.invokestatic 67, 3) := by decide +kernel
theorem tb_ml_Box_67 : mTB (Cond.methodLink "NineBars$Box" 67 ⟨"java/lang/System", "arraycopy", "(Ljava/lang/Object;ILjava/lang/Object;II)V"⟩) := tbq4 100 (by decide +kernel) rfl
theorem tb_nt_copy : mTB (Cond.native ⟨"java/lang/System", "arraycopy", "(Ljava/lang/Object;ILjava/lang/Object;II)V"⟩) := tbq4 102 (by decide +kernel) rfl
theorem tb_sm_copy : mTB (Cond.static ⟨"java/lang/System", "arraycopy", "(Ljava/lang/Object;ILjava/lang/Object;II)V"⟩) := tbq4 101 (by decide +kernel) rfl
theorem tb_in_java_lang_System : mTB (Cond.initialized "java/lang/System") := tbq1 22 (by decide +kernel) rfl
theorem d_Box_become_63 : decode prog_2_method_3_code 63 = .ok (.aload_n 1, 1) := by decide +kernel
theorem d_Box_become_64 : decode prog_2_method_3_code 64 = .ok (.getfield 15, 3) := by decide +kernel
theorem d_Box_become_67 : decode prog_2_method_3_code 67 = .ok (.iconst 0, 1) := by decide +kernel
theorem d_Box_become_68 : decode prog_2_method_3_code 68 = .ok (.aload_n 0, 1) := by decide +kernel
theorem d_Box_become_69 : decode prog_2_method_3_code 69 = .ok (.getfield 15, 3) := by decide +kernel
theorem d_Box_become_72 : decode prog_2_method_3_code 72 = .ok (.iconst 0, 1) := by decide +kernel
theorem d_Box_become_73 : decode prog_2_method_3_code 73 = .ok (.bipush 9, 2) := by decide +kernel
theorem d_Box_become_75 : decode prog_2_method_3_code 75 = .ok (.invokestatic 67, 3) := by decide +kernel
theorem d_Box_become_78 : decode prog_2_method_3_code 78 = .ok (.aload_n 1, 1) := by decide +kernel
theorem d_Box_become_79 : decode prog_2_method_3_code 79 = .ok (.getfield 18, 3) := by decide +kernel
theorem d_Box_become_82 : decode prog_2_method_3_code 82 = .ok (.iconst 0, 1) := by decide +kernel
theorem d_Box_become_83 : decode prog_2_method_3_code 83 = .ok (.aload_n 0, 1) := by decide +kernel
theorem d_Box_become_84 : decode prog_2_method_3_code 84 = .ok (.getfield 18, 3) := by decide +kernel
theorem d_Box_become_87 : decode prog_2_method_3_code 87 = .ok (.iconst 0, 1) := by decide +kernel
theorem d_Box_become_88 : decode prog_2_method_3_code 88 = .ok (.bipush 9, 2) := by decide +kernel
theorem d_Box_become_90 : decode prog_2_method_3_code 90 = .ok (.invokestatic 67, 3) := by decide +kernel
theorem d_Box_become_93 : decode prog_2_method_3_code 93 = .ok (.aload_n 1, 1) := by decide +kernel
theorem d_Box_become_94 : decode prog_2_method_3_code 94 = .ok (.getfield 21, 3) := by decide +kernel
theorem d_Box_become_97 : decode prog_2_method_3_code 97 = .ok (.iconst 0, 1) := by decide +kernel
theorem d_Box_become_98 : decode prog_2_method_3_code 98 = .ok (.aload_n 0, 1) := by decide +kernel
theorem d_Box_become_99 : decode prog_2_method_3_code 99 = .ok (.getfield 21, 3) := by decide +kernel
theorem d_Box_become_102 : decode prog_2_method_3_code 102 = .ok (.iconst 0, 1) := by decide +kernel
theorem d_Box_become_103 : decode prog_2_method_3_code 103 = .ok (.bipush 9, 2) := by decide +kernel
theorem d_Box_become_105 : decode prog_2_method_3_code 105 = .ok (.invokestatic 67, 3) := by decide +kernel
theorem d_Box_become_108 : decode prog_2_method_3_code 108 = .ok (.aload_n 1, 1) := by decide +kernel
theorem d_Box_become_109 : decode prog_2_method_3_code 109 = .ok (.getfield 24, 3) := by decide +kernel
theorem d_Box_become_112 : decode prog_2_method_3_code 112 = .ok (.iconst 0, 1) := by decide +kernel
theorem d_Box_become_113 : decode prog_2_method_3_code 113 = .ok (.aload_n 0, 1) := by decide +kernel
theorem d_Box_become_114 : decode prog_2_method_3_code 114 = .ok (.getfield 24, 3) := by decide +kernel
theorem d_Box_become_117 : decode prog_2_method_3_code 117 = .ok (.iconst 0, 1) := by decide +kernel
theorem d_Box_become_118 : decode prog_2_method_3_code 118 = .ok (.bipush 9, 2) := by decide +kernel
theorem d_Box_become_120 : decode prog_2_method_3_code 120 = .ok (.invokestatic 67, 3) := by decide +kernel
theorem d_Box_become_123 : decode prog_2_method_3_code 123 = .ok (.aload_n 1, 1) := by decide +kernel
theorem d_Box_become_124 : decode prog_2_method_3_code 124 = .ok (.getfield 27, 3) := by decide +kernel
theorem d_Box_become_127 : decode prog_2_method_3_code 127 = .ok (.iconst 0, 1) := by decide +kernel
theorem d_Box_become_128 : decode prog_2_method_3_code 128 = .ok (.aload_n 0, 1) := by decide +kernel
theorem d_Box_become_129 : decode prog_2_method_3_code 129 = .ok (.getfield 27, 3) := by decide +kernel
theorem d_Box_become_132 : decode prog_2_method_3_code 132 = .ok (.iconst 0, 1) := by decide +kernel
theorem d_Box_become_133 : decode prog_2_method_3_code 133 = .ok (.bipush 24, 2) := by decide +kernel
theorem d_Box_become_135 : decode prog_2_method_3_code 135 = .ok (.invokestatic 67, 3) := by decide +kernel
theorem d_Box_become_138 : decode prog_2_method_3_code 138 = .ok (.aload_n 1, 1) := by decide +kernel
theorem d_Box_become_139 : decode prog_2_method_3_code 139 = .ok (.getfield 30, 3) := by decide +kernel
theorem d_Box_become_142 : decode prog_2_method_3_code 142 = .ok (.iconst 0, 1) := by decide +kernel
theorem d_Box_become_143 : decode prog_2_method_3_code 143 = .ok (.aload_n 0, 1) := by decide +kernel
theorem d_Box_become_144 : decode prog_2_method_3_code 144 = .ok (.getfield 30, 3) := by decide +kernel
theorem d_Box_become_147 : decode prog_2_method_3_code 147 = .ok (.iconst 0, 1) := by decide +kernel
theorem d_Box_become_148 : decode prog_2_method_3_code 148 = .ok (.bipush 24, 2) := by decide +kernel
theorem d_Box_become_150 : decode prog_2_method_3_code 150 = .ok (.invokestatic 67, 3) := by decide +kernel
theorem d_Box_become_153 : decode prog_2_method_3_code 153 = .ok (.aload_n 1, 1) := by decide +kernel
theorem d_Box_become_154 : decode prog_2_method_3_code 154 = .ok (.getfield 33, 3) := by decide +kernel
theorem d_Box_become_157 : decode prog_2_method_3_code 157 = .ok (.iconst 0, 1) := by decide +kernel
theorem d_Box_become_158 : decode prog_2_method_3_code 158 = .ok (.aload_n 0, 1) := by decide +kernel
theorem d_Box_become_159 : decode prog_2_method_3_code 159 = .ok (.getfield 33, 3) := by decide +kernel
theorem d_Box_become_162 : decode prog_2_method_3_code 162 = .ok (.iconst 0, 1) := by decide +kernel
theorem d_Box_become_163 : decode prog_2_method_3_code 163 = .ok (.bipush 24, 2) := by decide +kernel
theorem d_Box_become_165 : decode prog_2_method_3_code 165 = .ok (.invokestatic 67, 3) := by decide +kernel
theorem d_Box_become_168 : decode prog_2_method_3_code 168 = .ok (.aload_n 1, 1) := by decide +kernel
theorem d_Box_become_169 : decode prog_2_method_3_code 169 = .ok (.getfield 36, 3) := by decide +kernel
theorem d_Box_become_172 : decode prog_2_method_3_code 172 = .ok (.iconst 0, 1) := by decide +kernel
theorem d_Box_become_173 : decode prog_2_method_3_code 173 = .ok (.aload_n 0, 1) := by decide +kernel
theorem d_Box_become_174 : decode prog_2_method_3_code 174 = .ok (.getfield 36, 3) := by decide +kernel
theorem d_Box_become_177 : decode prog_2_method_3_code 177 = .ok (.iconst 0, 1) := by decide +kernel
theorem d_Box_become_178 : decode prog_2_method_3_code 178 = .ok (.bipush 24, 2) := by decide +kernel
theorem d_Box_become_180 : decode prog_2_method_3_code 180 = .ok (.invokestatic 67, 3) := by decide +kernel
theorem d_Box_become_183 : decode prog_2_method_3_code 183 = .ok (.aload_n 1, 1) := by decide +kernel
theorem d_Box_become_184 : decode prog_2_method_3_code 184 = .ok (.getfield 39, 3) := by decide +kernel
theorem d_Box_become_187 : decode prog_2_method_3_code 187 = .ok (.iconst 0, 1) := by decide +kernel
theorem d_Box_become_188 : decode prog_2_method_3_code 188 = .ok (.aload_n 0, 1) := by decide +kernel
theorem d_Box_become_189 : decode prog_2_method_3_code 189 = .ok (.getfield 39, 3) := by decide +kernel
theorem d_Box_become_192 : decode prog_2_method_3_code 192 = .ok (.iconst 0, 1) := by decide +kernel
theorem d_Box_become_193 : decode prog_2_method_3_code 193 = .ok (.bipush 96, 2) := by decide +kernel
theorem d_Box_become_195 : decode prog_2_method_3_code 195 = .ok (.invokestatic 67, 3) := by decide +kernel
theorem d_Box_become_198 : decode prog_2_method_3_code 198 = .ok (.aload_n 1, 1) := by decide +kernel
theorem d_Box_become_199 : decode prog_2_method_3_code 199 = .ok (.getfield 42, 3) := by decide +kernel
theorem d_Box_become_202 : decode prog_2_method_3_code 202 = .ok (.iconst 0, 1) := by decide +kernel
theorem d_Box_become_203 : decode prog_2_method_3_code 203 = .ok (.aload_n 0, 1) := by decide +kernel
theorem d_Box_become_204 : decode prog_2_method_3_code 204 = .ok (.getfield 42, 3) := by decide +kernel
theorem d_Box_become_207 : decode prog_2_method_3_code 207 = .ok (.iconst 0, 1) := by decide +kernel
theorem d_Box_become_208 : decode prog_2_method_3_code 208 = .ok (.bipush 96, 2) := by decide +kernel
theorem d_Box_become_210 : decode prog_2_method_3_code 210 = .ok (.invokestatic 67, 3) := by decide +kernel
theorem d_Box_become_213 : decode prog_2_method_3_code 213 = .ok (.aload_n 1, 1) := by decide +kernel
theorem d_Box_become_214 : decode prog_2_method_3_code 214 = .ok (.getfield 45, 3) := by decide +kernel
theorem d_Box_become_217 : decode prog_2_method_3_code 217 = .ok (.iconst 0, 1) := by decide +kernel
theorem d_Box_become_218 : decode prog_2_method_3_code 218 = .ok (.aload_n 0, 1) := by decide +kernel
theorem d_Box_become_219 : decode prog_2_method_3_code 219 = .ok (.getfield 45, 3) := by decide +kernel
theorem d_Box_become_222 : decode prog_2_method_3_code 222 = .ok (.iconst 0, 1) := by decide +kernel
theorem d_Box_become_223 : decode prog_2_method_3_code 223 = .ok (.bipush 96, 2) := by decide +kernel
theorem d_Box_become_225 : decode prog_2_method_3_code 225 = .ok (.invokestatic 67, 3) := by decide +kernel
theorem d_Box_become_228 : decode prog_2_method_3_code 228 = .ok (.return_, 1) := by decide +kernel
theorem t_Box_become {G : mG} (h : mH) (v0 v1 : Int) (r : mR) (hr : f_Box_become h v0 v1 = some r) : mJM G M_Box_become [(2, v0), (2, v1)] h r := by
  refine mJM_of (L := [(2, v0), (2, v1)]) rfl rfl rfl (Nat.le_of_ble_eq_true rfl) ?_
  unfold f_Box_become at hr
  refine j_aload_n (pc := 0) d_Box_become_0 rfl ?_
  refine j_aload_n (pc := 1) d_Box_become_1 rfl ?_
  refine j_getf (pc := 2) d_Box_become_2 (fd_Box_64 rfl) hr (fun hr => ?_)
  refine j_puti (pc := 5) d_Box_become_5 (fd_Box_64 rfl) (⟨_, _, _, rfl, Or.inl rfl, rfl⟩ : mFldW M_Box_become 64 0 0 .int) hr (fun h1 hr => ?_)
  refine j_aload_n (pc := 8) d_Box_become_8 rfl ?_
  refine j_aload_n (pc := 9) d_Box_become_9 rfl ?_
  refine j_getf (pc := 10) d_Box_become_10 (fd_Box_48 rfl) hr (fun hr => ?_)
  refine j_puti (pc := 13) d_Box_become_13 (fd_Box_48 rfl) (⟨_, _, _, rfl, Or.inl rfl, rfl⟩ : mFldW M_Box_become 48 0 1 .int) hr (fun h2 hr => ?_)
  refine j_aload_n (pc := 16) d_Box_become_16 rfl ?_
  refine j_aload_n (pc := 17) d_Box_become_17 rfl ?_
  refine j_getf (pc := 18) d_Box_become_18 (fd_Box_52 rfl) hr (fun hr => ?_)
  refine j_puti (pc := 21) d_Box_become_21 (fd_Box_52 rfl) (⟨_, _, _, rfl, Or.inl rfl, rfl⟩ : mFldW M_Box_become 52 0 2 .int) hr (fun h3 hr => ?_)
  refine j_aload_n (pc := 24) d_Box_become_24 rfl ?_
  refine j_aload_n (pc := 25) d_Box_become_25 rfl ?_
  refine j_getf (pc := 26) d_Box_become_26 (fd_Box_55 rfl) hr (fun hr => ?_)
  refine j_puti (pc := 29) d_Box_become_29 (fd_Box_55 rfl) (⟨_, _, _, rfl, Or.inl rfl, rfl⟩ : mFldW M_Box_become 55 0 3 .int) hr (fun h4 hr => ?_)
  refine j_aload_n (pc := 32) d_Box_become_32 rfl ?_
  refine j_aload_n (pc := 33) d_Box_become_33 rfl ?_
  refine j_getf (pc := 34) d_Box_become_34 (fd_Box_58 rfl) hr (fun hr => ?_)
  refine j_puti (pc := 37) d_Box_become_37 (fd_Box_58 rfl) (⟨_, _, _, rfl, Or.inl rfl, rfl⟩ : mFldW M_Box_become 58 0 4 .int) hr (fun h5 hr => ?_)
  refine j_aload_n (pc := 40) d_Box_become_40 rfl ?_
  refine j_aload_n (pc := 41) d_Box_become_41 rfl ?_
  refine j_getf (pc := 42) d_Box_become_42 (fd_Box_61 rfl) hr (fun hr => ?_)
  refine j_puti (pc := 45) d_Box_become_45 (fd_Box_61 rfl) (⟨_, _, _, rfl, Or.inl rfl, rfl⟩ : mFldW M_Box_become 61 0 5 .int) hr (fun h6 hr => ?_)
  refine j_aload_n (pc := 48) d_Box_become_48 rfl ?_
  refine j_getf (pc := 49) d_Box_become_49 (fd_Box_9 rfl) hr (fun hr => ?_)
  refine j_iconst (pc := 52) d_Box_become_52 ?_
  refine j_aload_n (pc := 53) d_Box_become_53 rfl ?_
  refine j_getf (pc := 54) d_Box_become_54 (fd_Box_9 rfl) hr (fun hr => ?_)
  refine j_iconst (pc := 57) d_Box_become_57 ?_
  refine j_bipush (pc := 58) d_Box_become_58 ?_
  refine j_copyI (pc := 60) d_Box_become_60 tb_ml_Box_67 tb_nt_copy tb_sm_copy tb_in_java_lang_System (Nat.le_of_ble_eq_true rfl) hr (fun h7 hr => ?_)
  refine j_aload_n (pc := 63) d_Box_become_63 rfl ?_
  refine j_getf (pc := 64) d_Box_become_64 (fd_Box_15 rfl) hr (fun hr => ?_)
  refine j_iconst (pc := 67) d_Box_become_67 ?_
  refine j_aload_n (pc := 68) d_Box_become_68 rfl ?_
  refine j_getf (pc := 69) d_Box_become_69 (fd_Box_15 rfl) hr (fun hr => ?_)
  refine j_iconst (pc := 72) d_Box_become_72 ?_
  refine j_bipush (pc := 73) d_Box_become_73 ?_
  refine j_copyI (pc := 75) d_Box_become_75 tb_ml_Box_67 tb_nt_copy tb_sm_copy tb_in_java_lang_System (Nat.le_of_ble_eq_true rfl) hr (fun h8 hr => ?_)
  refine j_aload_n (pc := 78) d_Box_become_78 rfl ?_
  refine j_getf (pc := 79) d_Box_become_79 (fd_Box_18 rfl) hr (fun hr => ?_)
  refine j_iconst (pc := 82) d_Box_become_82 ?_
  refine j_aload_n (pc := 83) d_Box_become_83 rfl ?_
  refine j_getf (pc := 84) d_Box_become_84 (fd_Box_18 rfl) hr (fun hr => ?_)
  refine j_iconst (pc := 87) d_Box_become_87 ?_
  refine j_bipush (pc := 88) d_Box_become_88 ?_
  refine j_copyI (pc := 90) d_Box_become_90 tb_ml_Box_67 tb_nt_copy tb_sm_copy tb_in_java_lang_System (Nat.le_of_ble_eq_true rfl) hr (fun h9 hr => ?_)
  refine j_aload_n (pc := 93) d_Box_become_93 rfl ?_
  refine j_getf (pc := 94) d_Box_become_94 (fd_Box_21 rfl) hr (fun hr => ?_)
  refine j_iconst (pc := 97) d_Box_become_97 ?_
  refine j_aload_n (pc := 98) d_Box_become_98 rfl ?_
  refine j_getf (pc := 99) d_Box_become_99 (fd_Box_21 rfl) hr (fun hr => ?_)
  refine j_iconst (pc := 102) d_Box_become_102 ?_
  refine j_bipush (pc := 103) d_Box_become_103 ?_
  refine j_copyI (pc := 105) d_Box_become_105 tb_ml_Box_67 tb_nt_copy tb_sm_copy tb_in_java_lang_System (Nat.le_of_ble_eq_true rfl) hr (fun h10 hr => ?_)
  refine j_aload_n (pc := 108) d_Box_become_108 rfl ?_
  refine j_getf (pc := 109) d_Box_become_109 (fd_Box_24 rfl) hr (fun hr => ?_)
  refine j_iconst (pc := 112) d_Box_become_112 ?_
  refine j_aload_n (pc := 113) d_Box_become_113 rfl ?_
  refine j_getf (pc := 114) d_Box_become_114 (fd_Box_24 rfl) hr (fun hr => ?_)
  refine j_iconst (pc := 117) d_Box_become_117 ?_
  refine j_bipush (pc := 118) d_Box_become_118 ?_
  refine j_copyI (pc := 120) d_Box_become_120 tb_ml_Box_67 tb_nt_copy tb_sm_copy tb_in_java_lang_System (Nat.le_of_ble_eq_true rfl) hr (fun h11 hr => ?_)
  refine j_aload_n (pc := 123) d_Box_become_123 rfl ?_
  refine j_getf (pc := 124) d_Box_become_124 (fd_Box_27 rfl) hr (fun hr => ?_)
  refine j_iconst (pc := 127) d_Box_become_127 ?_
  refine j_aload_n (pc := 128) d_Box_become_128 rfl ?_
  refine j_getf (pc := 129) d_Box_become_129 (fd_Box_27 rfl) hr (fun hr => ?_)
  refine j_iconst (pc := 132) d_Box_become_132 ?_
  refine j_bipush (pc := 133) d_Box_become_133 ?_
  refine j_copyI (pc := 135) d_Box_become_135 tb_ml_Box_67 tb_nt_copy tb_sm_copy tb_in_java_lang_System (Nat.le_of_ble_eq_true rfl) hr (fun h12 hr => ?_)
  refine j_aload_n (pc := 138) d_Box_become_138 rfl ?_
  refine j_getf (pc := 139) d_Box_become_139 (fd_Box_30 rfl) hr (fun hr => ?_)
  refine j_iconst (pc := 142) d_Box_become_142 ?_
  refine j_aload_n (pc := 143) d_Box_become_143 rfl ?_
  refine j_getf (pc := 144) d_Box_become_144 (fd_Box_30 rfl) hr (fun hr => ?_)
  refine j_iconst (pc := 147) d_Box_become_147 ?_
  refine j_bipush (pc := 148) d_Box_become_148 ?_
  refine j_copyI (pc := 150) d_Box_become_150 tb_ml_Box_67 tb_nt_copy tb_sm_copy tb_in_java_lang_System (Nat.le_of_ble_eq_true rfl) hr (fun h13 hr => ?_)
  refine j_aload_n (pc := 153) d_Box_become_153 rfl ?_
  refine j_getf (pc := 154) d_Box_become_154 (fd_Box_33 rfl) hr (fun hr => ?_)
  refine j_iconst (pc := 157) d_Box_become_157 ?_
  refine j_aload_n (pc := 158) d_Box_become_158 rfl ?_
  refine j_getf (pc := 159) d_Box_become_159 (fd_Box_33 rfl) hr (fun hr => ?_)
  refine j_iconst (pc := 162) d_Box_become_162 ?_
  refine j_bipush (pc := 163) d_Box_become_163 ?_
  refine j_copyI (pc := 165) d_Box_become_165 tb_ml_Box_67 tb_nt_copy tb_sm_copy tb_in_java_lang_System (Nat.le_of_ble_eq_true rfl) hr (fun h14 hr => ?_)
  refine j_aload_n (pc := 168) d_Box_become_168 rfl ?_
  refine j_getf (pc := 169) d_Box_become_169 (fd_Box_36 rfl) hr (fun hr => ?_)
  refine j_iconst (pc := 172) d_Box_become_172 ?_
  refine j_aload_n (pc := 173) d_Box_become_173 rfl ?_
  refine j_getf (pc := 174) d_Box_become_174 (fd_Box_36 rfl) hr (fun hr => ?_)
  refine j_iconst (pc := 177) d_Box_become_177 ?_
  refine j_bipush (pc := 178) d_Box_become_178 ?_
  refine j_copyI (pc := 180) d_Box_become_180 tb_ml_Box_67 tb_nt_copy tb_sm_copy tb_in_java_lang_System (Nat.le_of_ble_eq_true rfl) hr (fun h15 hr => ?_)
  refine j_aload_n (pc := 183) d_Box_become_183 rfl ?_
  refine j_getf (pc := 184) d_Box_become_184 (fd_Box_39 rfl) hr (fun hr => ?_)
  refine j_iconst (pc := 187) d_Box_become_187 ?_
  refine j_aload_n (pc := 188) d_Box_become_188 rfl ?_
  refine j_getf (pc := 189) d_Box_become_189 (fd_Box_39 rfl) hr (fun hr => ?_)
  refine j_iconst (pc := 192) d_Box_become_192 ?_
  refine j_bipush (pc := 193) d_Box_become_193 ?_
  refine j_copyI (pc := 195) d_Box_become_195 tb_ml_Box_67 tb_nt_copy tb_sm_copy tb_in_java_lang_System (Nat.le_of_ble_eq_true rfl) hr (fun h16 hr => ?_)
  refine j_aload_n (pc := 198) d_Box_become_198 rfl ?_
  refine j_getf (pc := 199) d_Box_become_199 (fd_Box_42 rfl) hr (fun hr => ?_)
  refine j_iconst (pc := 202) d_Box_become_202 ?_
  refine j_aload_n (pc := 203) d_Box_become_203 rfl ?_
  refine j_getf (pc := 204) d_Box_become_204 (fd_Box_42 rfl) hr (fun hr => ?_)
  refine j_iconst (pc := 207) d_Box_become_207 ?_
  refine j_bipush (pc := 208) d_Box_become_208 ?_
  refine j_copyI (pc := 210) d_Box_become_210 tb_ml_Box_67 tb_nt_copy tb_sm_copy tb_in_java_lang_System (Nat.le_of_ble_eq_true rfl) hr (fun h17 hr => ?_)
  refine j_aload_n (pc := 213) d_Box_become_213 rfl ?_
  refine j_getf (pc := 214) d_Box_become_214 (fd_Box_45 rfl) hr (fun hr => ?_)
  refine j_iconst (pc := 217) d_Box_become_217 ?_
  refine j_aload_n (pc := 218) d_Box_become_218 rfl ?_
  refine j_getf (pc := 219) d_Box_become_219 (fd_Box_45 rfl) hr (fun hr => ?_)
  refine j_iconst (pc := 222) d_Box_become_222 ?_
  refine j_bipush (pc := 223) d_Box_become_223 ?_
  refine j_copyI (pc := 225) d_Box_become_225 tb_ml_Box_67 tb_nt_copy tb_sm_copy tb_in_java_lang_System (Nat.le_of_ble_eq_true rfl) hr (fun h18 hr => ?_)
  exact j_vret (pc := 228) d_Box_become_228 rfl hr
def M_Box_becomeEmpty : mM := ("NineBars$Box", ⟨"NineBars$Box", "becomeEmpty", "()V"⟩, prog_2_method_2_code, 1, none, [], 1)
theorem tb_co_Box_becomeEmpty : mTB (Cond.code ⟨"NineBars$Box", "becomeEmpty", "()V"⟩ prog_2_method_2_code 1 (none)) := tbq3 225 (by decide +kernel) rfl
theorem mc_Box_becomeEmpty {M : mM} (hd : 1 < mDp M) : mCal M M_Box_becomeEmpty 0 := ⟨tb_co_Box_becomeEmpty, tb_in_NineBars_Box, ⟨by decide +kernel, by decide +kernel⟩, by decide +kernel, hd, by decide⟩
theorem d_Box_becomeEmpty_0 : decode prog_2_method_2_code 0 = .ok (.aload_n 0, 1) := by decide +kernel
theorem d_Box_becomeEmpty_1 : decode prog_2_method_2_code 1 = .ok (.iconst 0, 1) := by decide +kernel
theorem d_Box_becomeEmpty_2 : decode prog_2_method_2_code 2 = .ok (.putfield 48, 3) := by decide +kernel
theorem d_Box_becomeEmpty_5 : decode prog_2_method_2_code 5 = .ok (.aload_n 0, 1) := by decide +kernel
theorem d_Box_becomeEmpty_6 : decode prog_2_method_2_code 6 = .ok (.iconst 0, 1) := by decide +kernel
theorem d_Box_becomeEmpty_7 : decode prog_2_method_2_code 7 = .ok (.putfield 52, 3) := by decide +kernel
theorem d_Box_becomeEmpty_10 : decode prog_2_method_2_code 10 = .ok (.aload_n 0, 1) := by decide +kernel
theorem d_Box_becomeEmpty_11 : decode prog_2_method_2_code 11 = .ok (.iconst 0, 1) := by decide +kernel
theorem d_Box_becomeEmpty_12 : decode prog_2_method_2_code 12 = .ok (.putfield 55, 3) := by decide +kernel
theorem d_Box_becomeEmpty_15 : decode prog_2_method_2_code 15 = .ok (.aload_n 0, 1) := by decide +kernel
theorem d_Box_becomeEmpty_16 : decode prog_2_method_2_code 16 = .ok (.iconst 0, 1) := by decide +kernel
theorem d_Box_becomeEmpty_17 : decode prog_2_method_2_code 17 = .ok (.putfield 58, 3) := by decide +kernel
theorem d_Box_becomeEmpty_20 : decode prog_2_method_2_code 20 = .ok (.aload_n 0, 1) := by decide +kernel
theorem d_Box_becomeEmpty_21 : decode prog_2_method_2_code 21 = .ok (.iconst 0, 1) := by decide +kernel
theorem d_Box_becomeEmpty_22 : decode prog_2_method_2_code 22 = .ok (.putfield 61, 3) := by decide +kernel
theorem d_Box_becomeEmpty_25 : decode prog_2_method_2_code 25 = .ok (.return_, 1) := by decide +kernel
theorem t_Box_becomeEmpty {G : mG} (h : mH) (v0 : Int) (r : mR) (hr : f_Box_becomeEmpty h v0 = some r) : mJM G M_Box_becomeEmpty [(2, v0)] h r := by
  refine mJM_of (L := [(2, v0)]) rfl rfl rfl (Nat.le_of_ble_eq_true rfl) ?_
  unfold f_Box_becomeEmpty at hr
  refine j_aload_n (pc := 0) d_Box_becomeEmpty_0 rfl ?_
  refine j_iconst (pc := 1) d_Box_becomeEmpty_1 ?_
  refine j_puti (pc := 2) d_Box_becomeEmpty_2 (fd_Box_48 rfl) (⟨_, _, _, rfl, Or.inl rfl, rfl⟩ : mFldW M_Box_becomeEmpty 48 0 1 .int) hr (fun h1 hr => ?_)
  refine j_aload_n (pc := 5) d_Box_becomeEmpty_5 rfl ?_
  refine j_iconst (pc := 6) d_Box_becomeEmpty_6 ?_
  refine j_puti (pc := 7) d_Box_becomeEmpty_7 (fd_Box_52 rfl) (⟨_, _, _, rfl, Or.inl rfl, rfl⟩ : mFldW M_Box_becomeEmpty 52 0 2 .int) hr (fun h2 hr => ?_)
  refine j_aload_n (pc := 10) d_Box_becomeEmpty_10 rfl ?_
  refine j_iconst (pc := 11) d_Box_becomeEmpty_11 ?_
  refine j_puti (pc := 12) d_Box_becomeEmpty_12 (fd_Box_55 rfl) (⟨_, _, _, rfl, Or.inl rfl, rfl⟩ : mFldW M_Box_becomeEmpty 55 0 3 .int) hr (fun h3 hr => ?_)
  refine j_aload_n (pc := 15) d_Box_becomeEmpty_15 rfl ?_
  refine j_iconst (pc := 16) d_Box_becomeEmpty_16 ?_
  refine j_puti (pc := 17) d_Box_becomeEmpty_17 (fd_Box_58 rfl) (⟨_, _, _, rfl, Or.inl rfl, rfl⟩ : mFldW M_Box_becomeEmpty 58 0 4 .int) hr (fun h4 hr => ?_)
  refine j_aload_n (pc := 20) d_Box_becomeEmpty_20 rfl ?_
  refine j_iconst (pc := 21) d_Box_becomeEmpty_21 ?_
  refine j_puti (pc := 22) d_Box_becomeEmpty_22 (fd_Box_61 rfl) (⟨_, _, _, rfl, Or.inl rfl, rfl⟩ : mFldW M_Box_becomeEmpty 61 0 5 .int) hr (fun h5 hr => ?_)
  exact j_vret (pc := 25) d_Box_becomeEmpty_25 rfl hr
def M_Reader_blame : mM := ("NineBars$Reader", ⟨"NineBars$Reader", "blame", "(I)V"⟩, prog_10_method_3_code, 2, none, [], 1)
theorem tb_co_Reader_blame : mTB (Cond.code ⟨"NineBars$Reader", "blame", "(I)V"⟩ prog_10_method_3_code 2 (none)) := tbq4 54 (by decide +kernel) rfl
theorem mc_Reader_blame {M : mM} (hd : 1 < mDp M) : mCal M M_Reader_blame 1 := ⟨tb_co_Reader_blame, tb_in_NineBars_Reader, ⟨by decide +kernel, by decide +kernel⟩, by decide +kernel, hd, by decide⟩
theorem d_Reader_blame_0 : decode prog_10_method_3_code 0 = .ok (.aload_n 0, 1) := by decide +kernel
theorem tb_fl_Reader_31 : mTB (Cond.fieldLink "NineBars$Reader" 31 "NineBars$Reader" "fault" "I") := tbq1 47 (by decide +kernel) rfl
theorem fd_Reader_31 {M : mM} (h : mO M = "NineBars$Reader") : mFld M 31 8 6 0 := ⟨_, _, _, tyX8, rfl, by decide, by decide, rfl, uw_8, tyX8_ok, nmX8, by rw [h]; exact Or.inl tb_fl_Reader_31⟩
theorem d_Reader_blame_1 : decode prog_10_method_3_code 1 = .ok (.getfield 31, 3) := by decide +kernel
theorem d_Reader_blame_4 : decode prog_10_method_3_code 4 = .ok (.ifCond .ne 16, 3) := by decide +kernel
theorem d_Reader_blame_20 : decode prog_10_method_3_code 20 = .ok (.return_, 1) := by decide +kernel
theorem d_Reader_blame_7 : decode prog_10_method_3_code 7 = .ok (.aload_n 0, 1) := by decide +kernel
theorem d_Reader_blame_8 : decode prog_10_method_3_code 8 = .ok (.iload_n 1, 1) := by decide +kernel
theorem d_Reader_blame_9 : decode prog_10_method_3_code 9 = .ok (.putfield 31, 3) := by decide +kernel
theorem d_Reader_blame_12 : decode prog_10_method_3_code 12 = .ok (.aload_n 0, 1) := by decide +kernel
theorem d_Reader_blame_13 : decode prog_10_method_3_code 13 = .ok (.aload_n 0, 1) := by decide +kernel
theorem tb_fl_Reader_49 : mTB (Cond.fieldLink "NineBars$Reader" 49 "NineBars$Reader" "start" "I") := tbq1 44 (by decide +kernel) rfl
theorem fd_Reader_49 {M : mM} (h : mO M = "NineBars$Reader") : mFld M 49 8 3 0 := ⟨_, _, _, tyX8, rfl, by decide, by decide, rfl, uw_8, tyX8_ok, nmX8, by rw [h]; exact Or.inl tb_fl_Reader_49⟩
theorem d_Reader_blame_14 : decode prog_10_method_3_code 14 = .ok (.getfield 49, 3) := by decide +kernel
theorem d_Reader_blame_17 : decode prog_10_method_3_code 17 = .ok (.putfield 15, 3) := by decide +kernel
theorem t_Reader_blame {G : mG} (h : mH) (v0 v1 : Int) (r : mR) (hr : f_Reader_blame h v0 v1 = some r) : mJM G M_Reader_blame [(2, v0), (0, v1)] h r := by
  refine mJM_of (L := [(2, v0), (0, v1)]) rfl rfl rfl (Nat.le_of_ble_eq_true rfl) ?_
  unfold f_Reader_blame at hr
  refine j_aload_n (pc := 0) d_Reader_blame_0 rfl ?_
  refine j_getf (pc := 1) d_Reader_blame_1 (fd_Reader_31 rfl) hr (fun hr => ?_)
  refine j_if_ne (pc := 4) (tgt := 20) d_Reader_blame_4 hr (fun hr => ?_) (fun hr => ?_)
  · exact j_vret (pc := 20) d_Reader_blame_20 rfl hr
  · refine j_aload_n (pc := 7) d_Reader_blame_7 rfl ?_
    refine j_iload_n (pc := 8) d_Reader_blame_8 rfl ?_
    refine j_puti (pc := 9) d_Reader_blame_9 (fd_Reader_31 rfl) (⟨_, _, _, rfl, Or.inl rfl, rfl⟩ : mFldW M_Reader_blame 31 8 6 .int) hr (fun h1 hr => ?_)
    refine j_aload_n (pc := 12) d_Reader_blame_12 rfl ?_
    refine j_aload_n (pc := 13) d_Reader_blame_13 rfl ?_
    refine j_getf (pc := 14) d_Reader_blame_14 (fd_Reader_49 rfl) hr (fun hr => ?_)
    refine j_puti (pc := 17) d_Reader_blame_17 (fd_Reader_15 rfl) (⟨_, _, _, rfl, Or.inl rfl, rfl⟩ : mFldW M_Reader_blame 15 8 7 .int) hr (fun h2 hr => ?_)
    exact j_vret (pc := 20) d_Reader_blame_20 rfl hr
def M_Box_addBar : mM := ("NineBars$Box", ⟨"NineBars$Box", "addBar", "(III)V"⟩, prog_2_method_4_code, 4, none, [], 1)
theorem tb_co_Box_addBar : mTB (Cond.code ⟨"NineBars$Box", "addBar", "(III)V"⟩ prog_2_method_4_code 4 (none)) := tbq4 64 (by decide +kernel) rfl
theorem mc_Box_addBar {M : mM} (hd : 1 < mDp M) : mCal M M_Box_addBar 3 := ⟨tb_co_Box_addBar, tb_in_NineBars_Box, ⟨by decide +kernel, by decide +kernel⟩, by decide +kernel, hd, by decide⟩
theorem d_Box_addBar_0 : decode prog_2_method_4_code 0 = .ok (.aload_n 0, 1) := by decide +kernel
theorem d_Box_addBar_1 : decode prog_2_method_4_code 1 = .ok (.getfield 52, 3) := by decide +kernel
theorem d_Box_addBar_4 : decode prog_2_method_4_code 4 = .ok (.bipush 9, 2) := by decide +kernel
theorem d_Box_addBar_6 : decode prog_2_method_4_code 6 = .ok (.if_icmp .lt 4, 3) := by decide +kernel
theorem d_Box_addBar_10 : decode prog_2_method_4_code 10 = .ok (.aload_n 0, 1) := by decide +kernel
theorem d_Box_addBar_11 : decode prog_2_method_4_code 11 = .ok (.getfield 9, 3) := by decide +kernel
theorem d_Box_addBar_14 : decode prog_2_method_4_code 14 = .ok (.aload_n 0, 1) := by decide +kernel
theorem d_Box_addBar_15 : decode prog_2_method_4_code 15 = .ok (.getfield 52, 3) := by decide +kernel
theorem d_Box_addBar_18 : decode prog_2_method_4_code 18 = .ok (.iload_n 1, 1) := by decide +kernel
theorem d_Box_addBar_19 : decode prog_2_method_4_code 19 = .ok (.iastore, 1) := by decide +kernel
theorem d_Box_addBar_20 : decode prog_2_method_4_code 20 = .ok (.aload_n 0, 1) := by decide +kernel
theorem d_Box_addBar_21 : decode prog_2_method_4_code 21 = .ok (.getfield 15, 3) := by decide +kernel
theorem d_Box_addBar_24 : decode prog_2_method_4_code 24 = .ok (.aload_n 0, 1) := by decide +kernel
theorem d_Box_addBar_25 : decode prog_2_method_4_code 25 = .ok (.getfield 52, 3) := by decide +kernel
theorem d_Box_addBar_28 : decode prog_2_method_4_code 28 = .ok (.iload_n 2, 1) := by decide +kernel
theorem d_Box_addBar_29 : decode prog_2_method_4_code 29 = .ok (.iastore, 1) := by decide +kernel
theorem d_Box_addBar_30 : decode prog_2_method_4_code 30 = .ok (.aload_n 0, 1) := by decide +kernel
theorem d_Box_addBar_31 : decode prog_2_method_4_code 31 = .ok (.getfield 18, 3) := by decide +kernel
theorem d_Box_addBar_34 : decode prog_2_method_4_code 34 = .ok (.aload_n 0, 1) := by decide +kernel
theorem d_Box_addBar_35 : decode prog_2_method_4_code 35 = .ok (.getfield 52, 3) := by decide +kernel
theorem d_Box_addBar_38 : decode prog_2_method_4_code 38 = .ok (.iload_n 3, 1) := by decide +kernel
theorem d_Box_addBar_39 : decode prog_2_method_4_code 39 = .ok (.iastore, 1) := by decide +kernel
theorem d_Box_addBar_40 : decode prog_2_method_4_code 40 = .ok (.aload_n 0, 1) := by decide +kernel
theorem d_Box_addBar_41 : decode prog_2_method_4_code 41 = .ok (.getfield 21, 3) := by decide +kernel
theorem d_Box_addBar_44 : decode prog_2_method_4_code 44 = .ok (.aload_n 0, 1) := by decide +kernel
theorem d_Box_addBar_45 : decode prog_2_method_4_code 45 = .ok (.getfield 52, 3) := by decide +kernel
theorem d_Box_addBar_48 : decode prog_2_method_4_code 48 = .ok (.iload_n 2, 1) := by decide +kernel
theorem d_Box_addBar_49 : decode prog_2_method_4_code 49 = .ok (.iastore, 1) := by decide +kernel
theorem d_Box_addBar_50 : decode prog_2_method_4_code 50 = .ok (.aload_n 0, 1) := by decide +kernel
theorem d_Box_addBar_51 : decode prog_2_method_4_code 51 = .ok (.getfield 24, 3) := by decide +kernel
theorem d_Box_addBar_54 : decode prog_2_method_4_code 54 = .ok (.aload_n 0, 1) := by decide +kernel
theorem d_Box_addBar_55 : decode prog_2_method_4_code 55 = .ok (.getfield 52, 3) := by decide +kernel
theorem d_Box_addBar_58 : decode prog_2_method_4_code 58 = .ok (.iconst 0, 1) := by decide +kernel
theorem d_Box_addBar_59 : decode prog_2_method_4_code 59 = .ok (.iastore, 1) := by decide +kernel
theorem d_Box_addBar_60 : decode prog_2_method_4_code 60 = .ok (.aload_n 0, 1) := by decide +kernel
theorem d_Box_addBar_61 : decode prog_2_method_4_code 61 = .ok (.dup, 1) := by decide +kernel
theorem d_Box_addBar_62 : decode prog_2_method_4_code 62 = .ok (.getfield 52, 3) := by decide +kernel
theorem d_Box_addBar_65 : decode prog_2_method_4_code 65 = .ok (.iconst 1, 1) := by decide +kernel
theorem d_Box_addBar_66 : decode prog_2_method_4_code 66 = .ok (.iadd, 1) := by decide +kernel
theorem d_Box_addBar_67 : decode prog_2_method_4_code 67 = .ok (.putfield 52, 3) := by decide +kernel
theorem d_Box_addBar_70 : decode prog_2_method_4_code 70 = .ok (.return_, 1) := by decide +kernel
theorem d_Box_addBar_9 : decode prog_2_method_4_code 9 = .ok (.return_, 1) := by decide +kernel
theorem t_Box_addBar {G : mG} (h : mH) (v0 v1 v2 v3 : Int) (r : mR) (hr : f_Box_addBar h v0 v1 v2 v3 = some r) : mJM G M_Box_addBar [(2, v0), (0, v1), (0, v2), (0, v3)] h r := by
  refine mJM_of (L := [(2, v0), (0, v1), (0, v2), (0, v3)]) rfl rfl rfl (Nat.le_of_ble_eq_true rfl) ?_
  unfold f_Box_addBar at hr
  refine j_aload_n (pc := 0) d_Box_addBar_0 rfl ?_
  refine j_getf (pc := 1) d_Box_addBar_1 (fd_Box_52 rfl) hr (fun hr => ?_)
  refine j_bipush (pc := 4) d_Box_addBar_4 ?_
  refine j_icmp_lt (pc := 6) (tgt := 10) d_Box_addBar_6 hr (fun hr => ?_) (fun hr => ?_)
  · refine j_aload_n (pc := 10) d_Box_addBar_10 rfl ?_
    refine j_getf (pc := 11) d_Box_addBar_11 (fd_Box_9 rfl) hr (fun hr => ?_)
    refine j_aload_n (pc := 14) d_Box_addBar_14 rfl ?_
    refine j_getf (pc := 15) d_Box_addBar_15 (fd_Box_52 rfl) hr (fun hr => ?_)
    refine j_iload_n (pc := 18) d_Box_addBar_18 rfl ?_
    refine j_iastore (pc := 19) d_Box_addBar_19 hr (fun h1 hr => ?_)
    refine j_aload_n (pc := 20) d_Box_addBar_20 rfl ?_
    refine j_getf (pc := 21) d_Box_addBar_21 (fd_Box_15 rfl) hr (fun hr => ?_)
    refine j_aload_n (pc := 24) d_Box_addBar_24 rfl ?_
    refine j_getf (pc := 25) d_Box_addBar_25 (fd_Box_52 rfl) hr (fun hr => ?_)
    refine j_iload_n (pc := 28) d_Box_addBar_28 rfl ?_
    refine j_iastore (pc := 29) d_Box_addBar_29 hr (fun h2 hr => ?_)
    refine j_aload_n (pc := 30) d_Box_addBar_30 rfl ?_
    refine j_getf (pc := 31) d_Box_addBar_31 (fd_Box_18 rfl) hr (fun hr => ?_)
    refine j_aload_n (pc := 34) d_Box_addBar_34 rfl ?_
    refine j_getf (pc := 35) d_Box_addBar_35 (fd_Box_52 rfl) hr (fun hr => ?_)
    refine j_iload_n (pc := 38) d_Box_addBar_38 rfl ?_
    refine j_iastore (pc := 39) d_Box_addBar_39 hr (fun h3 hr => ?_)
    refine j_aload_n (pc := 40) d_Box_addBar_40 rfl ?_
    refine j_getf (pc := 41) d_Box_addBar_41 (fd_Box_21 rfl) hr (fun hr => ?_)
    refine j_aload_n (pc := 44) d_Box_addBar_44 rfl ?_
    refine j_getf (pc := 45) d_Box_addBar_45 (fd_Box_52 rfl) hr (fun hr => ?_)
    refine j_iload_n (pc := 48) d_Box_addBar_48 rfl ?_
    refine j_iastore (pc := 49) d_Box_addBar_49 hr (fun h4 hr => ?_)
    refine j_aload_n (pc := 50) d_Box_addBar_50 rfl ?_
    refine j_getf (pc := 51) d_Box_addBar_51 (fd_Box_24 rfl) hr (fun hr => ?_)
    refine j_aload_n (pc := 54) d_Box_addBar_54 rfl ?_
    refine j_getf (pc := 55) d_Box_addBar_55 (fd_Box_52 rfl) hr (fun hr => ?_)
    refine j_iconst (pc := 58) d_Box_addBar_58 ?_
    refine j_iastore (pc := 59) d_Box_addBar_59 hr (fun h5 hr => ?_)
    refine j_aload_n (pc := 60) d_Box_addBar_60 rfl ?_
    refine j_dup (pc := 61) d_Box_addBar_61 ?_
    refine j_getf (pc := 62) d_Box_addBar_62 (fd_Box_52 rfl) hr (fun hr => ?_)
    refine j_iconst (pc := 65) d_Box_addBar_65 ?_
    refine j_iadd (pc := 66) d_Box_addBar_66 ?_
    refine j_puti (pc := 67) d_Box_addBar_67 (fd_Box_52 rfl) (⟨_, _, _, rfl, Or.inl rfl, rfl⟩ : mFldW M_Box_addBar 52 0 2 .int) hr (fun h6 hr => ?_)
    exact j_vret (pc := 70) d_Box_addBar_70 rfl hr
  · exact j_vret (pc := 9) d_Box_addBar_9 rfl hr
def M_Reader_readToken : mM := ("NineBars$Reader", ⟨"NineBars$Reader", "readToken", "()V"⟩, prog_10_method_4_code, 5, none, [], 1)
theorem tb_co_Reader_readToken : mTB (Cond.code ⟨"NineBars$Reader", "readToken", "()V"⟩ prog_10_method_4_code 5 (none)) := tbq3 229 (by decide +kernel) rfl
theorem mc_Reader_readToken {M : mM} (hd : 1 < mDp M) : mCal M M_Reader_readToken 0 := ⟨tb_co_Reader_readToken, tb_in_NineBars_Reader, ⟨by decide +kernel, by decide +kernel⟩, by decide +kernel, hd, by decide⟩
theorem d_Reader_readToken_0 : decode prog_10_method_4_code 0 = .ok (.aload_n 0, 1) := by decide +kernel
theorem d_Reader_readToken_1 : decode prog_10_method_4_code 1 = .ok (.getfield 31, 3) := by decide +kernel
theorem d_Reader_readToken_4 : decode prog_10_method_4_code 4 = .ok (.ifCond .eq 4, 3) := by decide +kernel
theorem d_Reader_readToken_8 : decode prog_10_method_4_code 8 = .ok (.aload_n 0, 1) := by decide +kernel
theorem tb_fl_Reader_28 : mTB (Cond.fieldLink "NineBars$Reader" 28 "NineBars$Reader" "pos" "I") := tbq1 43 (by decide +kernel) rfl
theorem fd_Reader_28 {M : mM} (h : mO M = "NineBars$Reader") : mFld M 28 8 2 0 := ⟨_, _, _, tyX8, rfl, by decide, by decide, rfl, uw_8, tyX8_ok, nmX8, by rw [h]; exact Or.inl tb_fl_Reader_28⟩
theorem d_Reader_readToken_9 : decode prog_10_method_4_code 9 = .ok (.getfield 28, 3) := by decide +kernel
theorem d_Reader_readToken_12 : decode prog_10_method_4_code 12 = .ok (.aload_n 0, 1) := by decide +kernel
theorem tb_fl_Reader_25 : mTB (Cond.fieldLink "NineBars$Reader" 25 "NineBars$Reader" "length" "I") := tbq1 42 (by decide +kernel) rfl
theorem fd_Reader_25 {M : mM} (h : mO M = "NineBars$Reader") : mFld M 25 8 1 0 := ⟨_, _, _, tyX8, rfl, by decide, by decide, rfl, uw_8, tyX8_ok, nmX8, by rw [h]; exact Or.inl tb_fl_Reader_25⟩
theorem d_Reader_readToken_13 : decode prog_10_method_4_code 13 = .ok (.getfield 25, 3) := by decide +kernel
theorem d_Reader_readToken_16 : decode prog_10_method_4_code 16 = .ok (.if_icmp .ge 44, 3) := by decide +kernel
theorem d_Reader_readToken_19 : decode prog_10_method_4_code 19 = .ok (.aload_n 0, 1) := by decide +kernel
theorem d_Reader_readToken_20 : decode prog_10_method_4_code 20 = .ok (.getfield 9, 3) := by decide +kernel
theorem d_Reader_readToken_23 : decode prog_10_method_4_code 23 = .ok (.aload_n 0, 1) := by decide +kernel
theorem d_Reader_readToken_24 : decode prog_10_method_4_code 24 = .ok (.getfield 28, 3) := by decide +kernel
theorem d_Reader_readToken_27 : decode prog_10_method_4_code 27 = .ok (.baload, 1) := by decide +kernel
theorem d_Reader_readToken_28 : decode prog_10_method_4_code 28 = .ok (.bipush 10, 2) := by decide +kernel
theorem d_Reader_readToken_30 : decode prog_10_method_4_code 30 = .ok (.if_icmp .eq 17, 3) := by decide +kernel
theorem d_Reader_readToken_47 : decode prog_10_method_4_code 47 = .ok (.aload_n 0, 1) := by decide +kernel
theorem d_Reader_readToken_48 : decode prog_10_method_4_code 48 = .ok (.dup, 1) := by decide +kernel
theorem d_Reader_readToken_49 : decode prog_10_method_4_code 49 = .ok (.getfield 28, 3) := by decide +kernel
theorem d_Reader_readToken_52 : decode prog_10_method_4_code 52 = .ok (.iconst 1, 1) := by decide +kernel
theorem d_Reader_readToken_53 : decode prog_10_method_4_code 53 = .ok (.iadd, 1) := by decide +kernel
theorem d_Reader_readToken_54 : decode prog_10_method_4_code 54 = .ok (.putfield 28, 3) := by decide +kernel
theorem d_Reader_readToken_57 : decode prog_10_method_4_code 57 = .ok (.goto (-49), 3) := by decide +kernel
theorem d_Reader_readToken_33 : decode prog_10_method_4_code 33 = .ok (.aload_n 0, 1) := by decide +kernel
theorem d_Reader_readToken_34 : decode prog_10_method_4_code 34 = .ok (.getfield 9, 3) := by decide +kernel
theorem d_Reader_readToken_37 : decode prog_10_method_4_code 37 = .ok (.aload_n 0, 1) := by decide +kernel
theorem d_Reader_readToken_38 : decode prog_10_method_4_code 38 = .ok (.getfield 28, 3) := by decide +kernel
theorem d_Reader_readToken_41 : decode prog_10_method_4_code 41 = .ok (.baload, 1) := by decide +kernel
theorem d_Reader_readToken_42 : decode prog_10_method_4_code 42 = .ok (.bipush 32, 2) := by decide +kernel
theorem d_Reader_readToken_44 : decode prog_10_method_4_code 44 = .ok (.if_icmp .ne 16, 3) := by decide +kernel
theorem d_Reader_readToken_60 : decode prog_10_method_4_code 60 = .ok (.aload_n 0, 1) := by decide +kernel
theorem d_Reader_readToken_61 : decode prog_10_method_4_code 61 = .ok (.aload_n 0, 1) := by decide +kernel
theorem d_Reader_readToken_62 : decode prog_10_method_4_code 62 = .ok (.getfield 28, 3) := by decide +kernel
theorem d_Reader_readToken_65 : decode prog_10_method_4_code 65 = .ok (.putfield 49, 3) := by decide +kernel
theorem d_Reader_readToken_68 : decode prog_10_method_4_code 68 = .ok (.aload_n 0, 1) := by decide +kernel
theorem d_Reader_readToken_69 : decode prog_10_method_4_code 69 = .ok (.iconst 0, 1) := by decide +kernel
theorem tb_fl_Reader_52 : mTB (Cond.fieldLink "NineBars$Reader" 52 "NineBars$Reader" "value" "I") := tbq1 46 (by decide +kernel) rfl
theorem fd_Reader_52 {M : mM} (h : mO M = "NineBars$Reader") : mFld M 52 8 5 0 := ⟨_, _, _, tyX8, rfl, by decide, by decide, rfl, uw_8, tyX8_ok, nmX8, by rw [h]; exact Or.inl tb_fl_Reader_52⟩
theorem d_Reader_readToken_70 : decode prog_10_method_4_code 70 = .ok (.putfield 52, 3) := by decide +kernel
theorem d_Reader_readToken_73 : decode prog_10_method_4_code 73 = .ok (.aload_n 0, 1) := by decide +kernel
theorem d_Reader_readToken_74 : decode prog_10_method_4_code 74 = .ok (.getfield 28, 3) := by decide +kernel
theorem d_Reader_readToken_77 : decode prog_10_method_4_code 77 = .ok (.aload_n 0, 1) := by decide +kernel
theorem d_Reader_readToken_78 : decode prog_10_method_4_code 78 = .ok (.getfield 25, 3) := by decide +kernel
theorem d_Reader_readToken_81 : decode prog_10_method_4_code 81 = .ok (.if_icmp .ge 15, 3) := by decide +kernel
theorem d_Reader_readToken_96 : decode prog_10_method_4_code 96 = .ok (.iconst 0, 1) := by decide +kernel
theorem d_Reader_readToken_97 : decode prog_10_method_4_code 97 = .ok (.istore_n 1, 1) := by decide +kernel
theorem d_Reader_readToken_98 : decode prog_10_method_4_code 98 = .ok (.iload_n 1, 1) := by decide +kernel
theorem d_Reader_readToken_99 : decode prog_10_method_4_code 99 = .ok (.bipush 97, 2) := by decide +kernel
theorem d_Reader_readToken_101 : decode prog_10_method_4_code 101 = .ok (.if_icmp .lt 13, 3) := by decide +kernel
theorem d_Reader_readToken_114 : decode prog_10_method_4_code 114 = .ok (.iconst 0, 1) := by decide +kernel
theorem d_Reader_readToken_115 : decode prog_10_method_4_code 115 = .ok (.istore_n 2, 1) := by decide +kernel
theorem d_Reader_readToken_116 : decode prog_10_method_4_code 116 = .ok (.iload_n 2, 1) := by decide +kernel
theorem d_Reader_readToken_117 : decode prog_10_method_4_code 117 = .ok (.ifCond .eq 8, 3) := by decide +kernel
theorem d_Reader_readToken_125 : decode prog_10_method_4_code 125 = .ok (.bipush 48, 2) := by decide +kernel
theorem d_Reader_readToken_127 : decode prog_10_method_4_code 127 = .ok (.istore_n 3, 1) := by decide +kernel
theorem d_Reader_readToken_128 : decode prog_10_method_4_code 128 = .ok (.iload_n 2, 1) := by decide +kernel
theorem d_Reader_readToken_129 : decode prog_10_method_4_code 129 = .ok (.ifCond .eq 8, 3) := by decide +kernel
theorem d_Reader_readToken_137 : decode prog_10_method_4_code 137 = .ok (.bipush 57, 2) := by decide +kernel
theorem d_Reader_readToken_139 : decode prog_10_method_4_code 139 = .ok (.istore 4, 2) := by decide +kernel
theorem d_Reader_readToken_141 : decode prog_10_method_4_code 141 = .ok (.aload_n 0, 1) := by decide +kernel
theorem d_Reader_readToken_142 : decode prog_10_method_4_code 142 = .ok (.getfield 28, 3) := by decide +kernel
theorem d_Reader_readToken_145 : decode prog_10_method_4_code 145 = .ok (.aload_n 0, 1) := by decide +kernel
theorem d_Reader_readToken_146 : decode prog_10_method_4_code 146 = .ok (.getfield 25, 3) := by decide +kernel
theorem d_Reader_readToken_149 : decode prog_10_method_4_code 149 = .ok (.if_icmp .ge 67, 3) := by decide +kernel
theorem d_Reader_readToken_152 : decode prog_10_method_4_code 152 = .ok (.aload_n 0, 1) := by decide +kernel
theorem d_Reader_readToken_153 : decode prog_10_method_4_code 153 = .ok (.getfield 9, 3) := by decide +kernel
theorem d_Reader_readToken_156 : decode prog_10_method_4_code 156 = .ok (.aload_n 0, 1) := by decide +kernel
theorem d_Reader_readToken_157 : decode prog_10_method_4_code 157 = .ok (.getfield 28, 3) := by decide +kernel
theorem d_Reader_readToken_160 : decode prog_10_method_4_code 160 = .ok (.baload, 1) := by decide +kernel
theorem d_Reader_readToken_161 : decode prog_10_method_4_code 161 = .ok (.iload_n 3, 1) := by decide +kernel
theorem d_Reader_readToken_162 : decode prog_10_method_4_code 162 = .ok (.if_icmp .lt 54, 3) := by decide +kernel
theorem d_Reader_readToken_165 : decode prog_10_method_4_code 165 = .ok (.aload_n 0, 1) := by decide +kernel
theorem d_Reader_readToken_166 : decode prog_10_method_4_code 166 = .ok (.getfield 9, 3) := by decide +kernel
theorem d_Reader_readToken_169 : decode prog_10_method_4_code 169 = .ok (.aload_n 0, 1) := by decide +kernel
theorem d_Reader_readToken_170 : decode prog_10_method_4_code 170 = .ok (.getfield 28, 3) := by decide +kernel
theorem d_Reader_readToken_173 : decode prog_10_method_4_code 173 = .ok (.baload, 1) := by decide +kernel
theorem d_Reader_readToken_174 : decode prog_10_method_4_code 174 = .ok (.iload 4, 2) := by decide +kernel
theorem d_Reader_readToken_176 : decode prog_10_method_4_code 176 = .ok (.if_icmp .gt 40, 3) := by decide +kernel
theorem d_Reader_readToken_179 : decode prog_10_method_4_code 179 = .ok (.aload_n 0, 1) := by decide +kernel
theorem d_Reader_readToken_180 : decode prog_10_method_4_code 180 = .ok (.aload_n 0, 1) := by decide +kernel
theorem d_Reader_readToken_181 : decode prog_10_method_4_code 181 = .ok (.getfield 52, 3) := by decide +kernel
theorem d_Reader_readToken_184 : decode prog_10_method_4_code 184 = .ok (.bipush 10, 2) := by decide +kernel
theorem d_Reader_readToken_186 : decode prog_10_method_4_code 186 = .ok (.imul, 1) := by decide +kernel
theorem d_Reader_readToken_187 : decode prog_10_method_4_code 187 = .ok (.aload_n 0, 1) := by decide +kernel
theorem d_Reader_readToken_188 : decode prog_10_method_4_code 188 = .ok (.getfield 9, 3) := by decide +kernel
theorem d_Reader_readToken_191 : decode prog_10_method_4_code 191 = .ok (.aload_n 0, 1) := by decide +kernel
theorem d_Reader_readToken_192 : decode prog_10_method_4_code 192 = .ok (.getfield 28, 3) := by decide +kernel
theorem d_Reader_readToken_195 : decode prog_10_method_4_code 195 = .ok (.baload, 1) := by decide +kernel
theorem d_Reader_readToken_196 : decode prog_10_method_4_code 196 = .ok (.iadd, 1) := by decide +kernel
theorem d_Reader_readToken_197 : decode prog_10_method_4_code 197 = .ok (.bipush 48, 2) := by decide +kernel
theorem d_Reader_readToken_199 : decode prog_10_method_4_code 199 = .ok (.isub, 1) := by decide +kernel
theorem d_Reader_readToken_200 : decode prog_10_method_4_code 200 = .ok (.putfield 52, 3) := by decide +kernel
theorem d_Reader_readToken_203 : decode prog_10_method_4_code 203 = .ok (.aload_n 0, 1) := by decide +kernel
theorem d_Reader_readToken_204 : decode prog_10_method_4_code 204 = .ok (.dup, 1) := by decide +kernel
theorem d_Reader_readToken_205 : decode prog_10_method_4_code 205 = .ok (.getfield 28, 3) := by decide +kernel
theorem d_Reader_readToken_208 : decode prog_10_method_4_code 208 = .ok (.iconst 1, 1) := by decide +kernel
theorem d_Reader_readToken_209 : decode prog_10_method_4_code 209 = .ok (.iadd, 1) := by decide +kernel
theorem d_Reader_readToken_210 : decode prog_10_method_4_code 210 = .ok (.putfield 28, 3) := by decide +kernel
theorem d_Reader_readToken_213 : decode prog_10_method_4_code 213 = .ok (.goto (-72), 3) := by decide +kernel
theorem d_Reader_readToken_216 : decode prog_10_method_4_code 216 = .ok (.aload_n 0, 1) := by decide +kernel
theorem d_Reader_readToken_217 : decode prog_10_method_4_code 217 = .ok (.getfield 49, 3) := by decide +kernel
theorem d_Reader_readToken_220 : decode prog_10_method_4_code 220 = .ok (.aload_n 0, 1) := by decide +kernel
theorem d_Reader_readToken_221 : decode prog_10_method_4_code 221 = .ok (.getfield 25, 3) := by decide +kernel
theorem d_Reader_readToken_224 : decode prog_10_method_4_code 224 = .ok (.if_icmp .lt 11, 3) := by decide +kernel
theorem d_Reader_readToken_235 : decode prog_10_method_4_code 235 = .ok (.iload_n 2, 1) := by decide +kernel
theorem d_Reader_readToken_236 : decode prog_10_method_4_code 236 = .ok (.ifCond .eq 11, 3) := by decide +kernel
theorem d_Reader_readToken_247 : decode prog_10_method_4_code 247 = .ok (.aload_n 0, 1) := by decide +kernel
theorem d_Reader_readToken_248 : decode prog_10_method_4_code 248 = .ok (.getfield 28, 3) := by decide +kernel
theorem d_Reader_readToken_251 : decode prog_10_method_4_code 251 = .ok (.aload_n 0, 1) := by decide +kernel
theorem d_Reader_readToken_252 : decode prog_10_method_4_code 252 = .ok (.getfield 49, 3) := by decide +kernel
theorem d_Reader_readToken_255 : decode prog_10_method_4_code 255 = .ok (.if_icmp .le 24, 3) := by decide +kernel
theorem d_Reader_readToken_279 : decode prog_10_method_4_code 279 = .ok (.iload_n 1, 1) := by decide +kernel
theorem d_Reader_readToken_280 : decode prog_10_method_4_code 280 = .ok (.bipush 59, 2) := by decide +kernel
theorem d_Reader_readToken_282 : decode prog_10_method_4_code 282 = .ok (.if_icmp .ne 21, 3) := by decide +kernel
theorem d_Reader_readToken_303 : decode prog_10_method_4_code 303 = .ok (.aload_n 0, 1) := by decide +kernel
theorem d_Reader_readToken_304 : decode prog_10_method_4_code 304 = .ok (.iconst 1, 1) := by decide +kernel
theorem tb_fl_Reader_42 : mTB (Cond.fieldLink "NineBars$Reader" 42 "NineBars$Reader" "kind" "I") := tbq1 45 (by decide +kernel) rfl
theorem fd_Reader_42 {M : mM} (h : mO M = "NineBars$Reader") : mFld M 42 8 4 0 := ⟨_, _, _, tyX8, rfl, by decide, by decide, rfl, uw_8, tyX8_ok, nmX8, by rw [h]; exact Or.inl tb_fl_Reader_42⟩
theorem d_Reader_readToken_305 : decode prog_10_method_4_code 305 = .ok (.putfield 42, 3) := by decide +kernel
theorem d_Reader_readToken_308 : decode prog_10_method_4_code 308 = .ok (.aload_n 0, 1) := by decide +kernel
theorem d_Reader_readToken_309 : decode prog_10_method_4_code 309 = .ok (.iconst 1, 1) := by decide +kernel
theorem d_Reader_readToken_310 : decode prog_10_method_4_code 310 = .ok (.putfield 31, 3) := by decide +kernel
theorem d_Reader_readToken_313 : decode prog_10_method_4_code 313 = .ok (.aload_n 0, 1) := by decide +kernel
theorem d_Reader_readToken_314 : decode prog_10_method_4_code 314 = .ok (.aload_n 0, 1) := by decide +kernel
theorem d_Reader_readToken_315 : decode prog_10_method_4_code 315 = .ok (.getfield 49, 3) := by decide +kernel
theorem d_Reader_readToken_318 : decode prog_10_method_4_code 318 = .ok (.putfield 15, 3) := by decide +kernel
theorem d_Reader_readToken_321 : decode prog_10_method_4_code 321 = .ok (.return_, 1) := by decide +kernel
theorem d_Reader_readToken_285 : decode prog_10_method_4_code 285 = .ok (.aload_n 0, 1) := by decide +kernel
theorem d_Reader_readToken_286 : decode prog_10_method_4_code 286 = .ok (.iconst 4, 1) := by decide +kernel
theorem d_Reader_readToken_287 : decode prog_10_method_4_code 287 = .ok (.putfield 42, 3) := by decide +kernel
theorem d_Reader_readToken_290 : decode prog_10_method_4_code 290 = .ok (.aload_n 0, 1) := by decide +kernel
theorem d_Reader_readToken_291 : decode prog_10_method_4_code 291 = .ok (.dup, 1) := by decide +kernel
theorem d_Reader_readToken_292 : decode prog_10_method_4_code 292 = .ok (.getfield 28, 3) := by decide +kernel
theorem d_Reader_readToken_295 : decode prog_10_method_4_code 295 = .ok (.iconst 1, 1) := by decide +kernel
theorem d_Reader_readToken_296 : decode prog_10_method_4_code 296 = .ok (.iadd, 1) := by decide +kernel
theorem d_Reader_readToken_297 : decode prog_10_method_4_code 297 = .ok (.putfield 28, 3) := by decide +kernel
theorem d_Reader_readToken_300 : decode prog_10_method_4_code 300 = .ok (.goto 21, 3) := by decide +kernel
theorem d_Reader_readToken_258 : decode prog_10_method_4_code 258 = .ok (.aload_n 0, 1) := by decide +kernel
theorem d_Reader_readToken_259 : decode prog_10_method_4_code 259 = .ok (.getfield 28, 3) := by decide +kernel
theorem d_Reader_readToken_262 : decode prog_10_method_4_code 262 = .ok (.aload_n 0, 1) := by decide +kernel
theorem d_Reader_readToken_263 : decode prog_10_method_4_code 263 = .ok (.getfield 49, 3) := by decide +kernel
theorem d_Reader_readToken_266 : decode prog_10_method_4_code 266 = .ok (.isub, 1) := by decide +kernel
theorem d_Reader_readToken_267 : decode prog_10_method_4_code 267 = .ok (.iconst 3, 1) := by decide +kernel
theorem d_Reader_readToken_268 : decode prog_10_method_4_code 268 = .ok (.if_icmp .gt 11, 3) := by decide +kernel
theorem d_Reader_readToken_271 : decode prog_10_method_4_code 271 = .ok (.aload_n 0, 1) := by decide +kernel
theorem d_Reader_readToken_272 : decode prog_10_method_4_code 272 = .ok (.iconst 3, 1) := by decide +kernel
theorem d_Reader_readToken_273 : decode prog_10_method_4_code 273 = .ok (.putfield 42, 3) := by decide +kernel
theorem d_Reader_readToken_276 : decode prog_10_method_4_code 276 = .ok (.goto 45, 3) := by decide +kernel
theorem d_Reader_readToken_239 : decode prog_10_method_4_code 239 = .ok (.aload_n 0, 1) := by decide +kernel
theorem d_Reader_readToken_240 : decode prog_10_method_4_code 240 = .ok (.iconst 2, 1) := by decide +kernel
theorem d_Reader_readToken_241 : decode prog_10_method_4_code 241 = .ok (.putfield 42, 3) := by decide +kernel
theorem d_Reader_readToken_244 : decode prog_10_method_4_code 244 = .ok (.goto 77, 3) := by decide +kernel
theorem d_Reader_readToken_227 : decode prog_10_method_4_code 227 = .ok (.aload_n 0, 1) := by decide +kernel
theorem d_Reader_readToken_228 : decode prog_10_method_4_code 228 = .ok (.iconst 0, 1) := by decide +kernel
theorem d_Reader_readToken_229 : decode prog_10_method_4_code 229 = .ok (.putfield 42, 3) := by decide +kernel
theorem d_Reader_readToken_232 : decode prog_10_method_4_code 232 = .ok (.goto 89, 3) := by decide +kernel
theorem d_Reader_readToken_132 : decode prog_10_method_4_code 132 = .ok (.bipush 122, 2) := by decide +kernel
theorem d_Reader_readToken_134 : decode prog_10_method_4_code 134 = .ok (.goto 5, 3) := by decide +kernel
theorem d_Reader_readToken_120 : decode prog_10_method_4_code 120 = .ok (.bipush 97, 2) := by decide +kernel
theorem d_Reader_readToken_122 : decode prog_10_method_4_code 122 = .ok (.goto 5, 3) := by decide +kernel
theorem d_Reader_readToken_104 : decode prog_10_method_4_code 104 = .ok (.iload_n 1, 1) := by decide +kernel
theorem d_Reader_readToken_105 : decode prog_10_method_4_code 105 = .ok (.bipush 122, 2) := by decide +kernel
theorem d_Reader_readToken_107 : decode prog_10_method_4_code 107 = .ok (.if_icmp .gt 7, 3) := by decide +kernel
theorem d_Reader_readToken_110 : decode prog_10_method_4_code 110 = .ok (.iconst 1, 1) := by decide +kernel
theorem d_Reader_readToken_111 : decode prog_10_method_4_code 111 = .ok (.goto 4, 3) := by decide +kernel
theorem d_Reader_readToken_84 : decode prog_10_method_4_code 84 = .ok (.aload_n 0, 1) := by decide +kernel
theorem d_Reader_readToken_85 : decode prog_10_method_4_code 85 = .ok (.getfield 9, 3) := by decide +kernel
theorem d_Reader_readToken_88 : decode prog_10_method_4_code 88 = .ok (.aload_n 0, 1) := by decide +kernel
theorem d_Reader_readToken_89 : decode prog_10_method_4_code 89 = .ok (.getfield 28, 3) := by decide +kernel
theorem d_Reader_readToken_92 : decode prog_10_method_4_code 92 = .ok (.baload, 1) := by decide +kernel
theorem d_Reader_readToken_93 : decode prog_10_method_4_code 93 = .ok (.goto 4, 3) := by decide +kernel
theorem d_Reader_readToken_7 : decode prog_10_method_4_code 7 = .ok (.return_, 1) := by decide +kernel
theorem t_Reader_readToken_J47 {G : mG} {r : mR} {v0 : Int} {h : mH} {R8 : mH → Option mR} (hR8 : ∀ (h : mH) , R8 h  = some r → mJ G M_Reader_readToken 8 [(2, v0), (9, 0), (9, 0), (9, 0), (9, 0)] [] h r) (hr : f_Reader_readToken_J47 R8 v0 h = some r) : mJ G M_Reader_readToken 47 [(2, v0), (9, 0), (9, 0), (9, 0), (9, 0)] [] h r := by
  unfold f_Reader_readToken_J47 at hr
  refine j_aload_n (pc := 47) d_Reader_readToken_47 rfl ?_
  refine j_dup (pc := 48) d_Reader_readToken_48 ?_
  refine j_getf (pc := 49) d_Reader_readToken_49 (fd_Reader_28 rfl) hr (fun hr => ?_)
  refine j_iconst (pc := 52) d_Reader_readToken_52 ?_
  refine j_iadd (pc := 53) d_Reader_readToken_53 ?_
  refine j_puti (pc := 54) d_Reader_readToken_54 (fd_Reader_28 rfl) (⟨_, _, _, rfl, Or.inl rfl, rfl⟩ : mFldW M_Reader_readToken 28 8 2 .int) hr (fun h1 hr => ?_)
  refine j_goto (pc := 57) (tgt := 8) d_Reader_readToken_57 ?_
  exact mJ_weak (ls' := [(2, v0), (9, 0), (9, 0), (9, 0), (9, 0)]) (mwk_s (mwk_s (mwk_s (mwk_s (mwk_s mwk_n))))) (hR8 h1  hr)
theorem t_Reader_readToken_L8 {G : mG} {r : mR} {v0 : Int} {K60 : mH → Option mR} (hK60 : ∀ (h : mH) , K60 h  = some r → mJ G M_Reader_readToken 60 [(2, v0), (9, 0), (9, 0), (9, 0), (9, 0)] [] h r) : ∀ (n : Nat) (h : mH) , f_Reader_readToken_L8 K60 v0 n h  = some r → mJ G M_Reader_readToken 8 [(2, v0), (9, 0), (9, 0), (9, 0), (9, 0)] [] h r := by
  intro n
  induction n with
  | zero =>
    intro h  hr
    rw [f_Reader_readToken_L8] at hr
    cases hr
  | succ n hR8 =>
    intro h  hr
    rw [f_Reader_readToken_L8] at hr
    refine j_aload_n (pc := 8) d_Reader_readToken_8 rfl ?_
    refine j_getf (pc := 9) d_Reader_readToken_9 (fd_Reader_28 rfl) hr (fun hr => ?_)
    refine j_aload_n (pc := 12) d_Reader_readToken_12 rfl ?_
    refine j_getf (pc := 13) d_Reader_readToken_13 (fd_Reader_25 rfl) hr (fun hr => ?_)
    refine j_icmp_ge (pc := 16) (tgt := 60) d_Reader_readToken_16 hr (fun hr => ?_) (fun hr => ?_)
    · exact mJ_weak (ls' := [(2, v0), (9, 0), (9, 0), (9, 0), (9, 0)]) (mwk_s (mwk_s (mwk_s (mwk_s (mwk_s mwk_n))))) (hK60 h  hr)
    · refine j_aload_n (pc := 19) d_Reader_readToken_19 rfl ?_
      refine j_getf (pc := 20) d_Reader_readToken_20 (fd_Reader_9 rfl) hr (fun hr => ?_)
      refine j_aload_n (pc := 23) d_Reader_readToken_23 rfl ?_
      refine j_getf (pc := 24) d_Reader_readToken_24 (fd_Reader_28 rfl) hr (fun hr => ?_)
      refine j_baload (pc := 27) d_Reader_readToken_27 hr (fun hr => ?_)
      refine j_bipush (pc := 28) d_Reader_readToken_28 ?_
      refine j_icmp_eq (pc := 30) (tgt := 47) d_Reader_readToken_30 hr (fun hr => ?_) (fun hr => ?_)
      · exact mJ_weak (ls' := [(2, v0), (9, 0), (9, 0), (9, 0), (9, 0)]) (mwk_s (mwk_s (mwk_s (mwk_s (mwk_s mwk_n))))) (t_Reader_readToken_J47 hR8 hr)
      · refine j_aload_n (pc := 33) d_Reader_readToken_33 rfl ?_
        refine j_getf (pc := 34) d_Reader_readToken_34 (fd_Reader_9 rfl) hr (fun hr => ?_)
        refine j_aload_n (pc := 37) d_Reader_readToken_37 rfl ?_
        refine j_getf (pc := 38) d_Reader_readToken_38 (fd_Reader_28 rfl) hr (fun hr => ?_)
        refine j_baload (pc := 41) d_Reader_readToken_41 hr (fun hr => ?_)
        refine j_bipush (pc := 42) d_Reader_readToken_42 ?_
        refine j_icmp_ne (pc := 44) (tgt := 60) d_Reader_readToken_44 hr (fun hr => ?_) (fun hr => ?_)
        · exact mJ_weak (ls' := [(2, v0), (9, 0), (9, 0), (9, 0), (9, 0)]) (mwk_s (mwk_s (mwk_s (mwk_s (mwk_s mwk_n))))) (hK60 h  hr)
        · exact mJ_weak (ls' := [(2, v0), (9, 0), (9, 0), (9, 0), (9, 0)]) (mwk_s (mwk_s (mwk_s (mwk_s (mwk_s mwk_n))))) (t_Reader_readToken_J47 hR8 hr)
theorem t_Reader_readToken_L141 {G : mG} {r : mR} {v0 v1 v2 v3 v4 : Int} {K216 : mH → Option mR} (hK216 : ∀ (h : mH) , K216 h  = some r → mJ G M_Reader_readToken 216 [(2, v0), (0, v1), (0, v2), (9, 0), (9, 0)] [] h r) : ∀ (n : Nat) (h : mH) , f_Reader_readToken_L141 K216 v0 v3 v4 n h  = some r → mJ G M_Reader_readToken 141 [(2, v0), (0, v1), (0, v2), (0, v3), (0, v4)] [] h r := by
  intro n
  induction n with
  | zero =>
    intro h  hr
    rw [f_Reader_readToken_L141] at hr
    cases hr
  | succ n hR141 =>
    intro h  hr
    rw [f_Reader_readToken_L141] at hr
    refine j_aload_n (pc := 141) d_Reader_readToken_141 rfl ?_
    refine j_getf (pc := 142) d_Reader_readToken_142 (fd_Reader_28 rfl) hr (fun hr => ?_)
    refine j_aload_n (pc := 145) d_Reader_readToken_145 rfl ?_
    refine j_getf (pc := 146) d_Reader_readToken_146 (fd_Reader_25 rfl) hr (fun hr => ?_)
    refine j_icmp_ge (pc := 149) (tgt := 216) d_Reader_readToken_149 hr (fun hr => ?_) (fun hr => ?_)
    · exact mJ_weak (ls' := [(2, v0), (0, v1), (0, v2), (9, 0), (9, 0)]) (mwk_s (mwk_s (mwk_s (mwk_d (mwk_d mwk_n))))) (hK216 h  hr)
    · refine j_aload_n (pc := 152) d_Reader_readToken_152 rfl ?_
      refine j_getf (pc := 153) d_Reader_readToken_153 (fd_Reader_9 rfl) hr (fun hr => ?_)
      refine j_aload_n (pc := 156) d_Reader_readToken_156 rfl ?_
      refine j_getf (pc := 157) d_Reader_readToken_157 (fd_Reader_28 rfl) hr (fun hr => ?_)
      refine j_baload (pc := 160) d_Reader_readToken_160 hr (fun hr => ?_)
      refine j_iload_n (pc := 161) d_Reader_readToken_161 rfl ?_
      refine j_icmp_lt (pc := 162) (tgt := 216) d_Reader_readToken_162 hr (fun hr => ?_) (fun hr => ?_)
      · exact mJ_weak (ls' := [(2, v0), (0, v1), (0, v2), (9, 0), (9, 0)]) (mwk_s (mwk_s (mwk_s (mwk_d (mwk_d mwk_n))))) (hK216 h  hr)
      · refine j_aload_n (pc := 165) d_Reader_readToken_165 rfl ?_
        refine j_getf (pc := 166) d_Reader_readToken_166 (fd_Reader_9 rfl) hr (fun hr => ?_)
        refine j_aload_n (pc := 169) d_Reader_readToken_169 rfl ?_
        refine j_getf (pc := 170) d_Reader_readToken_170 (fd_Reader_28 rfl) hr (fun hr => ?_)
        refine j_baload (pc := 173) d_Reader_readToken_173 hr (fun hr => ?_)
        refine j_iload (pc := 174) d_Reader_readToken_174 rfl ?_
        refine j_icmp_gt (pc := 176) (tgt := 216) d_Reader_readToken_176 hr (fun hr => ?_) (fun hr => ?_)
        · exact mJ_weak (ls' := [(2, v0), (0, v1), (0, v2), (9, 0), (9, 0)]) (mwk_s (mwk_s (mwk_s (mwk_d (mwk_d mwk_n))))) (hK216 h  hr)
        · refine j_aload_n (pc := 179) d_Reader_readToken_179 rfl ?_
          refine j_aload_n (pc := 180) d_Reader_readToken_180 rfl ?_
          refine j_getf (pc := 181) d_Reader_readToken_181 (fd_Reader_52 rfl) hr (fun hr => ?_)
          refine j_bipush (pc := 184) d_Reader_readToken_184 ?_
          refine j_imul (pc := 186) d_Reader_readToken_186 ?_
          refine j_aload_n (pc := 187) d_Reader_readToken_187 rfl ?_
          refine j_getf (pc := 188) d_Reader_readToken_188 (fd_Reader_9 rfl) hr (fun hr => ?_)
          refine j_aload_n (pc := 191) d_Reader_readToken_191 rfl ?_
          refine j_getf (pc := 192) d_Reader_readToken_192 (fd_Reader_28 rfl) hr (fun hr => ?_)
          refine j_baload (pc := 195) d_Reader_readToken_195 hr (fun hr => ?_)
          refine j_iadd (pc := 196) d_Reader_readToken_196 ?_
          refine j_bipush (pc := 197) d_Reader_readToken_197 ?_
          refine j_isub (pc := 199) d_Reader_readToken_199 ?_
          refine j_puti (pc := 200) d_Reader_readToken_200 (fd_Reader_52 rfl) (⟨_, _, _, rfl, Or.inl rfl, rfl⟩ : mFldW M_Reader_readToken 52 8 5 .int) hr (fun h1 hr => ?_)
          refine j_aload_n (pc := 203) d_Reader_readToken_203 rfl ?_
          refine j_dup (pc := 204) d_Reader_readToken_204 ?_
          refine j_getf (pc := 205) d_Reader_readToken_205 (fd_Reader_28 rfl) hr (fun hr => ?_)
          refine j_iconst (pc := 208) d_Reader_readToken_208 ?_
          refine j_iadd (pc := 209) d_Reader_readToken_209 ?_
          refine j_puti (pc := 210) d_Reader_readToken_210 (fd_Reader_28 rfl) (⟨_, _, _, rfl, Or.inl rfl, rfl⟩ : mFldW M_Reader_readToken 28 8 2 .int) hr (fun h2 hr => ?_)
          refine j_goto (pc := 213) (tgt := 141) d_Reader_readToken_213 ?_
          exact mJ_weak (ls' := [(2, v0), (0, v1), (0, v2), (0, v3), (0, v4)]) (mwk_s (mwk_s (mwk_s (mwk_s (mwk_s mwk_n))))) (hR141 h2  hr)
theorem t_Reader_readToken_J279 {G : mG} {r : mR} {v0 v1 : Int} {h : mH}  (hr : f_Reader_readToken_J279 v0 v1 h = some r) : mJ G M_Reader_readToken 279 [(2, v0), (0, v1), (9, 0), (9, 0), (9, 0)] [] h r := by
  unfold f_Reader_readToken_J279 at hr
  refine j_iload_n (pc := 279) d_Reader_readToken_279 rfl ?_
  refine j_bipush (pc := 280) d_Reader_readToken_280 ?_
  refine j_icmp_ne (pc := 282) (tgt := 303) d_Reader_readToken_282 hr (fun hr => ?_) (fun hr => ?_)
  · refine j_aload_n (pc := 303) d_Reader_readToken_303 rfl ?_
    refine j_iconst (pc := 304) d_Reader_readToken_304 ?_
    refine j_puti (pc := 305) d_Reader_readToken_305 (fd_Reader_42 rfl) (⟨_, _, _, rfl, Or.inl rfl, rfl⟩ : mFldW M_Reader_readToken 42 8 4 .int) hr (fun h1 hr => ?_)
    refine j_aload_n (pc := 308) d_Reader_readToken_308 rfl ?_
    refine j_iconst (pc := 309) d_Reader_readToken_309 ?_
    refine j_puti (pc := 310) d_Reader_readToken_310 (fd_Reader_31 rfl) (⟨_, _, _, rfl, Or.inl rfl, rfl⟩ : mFldW M_Reader_readToken 31 8 6 .int) hr (fun h2 hr => ?_)
    refine j_aload_n (pc := 313) d_Reader_readToken_313 rfl ?_
    refine j_aload_n (pc := 314) d_Reader_readToken_314 rfl ?_
    refine j_getf (pc := 315) d_Reader_readToken_315 (fd_Reader_49 rfl) hr (fun hr => ?_)
    refine j_puti (pc := 318) d_Reader_readToken_318 (fd_Reader_15 rfl) (⟨_, _, _, rfl, Or.inl rfl, rfl⟩ : mFldW M_Reader_readToken 15 8 7 .int) hr (fun h3 hr => ?_)
    exact j_vret (pc := 321) d_Reader_readToken_321 rfl hr
  · refine j_aload_n (pc := 285) d_Reader_readToken_285 rfl ?_
    refine j_iconst (pc := 286) d_Reader_readToken_286 ?_
    refine j_puti (pc := 287) d_Reader_readToken_287 (fd_Reader_42 rfl) (⟨_, _, _, rfl, Or.inl rfl, rfl⟩ : mFldW M_Reader_readToken 42 8 4 .int) hr (fun h4 hr => ?_)
    refine j_aload_n (pc := 290) d_Reader_readToken_290 rfl ?_
    refine j_dup (pc := 291) d_Reader_readToken_291 ?_
    refine j_getf (pc := 292) d_Reader_readToken_292 (fd_Reader_28 rfl) hr (fun hr => ?_)
    refine j_iconst (pc := 295) d_Reader_readToken_295 ?_
    refine j_iadd (pc := 296) d_Reader_readToken_296 ?_
    refine j_puti (pc := 297) d_Reader_readToken_297 (fd_Reader_28 rfl) (⟨_, _, _, rfl, Or.inl rfl, rfl⟩ : mFldW M_Reader_readToken 28 8 2 .int) hr (fun h5 hr => ?_)
    refine j_goto (pc := 300) (tgt := 321) d_Reader_readToken_300 ?_
    exact j_vret (pc := 321) d_Reader_readToken_321 rfl hr
theorem t_Reader_readToken_J216 {G : mG} {r : mR} {v0 v1 v2 : Int} {h : mH}  (hr : f_Reader_readToken_J216 v0 v1 v2 h = some r) : mJ G M_Reader_readToken 216 [(2, v0), (0, v1), (0, v2), (9, 0), (9, 0)] [] h r := by
  unfold f_Reader_readToken_J216 at hr
  refine j_aload_n (pc := 216) d_Reader_readToken_216 rfl ?_
  refine j_getf (pc := 217) d_Reader_readToken_217 (fd_Reader_49 rfl) hr (fun hr => ?_)
  refine j_aload_n (pc := 220) d_Reader_readToken_220 rfl ?_
  refine j_getf (pc := 221) d_Reader_readToken_221 (fd_Reader_25 rfl) hr (fun hr => ?_)
  refine j_icmp_lt (pc := 224) (tgt := 235) d_Reader_readToken_224 hr (fun hr => ?_) (fun hr => ?_)
  · refine j_iload_n (pc := 235) d_Reader_readToken_235 rfl ?_
    refine j_if_eq (pc := 236) (tgt := 247) d_Reader_readToken_236 hr (fun hr => ?_) (fun hr => ?_)
    · refine j_aload_n (pc := 247) d_Reader_readToken_247 rfl ?_
      refine j_getf (pc := 248) d_Reader_readToken_248 (fd_Reader_28 rfl) hr (fun hr => ?_)
      refine j_aload_n (pc := 251) d_Reader_readToken_251 rfl ?_
      refine j_getf (pc := 252) d_Reader_readToken_252 (fd_Reader_49 rfl) hr (fun hr => ?_)
      refine j_icmp_le (pc := 255) (tgt := 279) d_Reader_readToken_255 hr (fun hr => ?_) (fun hr => ?_)
      · exact mJ_weak (ls' := [(2, v0), (0, v1), (9, 0), (9, 0), (9, 0)]) (mwk_s (mwk_s (mwk_d (mwk_s (mwk_s mwk_n))))) (t_Reader_readToken_J279  hr)
      · refine j_aload_n (pc := 258) d_Reader_readToken_258 rfl ?_
        refine j_getf (pc := 259) d_Reader_readToken_259 (fd_Reader_28 rfl) hr (fun hr => ?_)
        refine j_aload_n (pc := 262) d_Reader_readToken_262 rfl ?_
        refine j_getf (pc := 263) d_Reader_readToken_263 (fd_Reader_49 rfl) hr (fun hr => ?_)
        refine j_isub (pc := 266) d_Reader_readToken_266 ?_
        refine j_iconst (pc := 267) d_Reader_readToken_267 ?_
        refine j_icmp_gt (pc := 268) (tgt := 279) d_Reader_readToken_268 hr (fun hr => ?_) (fun hr => ?_)
        · exact mJ_weak (ls' := [(2, v0), (0, v1), (9, 0), (9, 0), (9, 0)]) (mwk_s (mwk_s (mwk_d (mwk_s (mwk_s mwk_n))))) (t_Reader_readToken_J279  hr)
        · refine j_aload_n (pc := 271) d_Reader_readToken_271 rfl ?_
          refine j_iconst (pc := 272) d_Reader_readToken_272 ?_
          refine j_puti (pc := 273) d_Reader_readToken_273 (fd_Reader_42 rfl) (⟨_, _, _, rfl, Or.inl rfl, rfl⟩ : mFldW M_Reader_readToken 42 8 4 .int) hr (fun h1 hr => ?_)
          refine j_goto (pc := 276) (tgt := 321) d_Reader_readToken_276 ?_
          exact j_vret (pc := 321) d_Reader_readToken_321 rfl hr
    · refine j_aload_n (pc := 239) d_Reader_readToken_239 rfl ?_
      refine j_iconst (pc := 240) d_Reader_readToken_240 ?_
      refine j_puti (pc := 241) d_Reader_readToken_241 (fd_Reader_42 rfl) (⟨_, _, _, rfl, Or.inl rfl, rfl⟩ : mFldW M_Reader_readToken 42 8 4 .int) hr (fun h2 hr => ?_)
      refine j_goto (pc := 244) (tgt := 321) d_Reader_readToken_244 ?_
      exact j_vret (pc := 321) d_Reader_readToken_321 rfl hr
  · refine j_aload_n (pc := 227) d_Reader_readToken_227 rfl ?_
    refine j_iconst (pc := 228) d_Reader_readToken_228 ?_
    refine j_puti (pc := 229) d_Reader_readToken_229 (fd_Reader_42 rfl) (⟨_, _, _, rfl, Or.inl rfl, rfl⟩ : mFldW M_Reader_readToken 42 8 4 .int) hr (fun h3 hr => ?_)
    refine j_goto (pc := 232) (tgt := 321) d_Reader_readToken_232 ?_
    exact j_vret (pc := 321) d_Reader_readToken_321 rfl hr
theorem t_Reader_readToken_J139 {G : mG} {r : mR} {v0 v1 v2 v3 s0 : Int} {h : mH}  (hr : f_Reader_readToken_J139 v0 v1 v2 v3 s0 h = some r) : mJ G M_Reader_readToken 139 [(2, v0), (0, v1), (0, v2), (0, v3), (9, 0)] [(0, s0)] h r := by
  unfold f_Reader_readToken_J139 at hr
  refine j_istore (pc := 139) (ls' := [(2, v0), (0, v1), (0, v2), (0, v3), (0, s0)]) d_Reader_readToken_139 rfl ?_
  refine mJ_weak (ls' := [(2, v0), (0, v1), (0, v2), (0, v3), (0, s0)]) (mwk_s (mwk_s (mwk_s (mwk_s (mwk_s mwk_n))))) (t_Reader_readToken_L141 (fun h1  hr => ?_) _ _  hr)
  · exact mJ_weak (ls' := [(2, v0), (0, v1), (0, v2), (9, 0), (9, 0)]) (mwk_s (mwk_s (mwk_s (mwk_s (mwk_s mwk_n))))) (t_Reader_readToken_J216  hr)
theorem t_Reader_readToken_J127 {G : mG} {r : mR} {v0 v1 v2 s0 : Int} {h : mH}  (hr : f_Reader_readToken_J127 v0 v1 v2 s0 h = some r) : mJ G M_Reader_readToken 127 [(2, v0), (0, v1), (0, v2), (9, 0), (9, 0)] [(0, s0)] h r := by
  unfold f_Reader_readToken_J127 at hr
  refine j_istore_n (pc := 127) (ls' := [(2, v0), (0, v1), (0, v2), (0, s0), (9, 0)]) d_Reader_readToken_127 rfl ?_
  refine j_iload_n (pc := 128) d_Reader_readToken_128 rfl ?_
  refine j_if_eq (pc := 129) (tgt := 137) d_Reader_readToken_129 hr (fun hr => ?_) (fun hr => ?_)
  · refine j_bipush (pc := 137) d_Reader_readToken_137 ?_
    exact mJ_weak (ls' := [(2, v0), (0, v1), (0, v2), (0, s0), (9, 0)]) (mwk_s (mwk_s (mwk_s (mwk_s (mwk_s mwk_n))))) (t_Reader_readToken_J139  hr)
  · refine j_bipush (pc := 132) d_Reader_readToken_132 ?_
    refine j_goto (pc := 134) (tgt := 139) d_Reader_readToken_134 ?_
    exact mJ_weak (ls' := [(2, v0), (0, v1), (0, v2), (0, s0), (9, 0)]) (mwk_s (mwk_s (mwk_s (mwk_s (mwk_s mwk_n))))) (t_Reader_readToken_J139  hr)
theorem t_Reader_readToken_J115 {G : mG} {r : mR} {v0 v1 s0 : Int} {h : mH}  (hr : f_Reader_readToken_J115 v0 v1 s0 h = some r) : mJ G M_Reader_readToken 115 [(2, v0), (0, v1), (9, 0), (9, 0), (9, 0)] [(0, s0)] h r := by
  unfold f_Reader_readToken_J115 at hr
  refine j_istore_n (pc := 115) (ls' := [(2, v0), (0, v1), (0, s0), (9, 0), (9, 0)]) d_Reader_readToken_115 rfl ?_
  refine j_iload_n (pc := 116) d_Reader_readToken_116 rfl ?_
  refine j_if_eq (pc := 117) (tgt := 125) d_Reader_readToken_117 hr (fun hr => ?_) (fun hr => ?_)
  · refine j_bipush (pc := 125) d_Reader_readToken_125 ?_
    exact mJ_weak (ls' := [(2, v0), (0, v1), (0, s0), (9, 0), (9, 0)]) (mwk_s (mwk_s (mwk_s (mwk_s (mwk_s mwk_n))))) (t_Reader_readToken_J127  hr)
  · refine j_bipush (pc := 120) d_Reader_readToken_120 ?_
    refine j_goto (pc := 122) (tgt := 127) d_Reader_readToken_122 ?_
    exact mJ_weak (ls' := [(2, v0), (0, v1), (0, s0), (9, 0), (9, 0)]) (mwk_s (mwk_s (mwk_s (mwk_s (mwk_s mwk_n))))) (t_Reader_readToken_J127  hr)
theorem t_Reader_readToken_J114 {G : mG} {r : mR} {v0 v1 : Int} {h : mH}  (hr : f_Reader_readToken_J114 v0 v1 h = some r) : mJ G M_Reader_readToken 114 [(2, v0), (0, v1), (9, 0), (9, 0), (9, 0)] [] h r := by
  unfold f_Reader_readToken_J114 at hr
  refine j_iconst (pc := 114) d_Reader_readToken_114 ?_
  exact mJ_weak (ls' := [(2, v0), (0, v1), (9, 0), (9, 0), (9, 0)]) (mwk_s (mwk_s (mwk_s (mwk_s (mwk_s mwk_n))))) (t_Reader_readToken_J115  hr)
theorem t_Reader_readToken_J97 {G : mG} {r : mR} {v0 s0 : Int} {h : mH}  (hr : f_Reader_readToken_J97 v0 s0 h = some r) : mJ G M_Reader_readToken 97 [(2, v0), (9, 0), (9, 0), (9, 0), (9, 0)] [(0, s0)] h r := by
  unfold f_Reader_readToken_J97 at hr
  refine j_istore_n (pc := 97) (ls' := [(2, v0), (0, s0), (9, 0), (9, 0), (9, 0)]) d_Reader_readToken_97 rfl ?_
  refine j_iload_n (pc := 98) d_Reader_readToken_98 rfl ?_
  refine j_bipush (pc := 99) d_Reader_readToken_99 ?_
  refine j_icmp_lt (pc := 101) (tgt := 114) d_Reader_readToken_101 hr (fun hr => ?_) (fun hr => ?_)
  · exact mJ_weak (ls' := [(2, v0), (0, s0), (9, 0), (9, 0), (9, 0)]) (mwk_s (mwk_s (mwk_s (mwk_s (mwk_s mwk_n))))) (t_Reader_readToken_J114  hr)
  · refine j_iload_n (pc := 104) d_Reader_readToken_104 rfl ?_
    refine j_bipush (pc := 105) d_Reader_readToken_105 ?_
    refine j_icmp_gt (pc := 107) (tgt := 114) d_Reader_readToken_107 hr (fun hr => ?_) (fun hr => ?_)
    · exact mJ_weak (ls' := [(2, v0), (0, s0), (9, 0), (9, 0), (9, 0)]) (mwk_s (mwk_s (mwk_s (mwk_s (mwk_s mwk_n))))) (t_Reader_readToken_J114  hr)
    · refine j_iconst (pc := 110) d_Reader_readToken_110 ?_
      refine j_goto (pc := 111) (tgt := 115) d_Reader_readToken_111 ?_
      exact mJ_weak (ls' := [(2, v0), (0, s0), (9, 0), (9, 0), (9, 0)]) (mwk_s (mwk_s (mwk_s (mwk_s (mwk_s mwk_n))))) (t_Reader_readToken_J115  hr)
theorem t_Reader_readToken_J60 {G : mG} {r : mR} {v0 : Int} {h : mH}  (hr : f_Reader_readToken_J60 v0 h = some r) : mJ G M_Reader_readToken 60 [(2, v0), (9, 0), (9, 0), (9, 0), (9, 0)] [] h r := by
  unfold f_Reader_readToken_J60 at hr
  refine j_aload_n (pc := 60) d_Reader_readToken_60 rfl ?_
  refine j_aload_n (pc := 61) d_Reader_readToken_61 rfl ?_
  refine j_getf (pc := 62) d_Reader_readToken_62 (fd_Reader_28 rfl) hr (fun hr => ?_)
  refine j_puti (pc := 65) d_Reader_readToken_65 (fd_Reader_49 rfl) (⟨_, _, _, rfl, Or.inl rfl, rfl⟩ : mFldW M_Reader_readToken 49 8 3 .int) hr (fun h1 hr => ?_)
  refine j_aload_n (pc := 68) d_Reader_readToken_68 rfl ?_
  refine j_iconst (pc := 69) d_Reader_readToken_69 ?_
  refine j_puti (pc := 70) d_Reader_readToken_70 (fd_Reader_52 rfl) (⟨_, _, _, rfl, Or.inl rfl, rfl⟩ : mFldW M_Reader_readToken 52 8 5 .int) hr (fun h2 hr => ?_)
  refine j_aload_n (pc := 73) d_Reader_readToken_73 rfl ?_
  refine j_getf (pc := 74) d_Reader_readToken_74 (fd_Reader_28 rfl) hr (fun hr => ?_)
  refine j_aload_n (pc := 77) d_Reader_readToken_77 rfl ?_
  refine j_getf (pc := 78) d_Reader_readToken_78 (fd_Reader_25 rfl) hr (fun hr => ?_)
  refine j_icmp_ge (pc := 81) (tgt := 96) d_Reader_readToken_81 hr (fun hr => ?_) (fun hr => ?_)
  · refine j_iconst (pc := 96) d_Reader_readToken_96 ?_
    exact mJ_weak (ls' := [(2, v0), (9, 0), (9, 0), (9, 0), (9, 0)]) (mwk_s (mwk_s (mwk_s (mwk_s (mwk_s mwk_n))))) (t_Reader_readToken_J97  hr)
  · refine j_aload_n (pc := 84) d_Reader_readToken_84 rfl ?_
    refine j_getf (pc := 85) d_Reader_readToken_85 (fd_Reader_9 rfl) hr (fun hr => ?_)
    refine j_aload_n (pc := 88) d_Reader_readToken_88 rfl ?_
    refine j_getf (pc := 89) d_Reader_readToken_89 (fd_Reader_28 rfl) hr (fun hr => ?_)
    refine j_baload (pc := 92) d_Reader_readToken_92 hr (fun hr => ?_)
    refine j_goto (pc := 93) (tgt := 97) d_Reader_readToken_93 ?_
    exact mJ_weak (ls' := [(2, v0), (9, 0), (9, 0), (9, 0), (9, 0)]) (mwk_s (mwk_s (mwk_s (mwk_s (mwk_s mwk_n))))) (t_Reader_readToken_J97  hr)
theorem t_Reader_readToken {G : mG} (h : mH) (v0 : Int) (r : mR) (hr : f_Reader_readToken h v0 = some r) : mJM G M_Reader_readToken [(2, v0)] h r := by
  refine mJM_of (L := [(2, v0), (9, 0), (9, 0), (9, 0), (9, 0)]) rfl rfl rfl (Nat.le_of_ble_eq_true rfl) ?_
  unfold f_Reader_readToken at hr
  refine j_aload_n (pc := 0) d_Reader_readToken_0 rfl ?_
  refine j_getf (pc := 1) d_Reader_readToken_1 (fd_Reader_31 rfl) hr (fun hr => ?_)
  refine j_if_eq (pc := 4) (tgt := 8) d_Reader_readToken_4 hr (fun hr => ?_) (fun hr => ?_)
  · refine mJ_weak (ls' := [(2, v0), (9, 0), (9, 0), (9, 0), (9, 0)]) (mwk_s (mwk_s (mwk_s (mwk_s (mwk_s mwk_n))))) (t_Reader_readToken_L8 (fun h1  hr => ?_) _ _  hr)
    · exact mJ_weak (ls' := [(2, v0), (9, 0), (9, 0), (9, 0), (9, 0)]) (mwk_s (mwk_s (mwk_s (mwk_s (mwk_s mwk_n))))) (t_Reader_readToken_J60  hr)
  · exact j_vret (pc := 7) d_Reader_readToken_7 rfl hr
