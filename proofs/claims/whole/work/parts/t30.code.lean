def M_Md_thrown : mM := ("NineBarsModel", ⟨"NineBarsModel", "thrown", "()I"⟩, prog_13_method_2_code, 1, some .int, [], 1)
theorem tb_co_Md_thrown : mTB (Cond.code ⟨"NineBarsModel", "thrown", "()I"⟩ prog_13_method_2_code 1 (some .int)) := tbq7 92 (by decide +kernel) rfl
theorem mc_Md_thrown {M : mM} (hd : 1 < mDp M) : mCal M M_Md_thrown 0 := ⟨tb_co_Md_thrown, tb_in_NineBarsModel, ⟨by decide +kernel, by decide +kernel⟩, by decide +kernel, hd, by decide⟩
theorem d_Md_thrown_0 : decode prog_13_method_2_code 0 = .ok (.aload_n 0, 1) := by decide +kernel
theorem tb_fl_Md_86 : mTB (Cond.fieldLink "NineBarsModel" 86 "NineBarsModel" "thrown" "I") := tbq6 212 (by decide +kernel) rfl
theorem fd_Md_86 {M : mM} (h : mO M = "NineBarsModel") : mFld M 86 11 5 0 := ⟨_, _, _, tyX11, rfl, by decide, by decide, rfl, uw_11, tyX11_ok, nmX11, by rw [h]; exact Or.inl tb_fl_Md_86⟩
theorem d_Md_thrown_1 : decode prog_13_method_2_code 1 = .ok (.getfield 86, 3) := by decide +kernel
theorem d_Md_thrown_4 : decode prog_13_method_2_code 4 = .ok (.ireturn, 1) := by decide +kernel
theorem t_Md_thrown {G : mG} (h : mH) (v0 : Int) (r : mR) (hr : f_Md_thrown h v0 = some r) : mJM G M_Md_thrown [(2, v0)] h r := by
  refine mJM_of (L := [(2, v0)]) rfl rfl rfl (Nat.le_of_ble_eq_true rfl) ?_
  unfold f_Md_thrown at hr
  refine j_aload_n (pc := 0) d_Md_thrown_0 rfl ?_
  refine j_getf (pc := 1) d_Md_thrown_1 (fd_Md_86 rfl) hr (fun hr => ?_)
  exact j_iret (pc := 4) d_Md_thrown_4 rfl hr
def M_Md_fails : mM := ("NineBarsModel", ⟨"NineBarsModel", "fails", "(I)I"⟩, prog_13_method_3_code, 2, some .int, [], 1)
theorem tb_co_Md_fails : mTB (Cond.code ⟨"NineBarsModel", "fails", "(I)I"⟩ prog_13_method_3_code 2 (some .int)) := tbq7 107 (by decide +kernel) rfl
theorem mc_Md_fails {M : mM} (hd : 1 < mDp M) : mCal M M_Md_fails 1 := ⟨tb_co_Md_fails, tb_in_NineBarsModel, ⟨by decide +kernel, by decide +kernel⟩, by decide +kernel, hd, by decide⟩
theorem d_Md_fails_0 : decode prog_13_method_3_code 0 = .ok (.aload_n 0, 1) := by decide +kernel
theorem d_Md_fails_1 : decode prog_13_method_3_code 1 = .ok (.iload_n 1, 1) := by decide +kernel
theorem d_Md_fails_2 : decode prog_13_method_3_code 2 = .ok (.putfield 86, 3) := by decide +kernel
theorem d_Md_fails_5 : decode prog_13_method_3_code 5 = .ok (.iconst 0, 1) := by decide +kernel
theorem d_Md_fails_6 : decode prog_13_method_3_code 6 = .ok (.ireturn, 1) := by decide +kernel
theorem t_Md_fails {G : mG} (h : mH) (v0 v1 : Int) (r : mR) (hr : f_Md_fails h v0 v1 = some r) : mJM G M_Md_fails [(2, v0), (0, v1)] h r := by
  refine mJM_of (L := [(2, v0), (0, v1)]) rfl rfl rfl (Nat.le_of_ble_eq_true rfl) ?_
  unfold f_Md_fails at hr
  refine j_aload_n (pc := 0) d_Md_fails_0 rfl ?_
  refine j_iload_n (pc := 1) d_Md_fails_1 rfl ?_
  refine j_puti (pc := 2) d_Md_fails_2 (fd_Md_86 rfl) (⟨_, _, _, rfl, Or.inl rfl, rfl⟩ : mFldW M_Md_fails 86 11 5 .int) hr (fun h1 hr => ?_)
  refine j_iconst (pc := 5) d_Md_fails_5 ?_
  exact j_iret (pc := 6) d_Md_fails_6 rfl hr
def M_Md_amid : mM := ("NineBarsModel", ⟨"NineBarsModel", "amid", "(JJJ)Z"⟩, prog_13_method_4_code, 6, some .boolean, [], 1)
theorem tb_co_Md_amid : mTB (Cond.code ⟨"NineBarsModel", "amid", "(JJJ)Z"⟩ prog_13_method_4_code 6 (some .boolean)) := tbq7 103 (by decide +kernel) rfl
theorem mc_Md_amid {M : mM} (hd : 1 < mDp M) : mCal M M_Md_amid 3 := ⟨tb_co_Md_amid, tb_in_NineBarsModel, ⟨by decide +kernel, by decide +kernel⟩, by decide +kernel, hd, by decide⟩
theorem d_Md_amid_0 : decode prog_13_method_4_code 0 = .ok (.lload_n 0, 1) := by decide +kernel
theorem d_Md_amid_1 : decode prog_13_method_4_code 1 = .ok (.lload_n 2, 1) := by decide +kernel
theorem d_Md_amid_2 : decode prog_13_method_4_code 2 = .ok (.lcmp, 1) := by decide +kernel
theorem d_Md_amid_3 : decode prog_13_method_4_code 3 = .ok (.ifCond .lt 14, 3) := by decide +kernel
theorem d_Md_amid_17 : decode prog_13_method_4_code 17 = .ok (.iconst 0, 1) := by decide +kernel
theorem d_Md_amid_18 : decode prog_13_method_4_code 18 = .ok (.ireturn, 1) := by decide +kernel
theorem d_Md_amid_6 : decode prog_13_method_4_code 6 = .ok (.lload_n 0, 1) := by decide +kernel
theorem d_Md_amid_7 : decode prog_13_method_4_code 7 = .ok (.lload 4, 2) := by decide +kernel
theorem d_Md_amid_9 : decode prog_13_method_4_code 9 = .ok (.lcmp, 1) := by decide +kernel
theorem d_Md_amid_10 : decode prog_13_method_4_code 10 = .ok (.ifCond .gt 7, 3) := by decide +kernel
theorem d_Md_amid_13 : decode prog_13_method_4_code 13 = .ok (.iconst 1, 1) := by decide +kernel
theorem d_Md_amid_14 : decode prog_13_method_4_code 14 = .ok (.goto 4, 3) := by decide +kernel
theorem t_Md_amid_J17 {G : mG} {r : mR} {h : mH}  (hr : f_Md_amid_J17 h = some r) : mJ G M_Md_amid 17 [(9, 0), (9, 0), (9, 0), (9, 0), (9, 0), (9, 0)] [] h r := by
  unfold f_Md_amid_J17 at hr
  refine j_iconst (pc := 17) d_Md_amid_17 ?_
  exact j_zret (pc := 18) d_Md_amid_18 rfl hr
theorem t_Md_amid {G : mG} (h : mH) (v0 v2 v4 : Int) (r : mR) (hr : f_Md_amid h v0 v2 v4 = some r) : mJM G M_Md_amid [(1, v0), (1, v2), (1, v4)] h r := by
  refine mJM_of (L := [(1, v0), (9, 0), (1, v2), (9, 0), (1, v4), (9, 0)]) rfl rfl rfl (Nat.le_of_ble_eq_true rfl) ?_
  unfold f_Md_amid at hr
  refine j_lload_n (pc := 0) d_Md_amid_0 rfl ?_
  refine j_lload_n (pc := 1) d_Md_amid_1 rfl ?_
  refine j_lcmp (pc := 2) d_Md_amid_2 ?_
  refine j_if_lt (pc := 3) (tgt := 17) d_Md_amid_3 hr (fun hr => ?_) (fun hr => ?_)
  · exact mJ_weak (ls' := [(9, 0), (9, 0), (9, 0), (9, 0), (9, 0), (9, 0)]) (mwk_d (mwk_s (mwk_d (mwk_s (mwk_d (mwk_s mwk_n)))))) (t_Md_amid_J17  hr)
  · refine j_lload_n (pc := 6) d_Md_amid_6 rfl ?_
    refine j_lload (pc := 7) d_Md_amid_7 rfl ?_
    refine j_lcmp (pc := 9) d_Md_amid_9 ?_
    refine j_if_gt (pc := 10) (tgt := 17) d_Md_amid_10 hr (fun hr => ?_) (fun hr => ?_)
    · exact mJ_weak (ls' := [(9, 0), (9, 0), (9, 0), (9, 0), (9, 0), (9, 0)]) (mwk_d (mwk_s (mwk_d (mwk_s (mwk_d (mwk_s mwk_n)))))) (t_Md_amid_J17  hr)
    · refine j_iconst (pc := 13) d_Md_amid_13 ?_
      refine j_goto (pc := 14) (tgt := 18) d_Md_amid_14 ?_
      exact j_zret (pc := 18) d_Md_amid_18 rfl hr
def M_Md_copies : mM := ("NineBarsModel", ⟨"NineBarsModel", "copies", "([I[I)V"⟩, prog_13_method_5_code, 3, none, [], 1)
theorem tb_co_Md_copies : mTB (Cond.code ⟨"NineBarsModel", "copies", "([I[I)V"⟩ prog_13_method_5_code 3 (none)) := tbq7 184 (by decide +kernel) rfl
theorem mc_Md_copies {M : mM} (hd : 1 < mDp M) : mCal M M_Md_copies 2 := ⟨tb_co_Md_copies, tb_in_NineBarsModel, ⟨by decide +kernel, by decide +kernel⟩, by decide +kernel, hd, by decide⟩
theorem d_Md_copies_0 : decode prog_13_method_5_code 0 = .ok (.iconst 0, 1) := by decide +kernel
theorem d_Md_copies_1 : decode prog_13_method_5_code 1 = .ok (.istore_n 2, 1) := by decide +kernel
theorem d_Md_copies_2 : decode prog_13_method_5_code 2 = .ok (.iload_n 2, 1) := by decide +kernel
theorem d_Md_copies_3 : decode prog_13_method_5_code 3 = .ok (.sipush 434, 3) := by decide +kernel
theorem d_Md_copies_6 : decode prog_13_method_5_code 6 = .ok (.if_icmp .ge 15, 3) := by decide +kernel
theorem d_Md_copies_21 : decode prog_13_method_5_code 21 = .ok (.return_, 1) := by decide +kernel
theorem d_Md_copies_9 : decode prog_13_method_5_code 9 = .ok (.aload_n 1, 1) := by decide +kernel
theorem d_Md_copies_10 : decode prog_13_method_5_code 10 = .ok (.iload_n 2, 1) := by decide +kernel
theorem d_Md_copies_11 : decode prog_13_method_5_code 11 = .ok (.aload_n 0, 1) := by decide +kernel
theorem d_Md_copies_12 : decode prog_13_method_5_code 12 = .ok (.iload_n 2, 1) := by decide +kernel
theorem d_Md_copies_13 : decode prog_13_method_5_code 13 = .ok (.iaload, 1) := by decide +kernel
theorem d_Md_copies_14 : decode prog_13_method_5_code 14 = .ok (.iastore, 1) := by decide +kernel
theorem d_Md_copies_15 : decode prog_13_method_5_code 15 = .ok (.iinc 2 1, 3) := by decide +kernel
theorem d_Md_copies_18 : decode prog_13_method_5_code 18 = .ok (.goto (-16), 3) := by decide +kernel
theorem t_Md_copies_L2 {G : mG} {r : mR} {v0 v1 : Int}  : ∀ (n : Nat) (h : mH) (v2 : Int), f_Md_copies_L2 v0 v1 n h v2 = some r → mJ G M_Md_copies 2 [(2, v0), (2, v1), (0, v2)] [] h r := by
  intro n
  induction n with
  | zero =>
    intro h v2 hr
    rw [f_Md_copies_L2] at hr
    cases hr
  | succ n hR2 =>
    intro h v2 hr
    rw [f_Md_copies_L2] at hr
    refine j_iload_n (pc := 2) d_Md_copies_2 rfl ?_
    refine j_sipush (pc := 3) d_Md_copies_3 ?_
    refine j_icmp_ge (pc := 6) (tgt := 21) d_Md_copies_6 hr (fun hr => ?_) (fun hr => ?_)
    · exact j_vret (pc := 21) d_Md_copies_21 rfl hr
    · refine j_aload_n (pc := 9) d_Md_copies_9 rfl ?_
      refine j_iload_n (pc := 10) d_Md_copies_10 rfl ?_
      refine j_aload_n (pc := 11) d_Md_copies_11 rfl ?_
      refine j_iload_n (pc := 12) d_Md_copies_12 rfl ?_
      refine j_iaload (pc := 13) d_Md_copies_13 hr (fun hr => ?_)
      refine j_iastore (pc := 14) d_Md_copies_14 hr (fun h1 hr => ?_)
      refine j_iincW (pc := 15) (L := fun x2 => [(2, v0), (2, v1), (0, x2)]) d_Md_copies_15 rfl (fun _ => rfl) hr (fun x2 hr => ?_)
      refine j_goto (pc := 18) (tgt := 2) d_Md_copies_18 ?_
      exact mJ_weak (ls' := [(2, v0), (2, v1), (0, x2)]) (mwk_s (mwk_s (mwk_s mwk_n))) (hR2 h1 _ hr)
theorem t_Md_copies {G : mG} (h : mH) (v0 v1 : Int) (r : mR) (hr : f_Md_copies h v0 v1 = some r) : mJM G M_Md_copies [(2, v0), (2, v1)] h r := by
  refine mJM_of (L := [(2, v0), (2, v1), (9, 0)]) rfl rfl rfl (Nat.le_of_ble_eq_true rfl) ?_
  unfold f_Md_copies at hr
  refine j_iconst (pc := 0) d_Md_copies_0 ?_
  refine j_istore_n (pc := 1) (ls' := [(2, v0), (2, v1), (0, 0)]) d_Md_copies_1 rfl ?_
  refine mJ_weak (ls' := [(2, v0), (2, v1), (0, 0)]) (mwk_s (mwk_s (mwk_s mwk_n))) (t_Md_copies_L2  _ _ _ hr)
def M_Md_feed : mM := ("NineBarsModel", ⟨"NineBarsModel", "feed", "(IIIII)I"⟩, prog_13_method_6_code, 8, some .int, [], 1)
theorem tb_co_Md_feed : mTB (Cond.code ⟨"NineBarsModel", "feed", "(IIIII)I"⟩ prog_13_method_6_code 8 (some .int)) := tbq7 96 (by decide +kernel) rfl
theorem mc_Md_feed {M : mM} (hd : 1 < mDp M) : mCal M M_Md_feed 5 := ⟨tb_co_Md_feed, tb_in_NineBarsModel, ⟨by decide +kernel, by decide +kernel⟩, by decide +kernel, hd, by decide⟩
theorem d_Md_feed_0 : decode prog_13_method_6_code 0 = .ok (.aload_n 0, 1) := by decide +kernel
theorem d_Md_feed_1 : decode prog_13_method_6_code 1 = .ok (.iconst 0, 1) := by decide +kernel
theorem d_Md_feed_2 : decode prog_13_method_6_code 2 = .ok (.putfield 86, 3) := by decide +kernel
theorem d_Md_feed_5 : decode prog_13_method_6_code 5 = .ok (.aload_n 0, 1) := by decide +kernel
theorem tb_fl_Md_89 : mTB (Cond.fieldLink "NineBarsModel" 89 "NineBarsModel" "taped" "I") := tbq6 214 (by decide +kernel) rfl
theorem fd_Md_89 {M : mM} (h : mO M = "NineBarsModel") : mFld M 89 11 7 0 := ⟨_, _, _, tyX11, rfl, by decide, by decide, rfl, uw_11, tyX11_ok, nmX11, by rw [h]; exact Or.inl tb_fl_Md_89⟩
theorem d_Md_feed_6 : decode prog_13_method_6_code 6 = .ok (.getfield 89, 3) := by decide +kernel
theorem d_Md_feed_9 : decode prog_13_method_6_code 9 = .ok (.bipush 20, 2) := by decide +kernel
theorem d_Md_feed_11 : decode prog_13_method_6_code 11 = .ok (.iadd, 1) := by decide +kernel
theorem d_Md_feed_12 : decode prog_13_method_6_code 12 = .ok (.sipush 900, 3) := by decide +kernel
theorem d_Md_feed_15 : decode prog_13_method_6_code 15 = .ok (.if_icmp .le 5, 3) := by decide +kernel
theorem d_Md_feed_20 : decode prog_13_method_6_code 20 = .ok (.iconst 0, 1) := by decide +kernel
theorem d_Md_feed_21 : decode prog_13_method_6_code 21 = .ok (.istore 6, 2) := by decide +kernel
theorem d_Md_feed_23 : decode prog_13_method_6_code 23 = .ok (.iload 6, 2) := by decide +kernel
theorem d_Md_feed_25 : decode prog_13_method_6_code 25 = .ok (.bipush 20, 2) := by decide +kernel
theorem d_Md_feed_27 : decode prog_13_method_6_code 27 = .ok (.if_icmp .ge 93, 3) := by decide +kernel
theorem d_Md_feed_120 : decode prog_13_method_6_code 120 = .ok (.aload_n 0, 1) := by decide +kernel
theorem d_Md_feed_121 : decode prog_13_method_6_code 121 = .ok (.getfield 89, 3) := by decide +kernel
theorem d_Md_feed_124 : decode prog_13_method_6_code 124 = .ok (.ireturn, 1) := by decide +kernel
theorem d_Md_feed_30 : decode prog_13_method_6_code 30 = .ok (.iload 6, 2) := by decide +kernel
theorem d_Md_feed_32 : decode prog_13_method_6_code 32 = .ok (.iconst 4, 1) := by decide +kernel
theorem d_Md_feed_33 : decode prog_13_method_6_code 33 = .ok (.if_icmp .ge 7, 3) := by decide +kernel
theorem d_Md_feed_40 : decode prog_13_method_6_code 40 = .ok (.iload 6, 2) := by decide +kernel
theorem d_Md_feed_42 : decode prog_13_method_6_code 42 = .ok (.bipush 8, 2) := by decide +kernel
theorem d_Md_feed_44 : decode prog_13_method_6_code 44 = .ok (.if_icmp .ge 7, 3) := by decide +kernel
theorem d_Md_feed_51 : decode prog_13_method_6_code 51 = .ok (.iload 6, 2) := by decide +kernel
theorem d_Md_feed_53 : decode prog_13_method_6_code 53 = .ok (.bipush 12, 2) := by decide +kernel
theorem d_Md_feed_55 : decode prog_13_method_6_code 55 = .ok (.if_icmp .ge 7, 3) := by decide +kernel
theorem d_Md_feed_62 : decode prog_13_method_6_code 62 = .ok (.iload 6, 2) := by decide +kernel
theorem d_Md_feed_64 : decode prog_13_method_6_code 64 = .ok (.bipush 16, 2) := by decide +kernel
theorem d_Md_feed_66 : decode prog_13_method_6_code 66 = .ok (.if_icmp .ge 8, 3) := by decide +kernel
theorem d_Md_feed_74 : decode prog_13_method_6_code 74 = .ok (.iload 5, 2) := by decide +kernel
theorem d_Md_feed_76 : decode prog_13_method_6_code 76 = .ok (.istore 7, 2) := by decide +kernel
theorem d_Md_feed_78 : decode prog_13_method_6_code 78 = .ok (.aload_n 0, 1) := by decide +kernel
theorem d_Md_feed_79 : decode prog_13_method_6_code 79 = .ok (.getfield 26, 3) := by decide +kernel
theorem d_Md_feed_82 : decode prog_13_method_6_code 82 = .ok (.aload_n 0, 1) := by decide +kernel
theorem d_Md_feed_83 : decode prog_13_method_6_code 83 = .ok (.getfield 89, 3) := by decide +kernel
theorem d_Md_feed_86 : decode prog_13_method_6_code 86 = .ok (.iload 7, 2) := by decide +kernel
theorem d_Md_feed_88 : decode prog_13_method_6_code 88 = .ok (.bipush 24, 2) := by decide +kernel
theorem d_Md_feed_90 : decode prog_13_method_6_code 90 = .ok (.bipush 8, 2) := by decide +kernel
theorem d_Md_feed_92 : decode prog_13_method_6_code 92 = .ok (.iload 6, 2) := by decide +kernel
theorem d_Md_feed_94 : decode prog_13_method_6_code 94 = .ok (.iconst 3, 1) := by decide +kernel
theorem d_Md_feed_95 : decode prog_13_method_6_code 95 = .ok (.iand, 1) := by decide +kernel
theorem d_Md_feed_96 : decode prog_13_method_6_code 96 = .ok (.imul, 1) := by decide +kernel
theorem d_Md_feed_97 : decode prog_13_method_6_code 97 = .ok (.isub, 1) := by decide +kernel
theorem d_Md_feed_98 : decode prog_13_method_6_code 98 = .ok (.iushr, 1) := by decide +kernel
theorem d_Md_feed_99 : decode prog_13_method_6_code 99 = .ok (.sipush 255, 3) := by decide +kernel
theorem d_Md_feed_102 : decode prog_13_method_6_code 102 = .ok (.iand, 1) := by decide +kernel
theorem d_Md_feed_103 : decode prog_13_method_6_code 103 = .ok (.iastore, 1) := by decide +kernel
theorem d_Md_feed_104 : decode prog_13_method_6_code 104 = .ok (.aload_n 0, 1) := by decide +kernel
theorem d_Md_feed_105 : decode prog_13_method_6_code 105 = .ok (.dup, 1) := by decide +kernel
theorem d_Md_feed_106 : decode prog_13_method_6_code 106 = .ok (.getfield 89, 3) := by decide +kernel
theorem d_Md_feed_109 : decode prog_13_method_6_code 109 = .ok (.iconst 1, 1) := by decide +kernel
theorem d_Md_feed_110 : decode prog_13_method_6_code 110 = .ok (.iadd, 1) := by decide +kernel
theorem d_Md_feed_111 : decode prog_13_method_6_code 111 = .ok (.putfield 89, 3) := by decide +kernel
theorem d_Md_feed_114 : decode prog_13_method_6_code 114 = .ok (.iinc 6 1, 3) := by decide +kernel
theorem d_Md_feed_117 : decode prog_13_method_6_code 117 = .ok (.goto (-94), 3) := by decide +kernel
theorem d_Md_feed_69 : decode prog_13_method_6_code 69 = .ok (.iload 4, 2) := by decide +kernel
theorem d_Md_feed_71 : decode prog_13_method_6_code 71 = .ok (.goto 5, 3) := by decide +kernel
theorem d_Md_feed_58 : decode prog_13_method_6_code 58 = .ok (.iload_n 3, 1) := by decide +kernel
theorem d_Md_feed_59 : decode prog_13_method_6_code 59 = .ok (.goto 17, 3) := by decide +kernel
theorem d_Md_feed_47 : decode prog_13_method_6_code 47 = .ok (.iload_n 2, 1) := by decide +kernel
theorem d_Md_feed_48 : decode prog_13_method_6_code 48 = .ok (.goto 28, 3) := by decide +kernel
theorem d_Md_feed_36 : decode prog_13_method_6_code 36 = .ok (.iload_n 1, 1) := by decide +kernel
theorem d_Md_feed_37 : decode prog_13_method_6_code 37 = .ok (.goto 39, 3) := by decide +kernel
theorem d_Md_feed_18 : decode prog_13_method_6_code 18 = .ok (.iconst (-1), 1) := by decide +kernel
theorem d_Md_feed_19 : decode prog_13_method_6_code 19 = .ok (.ireturn, 1) := by decide +kernel
theorem t_Md_feed_J76 {G : mG} {r : mR} {v0 v1 v2 v3 v4 v5 v6 s0 : Int} {h : mH} {R23 : mH → Int → Option mR} (hR23 : ∀ (h : mH) (w6 : Int) , R23 h w6 = some r → mJ G M_Md_feed 23 [(2, v0), (0, v1), (0, v2), (0, v3), (0, v4), (0, v5), (0, w6), (9, 0)] [] h r) (hr : f_Md_feed_J76 R23 v0 v6 s0 h = some r) : mJ G M_Md_feed 76 [(2, v0), (0, v1), (0, v2), (0, v3), (0, v4), (0, v5), (0, v6), (9, 0)] [(0, s0)] h r := by
  unfold f_Md_feed_J76 at hr
  refine j_istore (pc := 76) (ls' := [(2, v0), (0, v1), (0, v2), (0, v3), (0, v4), (0, v5), (0, v6), (0, s0)]) d_Md_feed_76 rfl ?_
  refine j_aload_n (pc := 78) d_Md_feed_78 rfl ?_
  refine j_getf (pc := 79) d_Md_feed_79 (fd_Md_26 rfl) hr (fun hr => ?_)
  refine j_aload_n (pc := 82) d_Md_feed_82 rfl ?_
  refine j_getf (pc := 83) d_Md_feed_83 (fd_Md_89 rfl) hr (fun hr => ?_)
  refine j_iload (pc := 86) d_Md_feed_86 rfl ?_
  refine j_bipush (pc := 88) d_Md_feed_88 ?_
  refine j_bipush (pc := 90) d_Md_feed_90 ?_
  refine j_iload (pc := 92) d_Md_feed_92 rfl ?_
  refine j_iconst (pc := 94) d_Md_feed_94 ?_
  refine j_iand (pc := 95) d_Md_feed_95 ?_
  refine j_imul (pc := 96) d_Md_feed_96 ?_
  refine j_isub (pc := 97) d_Md_feed_97 ?_
  refine j_iushr (pc := 98) d_Md_feed_98 ?_
  refine j_sipush (pc := 99) d_Md_feed_99 ?_
  refine j_iand (pc := 102) d_Md_feed_102 ?_
  refine j_iastore (pc := 103) d_Md_feed_103 hr (fun h1 hr => ?_)
  refine j_aload_n (pc := 104) d_Md_feed_104 rfl ?_
  refine j_dup (pc := 105) d_Md_feed_105 ?_
  refine j_getf (pc := 106) d_Md_feed_106 (fd_Md_89 rfl) hr (fun hr => ?_)
  refine j_iconst (pc := 109) d_Md_feed_109 ?_
  refine j_iadd (pc := 110) d_Md_feed_110 ?_
  refine j_puti (pc := 111) d_Md_feed_111 (fd_Md_89 rfl) (⟨_, _, _, rfl, Or.inl rfl, rfl⟩ : mFldW M_Md_feed 89 11 7 .int) hr (fun h2 hr => ?_)
  refine j_iincW (pc := 114) (L := fun x3 => [(2, v0), (0, v1), (0, v2), (0, v3), (0, v4), (0, v5), (0, x3), (0, s0)]) d_Md_feed_114 rfl (fun _ => rfl) hr (fun x3 hr => ?_)
  refine j_goto (pc := 117) (tgt := 23) d_Md_feed_117 ?_
  exact mJ_weak (ls' := [(2, v0), (0, v1), (0, v2), (0, v3), (0, v4), (0, v5), (0, x3), (9, 0)]) (mwk_s (mwk_s (mwk_s (mwk_s (mwk_s (mwk_s (mwk_s (mwk_d mwk_n)))))))) (hR23 h2 _ hr)
theorem t_Md_feed_L23 {G : mG} {r : mR} {v0 v1 v2 v3 v4 v5 : Int}  : ∀ (n : Nat) (h : mH) (v6 : Int), f_Md_feed_L23 v0 v1 v2 v3 v4 v5 n h v6 = some r → mJ G M_Md_feed 23 [(2, v0), (0, v1), (0, v2), (0, v3), (0, v4), (0, v5), (0, v6), (9, 0)] [] h r := by
  intro n
  induction n with
  | zero =>
    intro h v6 hr
    rw [f_Md_feed_L23] at hr
    cases hr
  | succ n hR23 =>
    intro h v6 hr
    rw [f_Md_feed_L23] at hr
    refine j_iload (pc := 23) d_Md_feed_23 rfl ?_
    refine j_bipush (pc := 25) d_Md_feed_25 ?_
    refine j_icmp_ge (pc := 27) (tgt := 120) d_Md_feed_27 hr (fun hr => ?_) (fun hr => ?_)
    · refine j_aload_n (pc := 120) d_Md_feed_120 rfl ?_
      refine j_getf (pc := 121) d_Md_feed_121 (fd_Md_89 rfl) hr (fun hr => ?_)
      exact j_iret (pc := 124) d_Md_feed_124 rfl hr
    · refine j_iload (pc := 30) d_Md_feed_30 rfl ?_
      refine j_iconst (pc := 32) d_Md_feed_32 ?_
      refine j_icmp_ge (pc := 33) (tgt := 40) d_Md_feed_33 hr (fun hr => ?_) (fun hr => ?_)
      · refine j_iload (pc := 40) d_Md_feed_40 rfl ?_
        refine j_bipush (pc := 42) d_Md_feed_42 ?_
        refine j_icmp_ge (pc := 44) (tgt := 51) d_Md_feed_44 hr (fun hr => ?_) (fun hr => ?_)
        · refine j_iload (pc := 51) d_Md_feed_51 rfl ?_
          refine j_bipush (pc := 53) d_Md_feed_53 ?_
          refine j_icmp_ge (pc := 55) (tgt := 62) d_Md_feed_55 hr (fun hr => ?_) (fun hr => ?_)
          · refine j_iload (pc := 62) d_Md_feed_62 rfl ?_
            refine j_bipush (pc := 64) d_Md_feed_64 ?_
            refine j_icmp_ge (pc := 66) (tgt := 74) d_Md_feed_66 hr (fun hr => ?_) (fun hr => ?_)
            · refine j_iload (pc := 74) d_Md_feed_74 rfl ?_
              exact mJ_weak (ls' := [(2, v0), (0, v1), (0, v2), (0, v3), (0, v4), (0, v5), (0, v6), (9, 0)]) (mwk_s (mwk_s (mwk_s (mwk_s (mwk_s (mwk_s (mwk_s (mwk_s mwk_n)))))))) (t_Md_feed_J76 hR23 hr)
            · refine j_iload (pc := 69) d_Md_feed_69 rfl ?_
              refine j_goto (pc := 71) (tgt := 76) d_Md_feed_71 ?_
              exact mJ_weak (ls' := [(2, v0), (0, v1), (0, v2), (0, v3), (0, v4), (0, v5), (0, v6), (9, 0)]) (mwk_s (mwk_s (mwk_s (mwk_s (mwk_s (mwk_s (mwk_s (mwk_s mwk_n)))))))) (t_Md_feed_J76 hR23 hr)
          · refine j_iload_n (pc := 58) d_Md_feed_58 rfl ?_
            refine j_goto (pc := 59) (tgt := 76) d_Md_feed_59 ?_
            exact mJ_weak (ls' := [(2, v0), (0, v1), (0, v2), (0, v3), (0, v4), (0, v5), (0, v6), (9, 0)]) (mwk_s (mwk_s (mwk_s (mwk_s (mwk_s (mwk_s (mwk_s (mwk_s mwk_n)))))))) (t_Md_feed_J76 hR23 hr)
        · refine j_iload_n (pc := 47) d_Md_feed_47 rfl ?_
          refine j_goto (pc := 48) (tgt := 76) d_Md_feed_48 ?_
          exact mJ_weak (ls' := [(2, v0), (0, v1), (0, v2), (0, v3), (0, v4), (0, v5), (0, v6), (9, 0)]) (mwk_s (mwk_s (mwk_s (mwk_s (mwk_s (mwk_s (mwk_s (mwk_s mwk_n)))))))) (t_Md_feed_J76 hR23 hr)
      · refine j_iload_n (pc := 36) d_Md_feed_36 rfl ?_
        refine j_goto (pc := 37) (tgt := 76) d_Md_feed_37 ?_
        exact mJ_weak (ls' := [(2, v0), (0, v1), (0, v2), (0, v3), (0, v4), (0, v5), (0, v6), (9, 0)]) (mwk_s (mwk_s (mwk_s (mwk_s (mwk_s (mwk_s (mwk_s (mwk_s mwk_n)))))))) (t_Md_feed_J76 hR23 hr)
theorem t_Md_feed {G : mG} (h : mH) (v0 v1 v2 v3 v4 v5 : Int) (r : mR) (hr : f_Md_feed h v0 v1 v2 v3 v4 v5 = some r) : mJM G M_Md_feed [(2, v0), (0, v1), (0, v2), (0, v3), (0, v4), (0, v5)] h r := by
  refine mJM_of (L := [(2, v0), (0, v1), (0, v2), (0, v3), (0, v4), (0, v5), (9, 0), (9, 0)]) rfl rfl rfl (Nat.le_of_ble_eq_true rfl) ?_
  unfold f_Md_feed at hr
  refine j_aload_n (pc := 0) d_Md_feed_0 rfl ?_
  refine j_iconst (pc := 1) d_Md_feed_1 ?_
  refine j_puti (pc := 2) d_Md_feed_2 (fd_Md_86 rfl) (⟨_, _, _, rfl, Or.inl rfl, rfl⟩ : mFldW M_Md_feed 86 11 5 .int) hr (fun h1 hr => ?_)
  refine j_aload_n (pc := 5) d_Md_feed_5 rfl ?_
  refine j_getf (pc := 6) d_Md_feed_6 (fd_Md_89 rfl) hr (fun hr => ?_)
  refine j_bipush (pc := 9) d_Md_feed_9 ?_
  refine j_iadd (pc := 11) d_Md_feed_11 ?_
  refine j_sipush (pc := 12) d_Md_feed_12 ?_
  refine j_icmp_le (pc := 15) (tgt := 20) d_Md_feed_15 hr (fun hr => ?_) (fun hr => ?_)
  · refine j_iconst (pc := 20) d_Md_feed_20 ?_
    refine j_istore (pc := 21) (ls' := [(2, v0), (0, v1), (0, v2), (0, v3), (0, v4), (0, v5), (0, 0), (9, 0)]) d_Md_feed_21 rfl ?_
    refine mJ_weak (ls' := [(2, v0), (0, v1), (0, v2), (0, v3), (0, v4), (0, v5), (0, 0), (9, 0)]) (mwk_s (mwk_s (mwk_s (mwk_s (mwk_s (mwk_s (mwk_s (mwk_s mwk_n)))))))) (t_Md_feed_L23  _ _ _ hr)
  · refine j_iconst (pc := 18) d_Md_feed_18 ?_
    exact j_iret (pc := 19) d_Md_feed_19 rfl hr
def M_Md_see : mM := ("NineBarsModel", ⟨"NineBarsModel", "see", "(I)I"⟩, prog_13_method_7_code, 2, some .int, [], 1)
theorem tb_co_Md_see : mTB (Cond.code ⟨"NineBarsModel", "see", "(I)I"⟩ prog_13_method_7_code 2 (some .int)) := tbq7 118 (by decide +kernel) rfl
theorem mc_Md_see {M : mM} (hd : 1 < mDp M) : mCal M M_Md_see 1 := ⟨tb_co_Md_see, tb_in_NineBarsModel, ⟨by decide +kernel, by decide +kernel⟩, by decide +kernel, hd, by decide⟩
theorem d_Md_see_0 : decode prog_13_method_7_code 0 = .ok (.iload_n 1, 1) := by decide +kernel
theorem d_Md_see_1 : decode prog_13_method_7_code 1 = .ok (.aload_n 0, 1) := by decide +kernel
theorem tb_fl_Md_92 : mTB (Cond.fieldLink "NineBarsModel" 92 "NineBarsModel" "length" "I") := tbq6 215 (by decide +kernel) rfl
theorem fd_Md_92 {M : mM} (h : mO M = "NineBarsModel") : mFld M 92 11 8 0 := ⟨_, _, _, tyX11, rfl, by decide, by decide, rfl, uw_11, tyX11_ok, nmX11, by rw [h]; exact Or.inl tb_fl_Md_92⟩
theorem d_Md_see_2 : decode prog_13_method_7_code 2 = .ok (.getfield 92, 3) := by decide +kernel
theorem d_Md_see_5 : decode prog_13_method_7_code 5 = .ok (.if_icmp .ge 12, 3) := by decide +kernel
theorem d_Md_see_17 : decode prog_13_method_7_code 17 = .ok (.iconst 0, 1) := by decide +kernel
theorem d_Md_see_18 : decode prog_13_method_7_code 18 = .ok (.ireturn, 1) := by decide +kernel
theorem d_Md_see_8 : decode prog_13_method_7_code 8 = .ok (.aload_n 0, 1) := by decide +kernel
theorem d_Md_see_9 : decode prog_13_method_7_code 9 = .ok (.getfield 26, 3) := by decide +kernel
theorem d_Md_see_12 : decode prog_13_method_7_code 12 = .ok (.iload_n 1, 1) := by decide +kernel
theorem d_Md_see_13 : decode prog_13_method_7_code 13 = .ok (.iaload, 1) := by decide +kernel
theorem d_Md_see_14 : decode prog_13_method_7_code 14 = .ok (.goto 4, 3) := by decide +kernel
theorem t_Md_see {G : mG} (h : mH) (v0 v1 : Int) (r : mR) (hr : f_Md_see h v0 v1 = some r) : mJM G M_Md_see [(2, v0), (0, v1)] h r := by
  refine mJM_of (L := [(2, v0), (0, v1)]) rfl rfl rfl (Nat.le_of_ble_eq_true rfl) ?_
  unfold f_Md_see at hr
  refine j_iload_n (pc := 0) d_Md_see_0 rfl ?_
  refine j_aload_n (pc := 1) d_Md_see_1 rfl ?_
  refine j_getf (pc := 2) d_Md_see_2 (fd_Md_92 rfl) hr (fun hr => ?_)
  refine j_icmp_ge (pc := 5) (tgt := 17) d_Md_see_5 hr (fun hr => ?_) (fun hr => ?_)
  · refine j_iconst (pc := 17) d_Md_see_17 ?_
    exact j_iret (pc := 18) d_Md_see_18 rfl hr
  · refine j_aload_n (pc := 8) d_Md_see_8 rfl ?_
    refine j_getf (pc := 9) d_Md_see_9 (fd_Md_26 rfl) hr (fun hr => ?_)
    refine j_iload_n (pc := 12) d_Md_see_12 rfl ?_
    refine j_iaload (pc := 13) d_Md_see_13 hr (fun hr => ?_)
    refine j_goto (pc := 14) (tgt := 18) d_Md_see_14 ?_
    exact j_iret (pc := 18) d_Md_see_18 rfl hr
def M_Md_isLetter : mM := ("NineBarsModel", ⟨"NineBarsModel", "isLetter", "(I)Z"⟩, prog_13_method_8_code, 1, some .boolean, [], 1)
theorem tb_co_Md_isLetter : mTB (Cond.code ⟨"NineBarsModel", "isLetter", "(I)Z"⟩ prog_13_method_8_code 1 (some .boolean)) := tbq7 114 (by decide +kernel) rfl
theorem mc_Md_isLetter {M : mM} (hd : 1 < mDp M) : mCal M M_Md_isLetter 1 := ⟨tb_co_Md_isLetter, tb_in_NineBarsModel, ⟨by decide +kernel, by decide +kernel⟩, by decide +kernel, hd, by decide⟩
theorem d_Md_isLetter_0 : decode prog_13_method_8_code 0 = .ok (.iload_n 0, 1) := by decide +kernel
theorem d_Md_isLetter_1 : decode prog_13_method_8_code 1 = .ok (.bipush 97, 2) := by decide +kernel
theorem d_Md_isLetter_3 : decode prog_13_method_8_code 3 = .ok (.if_icmp .lt 13, 3) := by decide +kernel
theorem d_Md_isLetter_16 : decode prog_13_method_8_code 16 = .ok (.iconst 0, 1) := by decide +kernel
theorem d_Md_isLetter_17 : decode prog_13_method_8_code 17 = .ok (.ireturn, 1) := by decide +kernel
theorem d_Md_isLetter_6 : decode prog_13_method_8_code 6 = .ok (.iload_n 0, 1) := by decide +kernel
theorem d_Md_isLetter_7 : decode prog_13_method_8_code 7 = .ok (.bipush 122, 2) := by decide +kernel
theorem d_Md_isLetter_9 : decode prog_13_method_8_code 9 = .ok (.if_icmp .gt 7, 3) := by decide +kernel
theorem d_Md_isLetter_12 : decode prog_13_method_8_code 12 = .ok (.iconst 1, 1) := by decide +kernel
theorem d_Md_isLetter_13 : decode prog_13_method_8_code 13 = .ok (.goto 4, 3) := by decide +kernel
theorem t_Md_isLetter_J16 {G : mG} {r : mR} {h : mH}  (hr : f_Md_isLetter_J16 h = some r) : mJ G M_Md_isLetter 16 [(9, 0)] [] h r := by
  unfold f_Md_isLetter_J16 at hr
  refine j_iconst (pc := 16) d_Md_isLetter_16 ?_
  exact j_zret (pc := 17) d_Md_isLetter_17 rfl hr
theorem t_Md_isLetter {G : mG} (h : mH) (v0 : Int) (r : mR) (hr : f_Md_isLetter h v0 = some r) : mJM G M_Md_isLetter [(0, v0)] h r := by
  refine mJM_of (L := [(0, v0)]) rfl rfl rfl (Nat.le_of_ble_eq_true rfl) ?_
  unfold f_Md_isLetter at hr
  refine j_iload_n (pc := 0) d_Md_isLetter_0 rfl ?_
  refine j_bipush (pc := 1) d_Md_isLetter_1 ?_
  refine j_icmp_lt (pc := 3) (tgt := 16) d_Md_isLetter_3 hr (fun hr => ?_) (fun hr => ?_)
  · exact mJ_weak (ls' := [(9, 0)]) (mwk_d mwk_n) (t_Md_isLetter_J16  hr)
  · refine j_iload_n (pc := 6) d_Md_isLetter_6 rfl ?_
    refine j_bipush (pc := 7) d_Md_isLetter_7 ?_
    refine j_icmp_gt (pc := 9) (tgt := 16) d_Md_isLetter_9 hr (fun hr => ?_) (fun hr => ?_)
    · exact mJ_weak (ls' := [(9, 0)]) (mwk_d mwk_n) (t_Md_isLetter_J16  hr)
    · refine j_iconst (pc := 12) d_Md_isLetter_12 ?_
      refine j_goto (pc := 13) (tgt := 17) d_Md_isLetter_13 ?_
      exact j_zret (pc := 17) d_Md_isLetter_17 rfl hr
def M_Md_isDigit : mM := ("NineBarsModel", ⟨"NineBarsModel", "isDigit", "(I)Z"⟩, prog_13_method_9_code, 1, some .boolean, [], 1)
theorem tb_co_Md_isDigit : mTB (Cond.code ⟨"NineBarsModel", "isDigit", "(I)Z"⟩ prog_13_method_9_code 1 (some .boolean)) := tbq7 121 (by decide +kernel) rfl
theorem mc_Md_isDigit {M : mM} (hd : 1 < mDp M) : mCal M M_Md_isDigit 1 := ⟨tb_co_Md_isDigit, tb_in_NineBarsModel, ⟨by decide +kernel, by decide +kernel⟩, by decide +kernel, hd, by decide⟩
theorem d_Md_isDigit_0 : decode prog_13_method_9_code 0 = .ok (.iload_n 0, 1) := by decide +kernel
theorem d_Md_isDigit_1 : decode prog_13_method_9_code 1 = .ok (.bipush 48, 2) := by decide +kernel
theorem d_Md_isDigit_3 : decode prog_13_method_9_code 3 = .ok (.if_icmp .lt 13, 3) := by decide +kernel
theorem d_Md_isDigit_16 : decode prog_13_method_9_code 16 = .ok (.iconst 0, 1) := by decide +kernel
theorem d_Md_isDigit_17 : decode prog_13_method_9_code 17 = .ok (.ireturn, 1) := by decide +kernel
theorem d_Md_isDigit_6 : decode prog_13_method_9_code 6 = .ok (.iload_n 0, 1) := by decide +kernel
theorem d_Md_isDigit_7 : decode prog_13_method_9_code 7 = .ok (.bipush 57, 2) := by decide +kernel
theorem d_Md_isDigit_9 : decode prog_13_method_9_code 9 = .ok (.if_icmp .gt 7, 3) := by decide +kernel
theorem d_Md_isDigit_12 : decode prog_13_method_9_code 12 = .ok (.iconst 1, 1) := by decide +kernel
theorem d_Md_isDigit_13 : decode prog_13_method_9_code 13 = .ok (.goto 4, 3) := by decide +kernel
theorem t_Md_isDigit_J16 {G : mG} {r : mR} {h : mH}  (hr : f_Md_isDigit_J16 h = some r) : mJ G M_Md_isDigit 16 [(9, 0)] [] h r := by
  unfold f_Md_isDigit_J16 at hr
  refine j_iconst (pc := 16) d_Md_isDigit_16 ?_
  exact j_zret (pc := 17) d_Md_isDigit_17 rfl hr
theorem t_Md_isDigit {G : mG} (h : mH) (v0 : Int) (r : mR) (hr : f_Md_isDigit h v0 = some r) : mJM G M_Md_isDigit [(0, v0)] h r := by
  refine mJM_of (L := [(0, v0)]) rfl rfl rfl (Nat.le_of_ble_eq_true rfl) ?_
  unfold f_Md_isDigit at hr
  refine j_iload_n (pc := 0) d_Md_isDigit_0 rfl ?_
  refine j_bipush (pc := 1) d_Md_isDigit_1 ?_
  refine j_icmp_lt (pc := 3) (tgt := 16) d_Md_isDigit_3 hr (fun hr => ?_) (fun hr => ?_)
  · exact mJ_weak (ls' := [(9, 0)]) (mwk_d mwk_n) (t_Md_isDigit_J16  hr)
  · refine j_iload_n (pc := 6) d_Md_isDigit_6 rfl ?_
    refine j_bipush (pc := 7) d_Md_isDigit_7 ?_
    refine j_icmp_gt (pc := 9) (tgt := 16) d_Md_isDigit_9 hr (fun hr => ?_) (fun hr => ?_)
    · exact mJ_weak (ls' := [(9, 0)]) (mwk_d mwk_n) (t_Md_isDigit_J16  hr)
    · refine j_iconst (pc := 12) d_Md_isDigit_12 ?_
      refine j_goto (pc := 13) (tgt := 17) d_Md_isDigit_13 ?_
      exact j_zret (pc := 17) d_Md_isDigit_17 rfl hr
def M_Md_reads : mM := ("NineBarsModel", ⟨"NineBarsModel", "reads", "()V"⟩, prog_13_method_10_code, 2, none, [], 3)
theorem tb_co_Md_reads : mTB (Cond.code ⟨"NineBarsModel", "reads", "()V"⟩ prog_13_method_10_code 2 (none)) := tbq7 111 (by decide +kernel) rfl
theorem mc_Md_reads {M : mM} (hd : 3 < mDp M) : mCal M M_Md_reads 0 := ⟨tb_co_Md_reads, tb_in_NineBarsModel, ⟨by decide +kernel, by decide +kernel⟩, by decide +kernel, hd, by decide⟩
theorem d_Md_reads_0 : decode prog_13_method_10_code 0 = .ok (.aload_n 0, 1) := by decide +kernel
theorem tb_fl_Md_95 : mTB (Cond.fieldLink "NineBarsModel" 95 "NineBarsModel" "at" "I") := tbq6 216 (by decide +kernel) rfl
theorem fd_Md_95 {M : mM} (h : mO M = "NineBarsModel") : mFld M 95 11 9 0 := ⟨_, _, _, tyX11, rfl, by decide, by decide, rfl, uw_11, tyX11_ok, nmX11, by rw [h]; exact Or.inl tb_fl_Md_95⟩
theorem d_Md_reads_1 : decode prog_13_method_10_code 1 = .ok (.getfield 95, 3) := by decide +kernel
theorem d_Md_reads_4 : decode prog_13_method_10_code 4 = .ok (.aload_n 0, 1) := by decide +kernel
theorem d_Md_reads_5 : decode prog_13_method_10_code 5 = .ok (.getfield 92, 3) := by decide +kernel
theorem d_Md_reads_8 : decode prog_13_method_10_code 8 = .ok (.if_icmp .ge 44, 3) := by decide +kernel
theorem d_Md_reads_11 : decode prog_13_method_10_code 11 = .ok (.aload_n 0, 1) := by decide +kernel
theorem d_Md_reads_12 : decode prog_13_method_10_code 12 = .ok (.getfield 26, 3) := by decide +kernel
theorem d_Md_reads_15 : decode prog_13_method_10_code 15 = .ok (.aload_n 0, 1) := by decide +kernel
theorem d_Md_reads_16 : decode prog_13_method_10_code 16 = .ok (.getfield 95, 3) := by decide +kernel
theorem d_Md_reads_19 : decode prog_13_method_10_code 19 = .ok (.iaload, 1) := by decide +kernel
theorem d_Md_reads_20 : decode prog_13_method_10_code 20 = .ok (.bipush 32, 2) := by decide +kernel
theorem d_Md_reads_22 : decode prog_13_method_10_code 22 = .ok (.if_icmp .eq 17, 3) := by decide +kernel
theorem d_Md_reads_39 : decode prog_13_method_10_code 39 = .ok (.aload_n 0, 1) := by decide +kernel
theorem d_Md_reads_40 : decode prog_13_method_10_code 40 = .ok (.dup, 1) := by decide +kernel
theorem d_Md_reads_41 : decode prog_13_method_10_code 41 = .ok (.getfield 95, 3) := by decide +kernel
theorem d_Md_reads_44 : decode prog_13_method_10_code 44 = .ok (.iconst 1, 1) := by decide +kernel
theorem d_Md_reads_45 : decode prog_13_method_10_code 45 = .ok (.iadd, 1) := by decide +kernel
theorem d_Md_reads_46 : decode prog_13_method_10_code 46 = .ok (.putfield 95, 3) := by decide +kernel
theorem d_Md_reads_49 : decode prog_13_method_10_code 49 = .ok (.goto (-49), 3) := by decide +kernel
theorem d_Md_reads_25 : decode prog_13_method_10_code 25 = .ok (.aload_n 0, 1) := by decide +kernel
theorem d_Md_reads_26 : decode prog_13_method_10_code 26 = .ok (.getfield 26, 3) := by decide +kernel
theorem d_Md_reads_29 : decode prog_13_method_10_code 29 = .ok (.aload_n 0, 1) := by decide +kernel
theorem d_Md_reads_30 : decode prog_13_method_10_code 30 = .ok (.getfield 95, 3) := by decide +kernel
theorem d_Md_reads_33 : decode prog_13_method_10_code 33 = .ok (.iaload, 1) := by decide +kernel
theorem d_Md_reads_34 : decode prog_13_method_10_code 34 = .ok (.bipush 10, 2) := by decide +kernel
theorem d_Md_reads_36 : decode prog_13_method_10_code 36 = .ok (.if_icmp .ne 16, 3) := by decide +kernel
theorem d_Md_reads_52 : decode prog_13_method_10_code 52 = .ok (.aload_n 0, 1) := by decide +kernel
theorem d_Md_reads_53 : decode prog_13_method_10_code 53 = .ok (.aload_n 0, 1) := by decide +kernel
theorem d_Md_reads_54 : decode prog_13_method_10_code 54 = .ok (.getfield 95, 3) := by decide +kernel
theorem tb_fl_Md_98 : mTB (Cond.fieldLink "NineBarsModel" 98 "NineBarsModel" "begin" "I") := tbq6 217 (by decide +kernel) rfl
theorem fd_Md_98 {M : mM} (h : mO M = "NineBarsModel") : mFld M 98 11 10 0 := ⟨_, _, _, tyX11, rfl, by decide, by decide, rfl, uw_11, tyX11_ok, nmX11, by rw [h]; exact Or.inl tb_fl_Md_98⟩
theorem d_Md_reads_57 : decode prog_13_method_10_code 57 = .ok (.putfield 98, 3) := by decide +kernel
theorem d_Md_reads_60 : decode prog_13_method_10_code 60 = .ok (.aload_n 0, 1) := by decide +kernel
theorem d_Md_reads_61 : decode prog_13_method_10_code 61 = .ok (.getfield 95, 3) := by decide +kernel
theorem d_Md_reads_64 : decode prog_13_method_10_code 64 = .ok (.aload_n 0, 1) := by decide +kernel
theorem d_Md_reads_65 : decode prog_13_method_10_code 65 = .ok (.getfield 92, 3) := by decide +kernel
theorem d_Md_reads_68 : decode prog_13_method_10_code 68 = .ok (.if_icmp .lt 9, 3) := by decide +kernel
theorem d_Md_reads_77 : decode prog_13_method_10_code 77 = .ok (.aload_n 0, 1) := by decide +kernel
theorem d_Md_reads_78 : decode prog_13_method_10_code 78 = .ok (.getfield 26, 3) := by decide +kernel
theorem d_Md_reads_81 : decode prog_13_method_10_code 81 = .ok (.aload_n 0, 1) := by decide +kernel
theorem d_Md_reads_82 : decode prog_13_method_10_code 82 = .ok (.getfield 95, 3) := by decide +kernel
theorem d_Md_reads_85 : decode prog_13_method_10_code 85 = .ok (.iaload, 1) := by decide +kernel
theorem d_Md_reads_86 : decode prog_13_method_10_code 86 = .ok (.istore_n 1, 1) := by decide +kernel
theorem d_Md_reads_87 : decode prog_13_method_10_code 87 = .ok (.iload_n 1, 1) := by decide +kernel
theorem d_Md_reads_88 : decode prog_13_method_10_code 88 = .ok (.invokestatic 104, 3) := by decide +kernel
theorem tb_ml_Md_104 : mTB (Cond.methodLink "NineBarsModel" 104 ⟨"NineBarsModel", "isLetter", "(I)Z"⟩) := tbq7 112 (by decide +kernel) rfl
theorem tb_sm_Md_isLetter : mTB (Cond.static ⟨"NineBarsModel", "isLetter", "(I)Z"⟩) := tbq7 113 (by decide +kernel) rfl
theorem d_Md_reads_91 : decode prog_13_method_10_code 91 = .ok (.ifCond .eq 38, 3) := by decide +kernel
theorem d_Md_reads_129 : decode prog_13_method_10_code 129 = .ok (.iload_n 1, 1) := by decide +kernel
theorem d_Md_reads_130 : decode prog_13_method_10_code 130 = .ok (.invokestatic 112, 3) := by decide +kernel
theorem tb_ml_Md_112 : mTB (Cond.methodLink "NineBarsModel" 112 ⟨"NineBarsModel", "isDigit", "(I)Z"⟩) := tbq7 119 (by decide +kernel) rfl
theorem tb_sm_Md_isDigit : mTB (Cond.static ⟨"NineBarsModel", "isDigit", "(I)Z"⟩) := tbq7 120 (by decide +kernel) rfl
theorem d_Md_reads_133 : decode prog_13_method_10_code 133 = .ok (.ifCond .eq 104, 3) := by decide +kernel
theorem d_Md_reads_237 : decode prog_13_method_10_code 237 = .ok (.aload_n 0, 1) := by decide +kernel
theorem d_Md_reads_238 : decode prog_13_method_10_code 238 = .ok (.iload_n 1, 1) := by decide +kernel
theorem d_Md_reads_239 : decode prog_13_method_10_code 239 = .ok (.bipush 59, 2) := by decide +kernel
theorem d_Md_reads_241 : decode prog_13_method_10_code 241 = .ok (.if_icmp .ne 7, 3) := by decide +kernel
theorem d_Md_reads_248 : decode prog_13_method_10_code 248 = .ok (.iconst 4, 1) := by decide +kernel
theorem tb_fl_Md_101 : mTB (Cond.fieldLink "NineBarsModel" 101 "NineBarsModel" "token" "I") := tbq6 218 (by decide +kernel) rfl
theorem fd_Md_101 {M : mM} (h : mO M = "NineBarsModel") : mFld M 101 11 11 0 := ⟨_, _, _, tyX11, rfl, by decide, by decide, rfl, uw_11, tyX11_ok, nmX11, by rw [h]; exact Or.inl tb_fl_Md_101⟩
theorem d_Md_reads_249 : decode prog_13_method_10_code 249 = .ok (.putfield 101, 3) := by decide +kernel
theorem d_Md_reads_252 : decode prog_13_method_10_code 252 = .ok (.aload_n 0, 1) := by decide +kernel
theorem d_Md_reads_253 : decode prog_13_method_10_code 253 = .ok (.dup, 1) := by decide +kernel
theorem d_Md_reads_254 : decode prog_13_method_10_code 254 = .ok (.getfield 95, 3) := by decide +kernel
theorem d_Md_reads_257 : decode prog_13_method_10_code 257 = .ok (.iconst 1, 1) := by decide +kernel
theorem d_Md_reads_258 : decode prog_13_method_10_code 258 = .ok (.iadd, 1) := by decide +kernel
theorem d_Md_reads_259 : decode prog_13_method_10_code 259 = .ok (.putfield 95, 3) := by decide +kernel
theorem d_Md_reads_262 : decode prog_13_method_10_code 262 = .ok (.return_, 1) := by decide +kernel
theorem d_Md_reads_244 : decode prog_13_method_10_code 244 = .ok (.iconst 3, 1) := by decide +kernel
theorem d_Md_reads_245 : decode prog_13_method_10_code 245 = .ok (.goto 4, 3) := by decide +kernel
theorem d_Md_reads_136 : decode prog_13_method_10_code 136 = .ok (.aload_n 0, 1) := by decide +kernel
theorem d_Md_reads_137 : decode prog_13_method_10_code 137 = .ok (.iconst 0, 1) := by decide +kernel
theorem tb_fl_Md_115 : mTB (Cond.fieldLink "NineBarsModel" 115 "NineBarsModel" "value" "I") := tbq6 219 (by decide +kernel) rfl
theorem fd_Md_115 {M : mM} (h : mO M = "NineBarsModel") : mFld M 115 11 12 0 := ⟨_, _, _, tyX11, rfl, by decide, by decide, rfl, uw_11, tyX11_ok, nmX11, by rw [h]; exact Or.inl tb_fl_Md_115⟩
theorem d_Md_reads_138 : decode prog_13_method_10_code 138 = .ok (.putfield 115, 3) := by decide +kernel
theorem d_Md_reads_141 : decode prog_13_method_10_code 141 = .ok (.aload_n 0, 1) := by decide +kernel
theorem d_Md_reads_142 : decode prog_13_method_10_code 142 = .ok (.aload_n 0, 1) := by decide +kernel
theorem d_Md_reads_143 : decode prog_13_method_10_code 143 = .ok (.getfield 95, 3) := by decide +kernel
theorem d_Md_reads_146 : decode prog_13_method_10_code 146 = .ok (.invokevirtual 108, 3) := by decide +kernel
theorem tb_ml_Md_108 : mTB (Cond.methodLink "NineBarsModel" 108 ⟨"NineBarsModel", "see", "(I)I"⟩) := tbq7 115 (by decide +kernel) rfl
theorem tb_im_Md_see : mTB (Cond.instanceMethod ⟨"NineBarsModel", "see", "(I)I"⟩) := tbq7 117 (by decide +kernel) rfl
theorem tb_se_Md_see : mTB (Cond.selects "NineBarsModel" ⟨"NineBarsModel", "see", "(I)I"⟩ ⟨"NineBarsModel", "see", "(I)I"⟩) := tbqp 47 (by decide +kernel) rfl
theorem mv_Md_see {M : mM} {idx : Nat} (h : mTB (Cond.methodLink (mO M) idx ⟨"NineBarsModel", "see", "(I)I"⟩)) : mCaV M M_Md_see idx 11 := ⟨h, tb_im_Md_see, tb_se_Md_see, by decide, TX11, 40, rfl⟩
theorem d_Md_reads_149 : decode prog_13_method_10_code 149 = .ok (.invokestatic 112, 3) := by decide +kernel
theorem d_Md_reads_152 : decode prog_13_method_10_code 152 = .ok (.ifCond .eq 60, 3) := by decide +kernel
theorem d_Md_reads_155 : decode prog_13_method_10_code 155 = .ok (.aload_n 0, 1) := by decide +kernel
theorem d_Md_reads_156 : decode prog_13_method_10_code 156 = .ok (.aload_n 0, 1) := by decide +kernel
theorem d_Md_reads_157 : decode prog_13_method_10_code 157 = .ok (.getfield 95, 3) := by decide +kernel
theorem d_Md_reads_160 : decode prog_13_method_10_code 160 = .ok (.aload_n 0, 1) := by decide +kernel
theorem d_Md_reads_161 : decode prog_13_method_10_code 161 = .ok (.getfield 98, 3) := by decide +kernel
theorem d_Md_reads_164 : decode prog_13_method_10_code 164 = .ok (.isub, 1) := by decide +kernel
theorem d_Md_reads_165 : decode prog_13_method_10_code 165 = .ok (.iconst 3, 1) := by decide +kernel
theorem d_Md_reads_166 : decode prog_13_method_10_code 166 = .ok (.if_icmp .ge 26, 3) := by decide +kernel
theorem d_Md_reads_192 : decode prog_13_method_10_code 192 = .ok (.aload_n 0, 1) := by decide +kernel
theorem d_Md_reads_193 : decode prog_13_method_10_code 193 = .ok (.getfield 115, 3) := by decide +kernel
theorem d_Md_reads_196 : decode prog_13_method_10_code 196 = .ok (.putfield 115, 3) := by decide +kernel
theorem d_Md_reads_199 : decode prog_13_method_10_code 199 = .ok (.aload_n 0, 1) := by decide +kernel
theorem d_Md_reads_200 : decode prog_13_method_10_code 200 = .ok (.dup, 1) := by decide +kernel
theorem d_Md_reads_201 : decode prog_13_method_10_code 201 = .ok (.getfield 95, 3) := by decide +kernel
theorem d_Md_reads_204 : decode prog_13_method_10_code 204 = .ok (.iconst 1, 1) := by decide +kernel
theorem d_Md_reads_205 : decode prog_13_method_10_code 205 = .ok (.iadd, 1) := by decide +kernel
theorem d_Md_reads_206 : decode prog_13_method_10_code 206 = .ok (.putfield 95, 3) := by decide +kernel
theorem d_Md_reads_209 : decode prog_13_method_10_code 209 = .ok (.goto (-68), 3) := by decide +kernel
theorem d_Md_reads_169 : decode prog_13_method_10_code 169 = .ok (.bipush 10, 2) := by decide +kernel
theorem d_Md_reads_171 : decode prog_13_method_10_code 171 = .ok (.aload_n 0, 1) := by decide +kernel
theorem d_Md_reads_172 : decode prog_13_method_10_code 172 = .ok (.getfield 115, 3) := by decide +kernel
theorem d_Md_reads_175 : decode prog_13_method_10_code 175 = .ok (.imul, 1) := by decide +kernel
theorem d_Md_reads_176 : decode prog_13_method_10_code 176 = .ok (.aload_n 0, 1) := by decide +kernel
theorem d_Md_reads_177 : decode prog_13_method_10_code 177 = .ok (.getfield 26, 3) := by decide +kernel
theorem d_Md_reads_180 : decode prog_13_method_10_code 180 = .ok (.aload_n 0, 1) := by decide +kernel
theorem d_Md_reads_181 : decode prog_13_method_10_code 181 = .ok (.getfield 95, 3) := by decide +kernel
theorem d_Md_reads_184 : decode prog_13_method_10_code 184 = .ok (.iaload, 1) := by decide +kernel
theorem d_Md_reads_185 : decode prog_13_method_10_code 185 = .ok (.iadd, 1) := by decide +kernel
theorem d_Md_reads_186 : decode prog_13_method_10_code 186 = .ok (.bipush 48, 2) := by decide +kernel
theorem d_Md_reads_188 : decode prog_13_method_10_code 188 = .ok (.isub, 1) := by decide +kernel
theorem d_Md_reads_189 : decode prog_13_method_10_code 189 = .ok (.goto 7, 3) := by decide +kernel
theorem d_Md_reads_212 : decode prog_13_method_10_code 212 = .ok (.aload_n 0, 1) := by decide +kernel
theorem d_Md_reads_213 : decode prog_13_method_10_code 213 = .ok (.aload_n 0, 1) := by decide +kernel
theorem d_Md_reads_214 : decode prog_13_method_10_code 214 = .ok (.getfield 95, 3) := by decide +kernel
theorem d_Md_reads_217 : decode prog_13_method_10_code 217 = .ok (.aload_n 0, 1) := by decide +kernel
theorem d_Md_reads_218 : decode prog_13_method_10_code 218 = .ok (.getfield 98, 3) := by decide +kernel
theorem d_Md_reads_221 : decode prog_13_method_10_code 221 = .ok (.isub, 1) := by decide +kernel
theorem d_Md_reads_222 : decode prog_13_method_10_code 222 = .ok (.iconst 3, 1) := by decide +kernel
theorem d_Md_reads_223 : decode prog_13_method_10_code 223 = .ok (.if_icmp .le 7, 3) := by decide +kernel
theorem d_Md_reads_230 : decode prog_13_method_10_code 230 = .ok (.iconst 2, 1) := by decide +kernel
theorem d_Md_reads_231 : decode prog_13_method_10_code 231 = .ok (.putfield 101, 3) := by decide +kernel
theorem d_Md_reads_234 : decode prog_13_method_10_code 234 = .ok (.goto 28, 3) := by decide +kernel
theorem d_Md_reads_226 : decode prog_13_method_10_code 226 = .ok (.iconst 4, 1) := by decide +kernel
theorem d_Md_reads_227 : decode prog_13_method_10_code 227 = .ok (.goto 4, 3) := by decide +kernel
theorem d_Md_reads_94 : decode prog_13_method_10_code 94 = .ok (.aload_n 0, 1) := by decide +kernel
theorem d_Md_reads_95 : decode prog_13_method_10_code 95 = .ok (.aload_n 0, 1) := by decide +kernel
theorem d_Md_reads_96 : decode prog_13_method_10_code 96 = .ok (.getfield 95, 3) := by decide +kernel
theorem d_Md_reads_99 : decode prog_13_method_10_code 99 = .ok (.invokevirtual 108, 3) := by decide +kernel
theorem d_Md_reads_102 : decode prog_13_method_10_code 102 = .ok (.invokestatic 104, 3) := by decide +kernel
theorem d_Md_reads_105 : decode prog_13_method_10_code 105 = .ok (.ifCond .eq 16, 3) := by decide +kernel
theorem d_Md_reads_108 : decode prog_13_method_10_code 108 = .ok (.aload_n 0, 1) := by decide +kernel
theorem d_Md_reads_109 : decode prog_13_method_10_code 109 = .ok (.dup, 1) := by decide +kernel
theorem d_Md_reads_110 : decode prog_13_method_10_code 110 = .ok (.getfield 95, 3) := by decide +kernel
theorem d_Md_reads_113 : decode prog_13_method_10_code 113 = .ok (.iconst 1, 1) := by decide +kernel
theorem d_Md_reads_114 : decode prog_13_method_10_code 114 = .ok (.iadd, 1) := by decide +kernel
theorem d_Md_reads_115 : decode prog_13_method_10_code 115 = .ok (.putfield 95, 3) := by decide +kernel
theorem d_Md_reads_118 : decode prog_13_method_10_code 118 = .ok (.goto (-24), 3) := by decide +kernel
theorem d_Md_reads_121 : decode prog_13_method_10_code 121 = .ok (.aload_n 0, 1) := by decide +kernel
theorem d_Md_reads_122 : decode prog_13_method_10_code 122 = .ok (.iconst 1, 1) := by decide +kernel
theorem d_Md_reads_123 : decode prog_13_method_10_code 123 = .ok (.putfield 101, 3) := by decide +kernel
theorem d_Md_reads_126 : decode prog_13_method_10_code 126 = .ok (.goto 136, 3) := by decide +kernel
theorem d_Md_reads_71 : decode prog_13_method_10_code 71 = .ok (.aload_n 0, 1) := by decide +kernel
theorem d_Md_reads_72 : decode prog_13_method_10_code 72 = .ok (.iconst 0, 1) := by decide +kernel
theorem d_Md_reads_73 : decode prog_13_method_10_code 73 = .ok (.putfield 101, 3) := by decide +kernel
theorem d_Md_reads_76 : decode prog_13_method_10_code 76 = .ok (.return_, 1) := by decide +kernel
theorem t_Md_reads_J39 {G : mG} {r : mR} {v0 : Int} {h : mH} {R0 : mH → Option mR} (hR0 : ∀ (h : mH) , R0 h  = some r → mJ G M_Md_reads 0 [(2, v0), (9, 0)] [] h r) (hr : f_Md_reads_J39 R0 v0 h = some r) : mJ G M_Md_reads 39 [(2, v0), (9, 0)] [] h r := by
  unfold f_Md_reads_J39 at hr
  refine j_aload_n (pc := 39) d_Md_reads_39 rfl ?_
  refine j_dup (pc := 40) d_Md_reads_40 ?_
  refine j_getf (pc := 41) d_Md_reads_41 (fd_Md_95 rfl) hr (fun hr => ?_)
  refine j_iconst (pc := 44) d_Md_reads_44 ?_
  refine j_iadd (pc := 45) d_Md_reads_45 ?_
  refine j_puti (pc := 46) d_Md_reads_46 (fd_Md_95 rfl) (⟨_, _, _, rfl, Or.inl rfl, rfl⟩ : mFldW M_Md_reads 95 11 9 .int) hr (fun h1 hr => ?_)
  refine j_goto (pc := 49) (tgt := 0) d_Md_reads_49 ?_
  exact mJ_weak (ls' := [(2, v0), (9, 0)]) (mwk_s (mwk_s mwk_n)) (hR0 h1  hr)
theorem t_Md_reads_L0 {G : mG} {r : mR} {v0 : Int} {K52 : mH → Option mR} (hK52 : ∀ (h : mH) , K52 h  = some r → mJ G M_Md_reads 52 [(2, v0), (9, 0)] [] h r) : ∀ (n : Nat) (h : mH) , f_Md_reads_L0 K52 v0 n h  = some r → mJ G M_Md_reads 0 [(2, v0), (9, 0)] [] h r := by
  intro n
  induction n with
  | zero =>
    intro h  hr
    rw [f_Md_reads_L0] at hr
    cases hr
  | succ n hR0 =>
    intro h  hr
    rw [f_Md_reads_L0] at hr
    refine j_aload_n (pc := 0) d_Md_reads_0 rfl ?_
    refine j_getf (pc := 1) d_Md_reads_1 (fd_Md_95 rfl) hr (fun hr => ?_)
    refine j_aload_n (pc := 4) d_Md_reads_4 rfl ?_
    refine j_getf (pc := 5) d_Md_reads_5 (fd_Md_92 rfl) hr (fun hr => ?_)
    refine j_icmp_ge (pc := 8) (tgt := 52) d_Md_reads_8 hr (fun hr => ?_) (fun hr => ?_)
    · exact mJ_weak (ls' := [(2, v0), (9, 0)]) (mwk_s (mwk_s mwk_n)) (hK52 h  hr)
    · refine j_aload_n (pc := 11) d_Md_reads_11 rfl ?_
      refine j_getf (pc := 12) d_Md_reads_12 (fd_Md_26 rfl) hr (fun hr => ?_)
      refine j_aload_n (pc := 15) d_Md_reads_15 rfl ?_
      refine j_getf (pc := 16) d_Md_reads_16 (fd_Md_95 rfl) hr (fun hr => ?_)
      refine j_iaload (pc := 19) d_Md_reads_19 hr (fun hr => ?_)
      refine j_bipush (pc := 20) d_Md_reads_20 ?_
      refine j_icmp_eq (pc := 22) (tgt := 39) d_Md_reads_22 hr (fun hr => ?_) (fun hr => ?_)
      · exact mJ_weak (ls' := [(2, v0), (9, 0)]) (mwk_s (mwk_s mwk_n)) (t_Md_reads_J39 hR0 hr)
      · refine j_aload_n (pc := 25) d_Md_reads_25 rfl ?_
        refine j_getf (pc := 26) d_Md_reads_26 (fd_Md_26 rfl) hr (fun hr => ?_)
        refine j_aload_n (pc := 29) d_Md_reads_29 rfl ?_
        refine j_getf (pc := 30) d_Md_reads_30 (fd_Md_95 rfl) hr (fun hr => ?_)
        refine j_iaload (pc := 33) d_Md_reads_33 hr (fun hr => ?_)
        refine j_bipush (pc := 34) d_Md_reads_34 ?_
        refine j_icmp_ne (pc := 36) (tgt := 52) d_Md_reads_36 hr (fun hr => ?_) (fun hr => ?_)
        · exact mJ_weak (ls' := [(2, v0), (9, 0)]) (mwk_s (mwk_s mwk_n)) (hK52 h  hr)
        · exact mJ_weak (ls' := [(2, v0), (9, 0)]) (mwk_s (mwk_s mwk_n)) (t_Md_reads_J39 hR0 hr)
theorem t_Md_reads_J249 {G : mG} {r : mR} {v0 s0 s1 : Int} {h : mH}  (hr : f_Md_reads_J249 v0 s0 s1 h = some r) : mJ G M_Md_reads 249 [(2, v0), (9, 0)] [(0, s1), (2, s0)] h r := by
  unfold f_Md_reads_J249 at hr
  refine j_puti (pc := 249) d_Md_reads_249 (fd_Md_101 rfl) (⟨_, _, _, rfl, Or.inl rfl, rfl⟩ : mFldW M_Md_reads 101 11 11 .int) hr (fun h1 hr => ?_)
  refine j_aload_n (pc := 252) d_Md_reads_252 rfl ?_
  refine j_dup (pc := 253) d_Md_reads_253 ?_
  refine j_getf (pc := 254) d_Md_reads_254 (fd_Md_95 rfl) hr (fun hr => ?_)
  refine j_iconst (pc := 257) d_Md_reads_257 ?_
  refine j_iadd (pc := 258) d_Md_reads_258 ?_
  refine j_puti (pc := 259) d_Md_reads_259 (fd_Md_95 rfl) (⟨_, _, _, rfl, Or.inl rfl, rfl⟩ : mFldW M_Md_reads 95 11 9 .int) hr (fun h2 hr => ?_)
  exact j_vret (pc := 262) d_Md_reads_262 rfl hr
theorem t_Md_reads_J196 {G : mG} {r : mR} {v0 s0 s1 : Int} {h : mH} {R141 : mH → Option mR} (hR141 : ∀ (h : mH) , R141 h  = some r → mJ G M_Md_reads 141 [(2, v0), (9, 0)] [] h r) (hr : f_Md_reads_J196 R141 v0 s0 s1 h = some r) : mJ G M_Md_reads 196 [(2, v0), (9, 0)] [(0, s1), (2, s0)] h r := by
  unfold f_Md_reads_J196 at hr
  refine j_puti (pc := 196) d_Md_reads_196 (fd_Md_115 rfl) (⟨_, _, _, rfl, Or.inl rfl, rfl⟩ : mFldW M_Md_reads 115 11 12 .int) hr (fun h1 hr => ?_)
  refine j_aload_n (pc := 199) d_Md_reads_199 rfl ?_
  refine j_dup (pc := 200) d_Md_reads_200 ?_
  refine j_getf (pc := 201) d_Md_reads_201 (fd_Md_95 rfl) hr (fun hr => ?_)
  refine j_iconst (pc := 204) d_Md_reads_204 ?_
  refine j_iadd (pc := 205) d_Md_reads_205 ?_
  refine j_puti (pc := 206) d_Md_reads_206 (fd_Md_95 rfl) (⟨_, _, _, rfl, Or.inl rfl, rfl⟩ : mFldW M_Md_reads 95 11 9 .int) hr (fun h2 hr => ?_)
  refine j_goto (pc := 209) (tgt := 141) d_Md_reads_209 ?_
  exact mJ_weak (ls' := [(2, v0), (9, 0)]) (mwk_s (mwk_s mwk_n)) (hR141 h2  hr)
theorem t_Md_reads_L141 {G : mG} {r : mR} {v0 : Int} {K212 : mH → Option mR} (hK212 : ∀ (h : mH) , K212 h  = some r → mJ G M_Md_reads 212 [(2, v0), (9, 0)] [] h r) : ∀ (n : Nat) (h : mH) , f_Md_reads_L141 K212 v0 n h  = some r → mJ G M_Md_reads 141 [(2, v0), (9, 0)] [] h r := by
  intro n
  induction n with
  | zero =>
    intro h  hr
    rw [f_Md_reads_L141] at hr
    cases hr
  | succ n hR141 =>
    intro h  hr
    rw [f_Md_reads_L141] at hr
    refine j_aload_n (pc := 141) d_Md_reads_141 rfl ?_
    refine j_aload_n (pc := 142) d_Md_reads_142 rfl ?_
    refine j_getf (pc := 143) d_Md_reads_143 (fd_Md_95 rfl) hr (fun hr => ?_)
    obtain ⟨ha, hr⟩ := chk_some hr
    refine j_callG (pc := 146) (stk := [(0, hpV h v0 9), (2, v0)]) (as := [(2, v0), (0, hpV h v0 9)]) (P := (fun v9 => ((0 : Nat), v9) :: [])) (tg := 0) (My := M_Md_see) (mRunV (as := [(0, hpV h v0 9)]) (st := []) d_Md_reads_146 (mc_Md_see (by decide)) rfl (mv_Md_see tb_ml_Md_108) rfl (Nat.le_of_ble_eq_true rfl) ha) (fun v => rfl) rfl hr (fun r1 h1 => t_Md_see _ _ _ _ h1) (fun x2 h1 hr => ?_)
    refine j_callG (pc := 149) (stk := [(0, x2)]) (as := [(0, x2)]) (P := (fun v9 => ((0 : Nat), v9) :: [])) (tg := 0) (My := M_Md_isDigit) (mRunS (as := [(0, x2)]) (st := []) d_Md_reads_149 (mc_Md_isDigit (by decide)) rfl ⟨tb_ml_Md_112, tb_sm_Md_isDigit⟩ rfl (Nat.le_of_ble_eq_true rfl)) (fun v => rfl) rfl hr (fun r1 h1 => t_Md_isDigit _ _ _ h1) (fun x4 h3 hr => ?_)
    refine j_if_eq (pc := 152) (tgt := 212) d_Md_reads_152 hr (fun hr => ?_) (fun hr => ?_)
    · exact mJ_weak (ls' := [(2, v0), (9, 0)]) (mwk_s (mwk_s mwk_n)) (hK212 h3  hr)
    · refine j_aload_n (pc := 155) d_Md_reads_155 rfl ?_
      refine j_aload_n (pc := 156) d_Md_reads_156 rfl ?_
      refine j_getf (pc := 157) d_Md_reads_157 (fd_Md_95 rfl) hr (fun hr => ?_)
      refine j_aload_n (pc := 160) d_Md_reads_160 rfl ?_
      refine j_getf (pc := 161) d_Md_reads_161 (fd_Md_98 rfl) hr (fun hr => ?_)
      refine j_isub (pc := 164) d_Md_reads_164 ?_
      refine j_iconst (pc := 165) d_Md_reads_165 ?_
      refine j_icmp_ge (pc := 166) (tgt := 192) d_Md_reads_166 hr (fun hr => ?_) (fun hr => ?_)
      · refine j_aload_n (pc := 192) d_Md_reads_192 rfl ?_
        refine j_getf (pc := 193) d_Md_reads_193 (fd_Md_115 rfl) hr (fun hr => ?_)
        exact mJ_weak (ls' := [(2, v0), (9, 0)]) (mwk_s (mwk_s mwk_n)) (t_Md_reads_J196 hR141 hr)
      · refine j_bipush (pc := 169) d_Md_reads_169 ?_
        refine j_aload_n (pc := 171) d_Md_reads_171 rfl ?_
        refine j_getf (pc := 172) d_Md_reads_172 (fd_Md_115 rfl) hr (fun hr => ?_)
        refine j_imul (pc := 175) d_Md_reads_175 ?_
        refine j_aload_n (pc := 176) d_Md_reads_176 rfl ?_
        refine j_getf (pc := 177) d_Md_reads_177 (fd_Md_26 rfl) hr (fun hr => ?_)
        refine j_aload_n (pc := 180) d_Md_reads_180 rfl ?_
        refine j_getf (pc := 181) d_Md_reads_181 (fd_Md_95 rfl) hr (fun hr => ?_)
        refine j_iaload (pc := 184) d_Md_reads_184 hr (fun hr => ?_)
        refine j_iadd (pc := 185) d_Md_reads_185 ?_
        refine j_bipush (pc := 186) d_Md_reads_186 ?_
        refine j_isub (pc := 188) d_Md_reads_188 ?_
        refine j_goto (pc := 189) (tgt := 196) d_Md_reads_189 ?_
        exact mJ_weak (ls' := [(2, v0), (9, 0)]) (mwk_s (mwk_s mwk_n)) (t_Md_reads_J196 hR141 hr)
theorem t_Md_reads_J231 {G : mG} {r : mR} {s0 s1 : Int} {h : mH}  (hr : f_Md_reads_J231 s0 s1 h = some r) : mJ G M_Md_reads 231 [(9, 0), (9, 0)] [(0, s1), (2, s0)] h r := by
  unfold f_Md_reads_J231 at hr
  refine j_puti (pc := 231) d_Md_reads_231 (fd_Md_101 rfl) (⟨_, _, _, rfl, Or.inl rfl, rfl⟩ : mFldW M_Md_reads 101 11 11 .int) hr (fun h1 hr => ?_)
  refine j_goto (pc := 234) (tgt := 262) d_Md_reads_234 ?_
  exact j_vret (pc := 262) d_Md_reads_262 rfl hr
theorem t_Md_reads_L94 {G : mG} {r : mR} {v0 : Int} {K121 : mH → Option mR} (hK121 : ∀ (h : mH) , K121 h  = some r → mJ G M_Md_reads 121 [(2, v0), (9, 0)] [] h r) : ∀ (n : Nat) (h : mH) , f_Md_reads_L94 K121 v0 n h  = some r → mJ G M_Md_reads 94 [(2, v0), (9, 0)] [] h r := by
  intro n
  induction n with
  | zero =>
    intro h  hr
    rw [f_Md_reads_L94] at hr
    cases hr
  | succ n hR94 =>
    intro h  hr
    rw [f_Md_reads_L94] at hr
    refine j_aload_n (pc := 94) d_Md_reads_94 rfl ?_
    refine j_aload_n (pc := 95) d_Md_reads_95 rfl ?_
    refine j_getf (pc := 96) d_Md_reads_96 (fd_Md_95 rfl) hr (fun hr => ?_)
    obtain ⟨ha, hr⟩ := chk_some hr
    refine j_callG (pc := 99) (stk := [(0, hpV h v0 9), (2, v0)]) (as := [(2, v0), (0, hpV h v0 9)]) (P := (fun v9 => ((0 : Nat), v9) :: [])) (tg := 0) (My := M_Md_see) (mRunV (as := [(0, hpV h v0 9)]) (st := []) d_Md_reads_99 (mc_Md_see (by decide)) rfl (mv_Md_see tb_ml_Md_108) rfl (Nat.le_of_ble_eq_true rfl) ha) (fun v => rfl) rfl hr (fun r1 h1 => t_Md_see _ _ _ _ h1) (fun x2 h1 hr => ?_)
    refine j_callG (pc := 102) (stk := [(0, x2)]) (as := [(0, x2)]) (P := (fun v9 => ((0 : Nat), v9) :: [])) (tg := 0) (My := M_Md_isLetter) (mRunS (as := [(0, x2)]) (st := []) d_Md_reads_102 (mc_Md_isLetter (by decide)) rfl ⟨tb_ml_Md_104, tb_sm_Md_isLetter⟩ rfl (Nat.le_of_ble_eq_true rfl)) (fun v => rfl) rfl hr (fun r1 h1 => t_Md_isLetter _ _ _ h1) (fun x4 h3 hr => ?_)
    refine j_if_eq (pc := 105) (tgt := 121) d_Md_reads_105 hr (fun hr => ?_) (fun hr => ?_)
    · exact mJ_weak (ls' := [(2, v0), (9, 0)]) (mwk_s (mwk_s mwk_n)) (hK121 h3  hr)
    · refine j_aload_n (pc := 108) d_Md_reads_108 rfl ?_
      refine j_dup (pc := 109) d_Md_reads_109 ?_
      refine j_getf (pc := 110) d_Md_reads_110 (fd_Md_95 rfl) hr (fun hr => ?_)
      refine j_iconst (pc := 113) d_Md_reads_113 ?_
      refine j_iadd (pc := 114) d_Md_reads_114 ?_
      refine j_puti (pc := 115) d_Md_reads_115 (fd_Md_95 rfl) (⟨_, _, _, rfl, Or.inl rfl, rfl⟩ : mFldW M_Md_reads 95 11 9 .int) hr (fun h5 hr => ?_)
      refine j_goto (pc := 118) (tgt := 94) d_Md_reads_118 ?_
      exact mJ_weak (ls' := [(2, v0), (9, 0)]) (mwk_s (mwk_s mwk_n)) (hR94 h5  hr)
theorem t_Md_reads_J52 {G : mG} {r : mR} {v0 : Int} {h : mH}  (hr : f_Md_reads_J52 v0 h = some r) : mJ G M_Md_reads 52 [(2, v0), (9, 0)] [] h r := by
  unfold f_Md_reads_J52 at hr
  refine j_aload_n (pc := 52) d_Md_reads_52 rfl ?_
  refine j_aload_n (pc := 53) d_Md_reads_53 rfl ?_
  refine j_getf (pc := 54) d_Md_reads_54 (fd_Md_95 rfl) hr (fun hr => ?_)
  refine j_puti (pc := 57) d_Md_reads_57 (fd_Md_98 rfl) (⟨_, _, _, rfl, Or.inl rfl, rfl⟩ : mFldW M_Md_reads 98 11 10 .int) hr (fun h1 hr => ?_)
  refine j_aload_n (pc := 60) d_Md_reads_60 rfl ?_
  refine j_getf (pc := 61) d_Md_reads_61 (fd_Md_95 rfl) hr (fun hr => ?_)
  refine j_aload_n (pc := 64) d_Md_reads_64 rfl ?_
  refine j_getf (pc := 65) d_Md_reads_65 (fd_Md_92 rfl) hr (fun hr => ?_)
  refine j_icmp_lt (pc := 68) (tgt := 77) d_Md_reads_68 hr (fun hr => ?_) (fun hr => ?_)
  · refine j_aload_n (pc := 77) d_Md_reads_77 rfl ?_
    refine j_getf (pc := 78) d_Md_reads_78 (fd_Md_26 rfl) hr (fun hr => ?_)
    refine j_aload_n (pc := 81) d_Md_reads_81 rfl ?_
    refine j_getf (pc := 82) d_Md_reads_82 (fd_Md_95 rfl) hr (fun hr => ?_)
    refine j_iaload (pc := 85) d_Md_reads_85 hr (fun hr => ?_)
    refine j_istoreW_n (pc := 86) (L := fun x2 => [(2, v0), (0, x2)]) d_Md_reads_86 (fun _ => rfl) hr (fun x2 hr => ?_)
    refine j_iload_n (pc := 87) d_Md_reads_87 rfl ?_
    refine j_callG (pc := 88) (stk := [(0, x2)]) (as := [(0, x2)]) (P := (fun v9 => ((0 : Nat), v9) :: [])) (tg := 0) (My := M_Md_isLetter) (mRunS (as := [(0, x2)]) (st := []) d_Md_reads_88 (mc_Md_isLetter (by decide)) rfl ⟨tb_ml_Md_104, tb_sm_Md_isLetter⟩ rfl (Nat.le_of_ble_eq_true rfl)) (fun v => rfl) rfl hr (fun r1 h1 => t_Md_isLetter _ _ _ h1) (fun x4 h3 hr => ?_)
    refine j_if_eq (pc := 91) (tgt := 129) d_Md_reads_91 hr (fun hr => ?_) (fun hr => ?_)
    · refine j_iload_n (pc := 129) d_Md_reads_129 rfl ?_
      refine j_callG (pc := 130) (stk := [(0, x2)]) (as := [(0, x2)]) (P := (fun v9 => ((0 : Nat), v9) :: [])) (tg := 0) (My := M_Md_isDigit) (mRunS (as := [(0, x2)]) (st := []) d_Md_reads_130 (mc_Md_isDigit (by decide)) rfl ⟨tb_ml_Md_112, tb_sm_Md_isDigit⟩ rfl (Nat.le_of_ble_eq_true rfl)) (fun v => rfl) rfl hr (fun r1 h1 => t_Md_isDigit _ _ _ h1) (fun x6 h5 hr => ?_)
      refine j_if_eq (pc := 133) (tgt := 237) d_Md_reads_133 hr (fun hr => ?_) (fun hr => ?_)
      · refine j_aload_n (pc := 237) d_Md_reads_237 rfl ?_
        refine j_iload_n (pc := 238) d_Md_reads_238 rfl ?_
        refine j_bipush (pc := 239) d_Md_reads_239 ?_
        refine j_icmp_ne (pc := 241) (tgt := 248) d_Md_reads_241 hr (fun hr => ?_) (fun hr => ?_)
        · refine j_iconst (pc := 248) d_Md_reads_248 ?_
          exact mJ_weak (ls' := [(2, v0), (9, 0)]) (mwk_s (mwk_d mwk_n)) (t_Md_reads_J249  hr)
        · refine j_iconst (pc := 244) d_Md_reads_244 ?_
          refine j_goto (pc := 245) (tgt := 249) d_Md_reads_245 ?_
          exact mJ_weak (ls' := [(2, v0), (9, 0)]) (mwk_s (mwk_d mwk_n)) (t_Md_reads_J249  hr)
      · refine j_aload_n (pc := 136) d_Md_reads_136 rfl ?_
        refine j_iconst (pc := 137) d_Md_reads_137 ?_
        refine j_puti (pc := 138) d_Md_reads_138 (fd_Md_115 rfl) (⟨_, _, _, rfl, Or.inl rfl, rfl⟩ : mFldW M_Md_reads 115 11 12 .int) hr (fun h7 hr => ?_)
        refine mJ_weak (ls' := [(2, v0), (9, 0)]) (mwk_s (mwk_d mwk_n)) (t_Md_reads_L141 (fun h8  hr => ?_) _ _  hr)
        · refine j_aload_n (pc := 212) d_Md_reads_212 rfl ?_
          refine j_aload_n (pc := 213) d_Md_reads_213 rfl ?_
          refine j_getf (pc := 214) d_Md_reads_214 (fd_Md_95 rfl) hr (fun hr => ?_)
          refine j_aload_n (pc := 217) d_Md_reads_217 rfl ?_
          refine j_getf (pc := 218) d_Md_reads_218 (fd_Md_98 rfl) hr (fun hr => ?_)
          refine j_isub (pc := 221) d_Md_reads_221 ?_
          refine j_iconst (pc := 222) d_Md_reads_222 ?_
          refine j_icmp_le (pc := 223) (tgt := 230) d_Md_reads_223 hr (fun hr => ?_) (fun hr => ?_)
          · refine j_iconst (pc := 230) d_Md_reads_230 ?_
            exact mJ_weak (ls' := [(9, 0), (9, 0)]) (mwk_d (mwk_s mwk_n)) (t_Md_reads_J231  hr)
          · refine j_iconst (pc := 226) d_Md_reads_226 ?_
            refine j_goto (pc := 227) (tgt := 231) d_Md_reads_227 ?_
            exact mJ_weak (ls' := [(9, 0), (9, 0)]) (mwk_d (mwk_s mwk_n)) (t_Md_reads_J231  hr)
    · refine mJ_weak (ls' := [(2, v0), (9, 0)]) (mwk_s (mwk_d mwk_n)) (t_Md_reads_L94 (fun h9  hr => ?_) _ _  hr)
      · refine j_aload_n (pc := 121) d_Md_reads_121 rfl ?_
        refine j_iconst (pc := 122) d_Md_reads_122 ?_
        refine j_puti (pc := 123) d_Md_reads_123 (fd_Md_101 rfl) (⟨_, _, _, rfl, Or.inl rfl, rfl⟩ : mFldW M_Md_reads 101 11 11 .int) hr (fun h10 hr => ?_)
        refine j_goto (pc := 126) (tgt := 262) d_Md_reads_126 ?_
        exact j_vret (pc := 262) d_Md_reads_262 rfl hr
  · refine j_aload_n (pc := 71) d_Md_reads_71 rfl ?_
    refine j_iconst (pc := 72) d_Md_reads_72 ?_
    refine j_puti (pc := 73) d_Md_reads_73 (fd_Md_101 rfl) (⟨_, _, _, rfl, Or.inl rfl, rfl⟩ : mFldW M_Md_reads 101 11 11 .int) hr (fun h11 hr => ?_)
    exact j_vret (pc := 76) d_Md_reads_76 rfl hr
theorem t_Md_reads {G : mG} (h : mH) (v0 : Int) (r : mR) (hr : f_Md_reads h v0 = some r) : mJM G M_Md_reads [(2, v0)] h r := by
  refine mJM_of (L := [(2, v0), (9, 0)]) rfl rfl rfl (Nat.le_of_ble_eq_true rfl) ?_
  unfold f_Md_reads at hr
  refine mJ_weak (ls' := [(2, v0), (9, 0)]) (mwk_s (mwk_s mwk_n)) (t_Md_reads_L0 (fun h1  hr => ?_) _ _  hr)
  · exact mJ_weak (ls' := [(2, v0), (9, 0)]) (mwk_s (mwk_s mwk_n)) (t_Md_reads_J52  hr)
def M_Md_blames : mM := ("NineBarsModel", ⟨"NineBarsModel", "blames", "(I)V"⟩, prog_13_method_11_code, 2, none, [], 1)
theorem tb_co_Md_blames : mTB (Cond.code ⟨"NineBarsModel", "blames", "(I)V"⟩ prog_13_method_11_code 2 (none)) := tbq7 140 (by decide +kernel) rfl
theorem mc_Md_blames {M : mM} (hd : 1 < mDp M) : mCal M M_Md_blames 1 := ⟨tb_co_Md_blames, tb_in_NineBarsModel, ⟨by decide +kernel, by decide +kernel⟩, by decide +kernel, hd, by decide⟩
theorem d_Md_blames_0 : decode prog_13_method_11_code 0 = .ok (.aload_n 0, 1) := by decide +kernel
theorem tb_fl_Md_118 : mTB (Cond.fieldLink "NineBarsModel" 118 "NineBarsModel" "bad" "I") := tbq6 220 (by decide +kernel) rfl
theorem fd_Md_118 {M : mM} (h : mO M = "NineBarsModel") : mFld M 118 11 13 0 := ⟨_, _, _, tyX11, rfl, by decide, by decide, rfl, uw_11, tyX11_ok, nmX11, by rw [h]; exact Or.inl tb_fl_Md_118⟩
theorem d_Md_blames_1 : decode prog_13_method_11_code 1 = .ok (.getfield 118, 3) := by decide +kernel
theorem d_Md_blames_4 : decode prog_13_method_11_code 4 = .ok (.ifCond .eq 4, 3) := by decide +kernel
theorem d_Md_blames_8 : decode prog_13_method_11_code 8 = .ok (.aload_n 0, 1) := by decide +kernel
theorem d_Md_blames_9 : decode prog_13_method_11_code 9 = .ok (.aload_n 0, 1) := by decide +kernel
theorem d_Md_blames_10 : decode prog_13_method_11_code 10 = .ok (.getfield 101, 3) := by decide +kernel
theorem d_Md_blames_13 : decode prog_13_method_11_code 13 = .ok (.iconst 4, 1) := by decide +kernel
theorem d_Md_blames_14 : decode prog_13_method_11_code 14 = .ok (.if_icmp .ne 7, 3) := by decide +kernel
theorem d_Md_blames_21 : decode prog_13_method_11_code 21 = .ok (.iload_n 1, 1) := by decide +kernel
theorem d_Md_blames_22 : decode prog_13_method_11_code 22 = .ok (.putfield 118, 3) := by decide +kernel
theorem d_Md_blames_25 : decode prog_13_method_11_code 25 = .ok (.aload_n 0, 1) := by decide +kernel
theorem d_Md_blames_26 : decode prog_13_method_11_code 26 = .ok (.aload_n 0, 1) := by decide +kernel
theorem d_Md_blames_27 : decode prog_13_method_11_code 27 = .ok (.getfield 98, 3) := by decide +kernel
theorem tb_fl_Md_121 : mTB (Cond.fieldLink "NineBarsModel" 121 "NineBarsModel" "badPlace" "I") := tbq6 221 (by decide +kernel) rfl
theorem fd_Md_121 {M : mM} (h : mO M = "NineBarsModel") : mFld M 121 11 14 0 := ⟨_, _, _, tyX11, rfl, by decide, by decide, rfl, uw_11, tyX11_ok, nmX11, by rw [h]; exact Or.inl tb_fl_Md_121⟩
theorem d_Md_blames_30 : decode prog_13_method_11_code 30 = .ok (.putfield 121, 3) := by decide +kernel
theorem d_Md_blames_33 : decode prog_13_method_11_code 33 = .ok (.return_, 1) := by decide +kernel
theorem d_Md_blames_17 : decode prog_13_method_11_code 17 = .ok (.iconst 1, 1) := by decide +kernel
theorem d_Md_blames_18 : decode prog_13_method_11_code 18 = .ok (.goto 4, 3) := by decide +kernel
theorem d_Md_blames_7 : decode prog_13_method_11_code 7 = .ok (.return_, 1) := by decide +kernel
theorem t_Md_blames_J22 {G : mG} {r : mR} {v0 s0 s1 : Int} {h : mH}  (hr : f_Md_blames_J22 v0 s0 s1 h = some r) : mJ G M_Md_blames 22 [(2, v0), (9, 0)] [(0, s1), (2, s0)] h r := by
  unfold f_Md_blames_J22 at hr
  refine j_puti (pc := 22) d_Md_blames_22 (fd_Md_118 rfl) (⟨_, _, _, rfl, Or.inl rfl, rfl⟩ : mFldW M_Md_blames 118 11 13 .int) hr (fun h1 hr => ?_)
  refine j_aload_n (pc := 25) d_Md_blames_25 rfl ?_
  refine j_aload_n (pc := 26) d_Md_blames_26 rfl ?_
  refine j_getf (pc := 27) d_Md_blames_27 (fd_Md_98 rfl) hr (fun hr => ?_)
  refine j_puti (pc := 30) d_Md_blames_30 (fd_Md_121 rfl) (⟨_, _, _, rfl, Or.inl rfl, rfl⟩ : mFldW M_Md_blames 121 11 14 .int) hr (fun h2 hr => ?_)
  exact j_vret (pc := 33) d_Md_blames_33 rfl hr
theorem t_Md_blames {G : mG} (h : mH) (v0 v1 : Int) (r : mR) (hr : f_Md_blames h v0 v1 = some r) : mJM G M_Md_blames [(2, v0), (0, v1)] h r := by
  refine mJM_of (L := [(2, v0), (0, v1)]) rfl rfl rfl (Nat.le_of_ble_eq_true rfl) ?_
  unfold f_Md_blames at hr
  refine j_aload_n (pc := 0) d_Md_blames_0 rfl ?_
  refine j_getf (pc := 1) d_Md_blames_1 (fd_Md_118 rfl) hr (fun hr => ?_)
  refine j_if_eq (pc := 4) (tgt := 8) d_Md_blames_4 hr (fun hr => ?_) (fun hr => ?_)
  · refine j_aload_n (pc := 8) d_Md_blames_8 rfl ?_
    refine j_aload_n (pc := 9) d_Md_blames_9 rfl ?_
    refine j_getf (pc := 10) d_Md_blames_10 (fd_Md_101 rfl) hr (fun hr => ?_)
    refine j_iconst (pc := 13) d_Md_blames_13 ?_
    refine j_icmp_ne (pc := 14) (tgt := 21) d_Md_blames_14 hr (fun hr => ?_) (fun hr => ?_)
    · refine j_iload_n (pc := 21) d_Md_blames_21 rfl ?_
      exact mJ_weak (ls' := [(2, v0), (9, 0)]) (mwk_s (mwk_d mwk_n)) (t_Md_blames_J22  hr)
    · refine j_iconst (pc := 17) d_Md_blames_17 ?_
      refine j_goto (pc := 18) (tgt := 22) d_Md_blames_18 ?_
      exact mJ_weak (ls' := [(2, v0), (9, 0)]) (mwk_s (mwk_d mwk_n)) (t_Md_blames_J22  hr)
  · exact j_vret (pc := 7) d_Md_blames_7 rfl hr
def M_Md_isWord : mM := ("NineBarsModel", ⟨"NineBarsModel", "isWord", "(Ljava/lang/String;)Z"⟩, prog_13_method_12_code, 4, some .boolean, [], 5)
theorem tb_co_Md_isWord : mTB (Cond.code ⟨"NineBarsModel", "isWord", "(Ljava/lang/String;)Z"⟩ prog_13_method_12_code 4 (some .boolean)) := tbq7 130 (by decide +kernel) rfl
theorem mc_Md_isWord {M : mM} (hd : 5 < mDp M) : mCal M M_Md_isWord 1 := ⟨tb_co_Md_isWord, tb_in_NineBarsModel, ⟨by decide +kernel, by decide +kernel⟩, by decide +kernel, hd, by decide⟩
theorem d_Md_isWord_0 : decode prog_13_method_12_code 0 = .ok (.aload_n 0, 1) := by decide +kernel
theorem d_Md_isWord_1 : decode prog_13_method_12_code 1 = .ok (.getfield 118, 3) := by decide +kernel
theorem d_Md_isWord_4 : decode prog_13_method_12_code 4 = .ok (.ifCond .ne 31, 3) := by decide +kernel
theorem d_Md_isWord_35 : decode prog_13_method_12_code 35 = .ok (.iconst 0, 1) := by decide +kernel
theorem d_Md_isWord_36 : decode prog_13_method_12_code 36 = .ok (.istore_n 2, 1) := by decide +kernel
theorem d_Md_isWord_37 : decode prog_13_method_12_code 37 = .ok (.iconst 0, 1) := by decide +kernel
theorem d_Md_isWord_38 : decode prog_13_method_12_code 38 = .ok (.istore_n 3, 1) := by decide +kernel
theorem d_Md_isWord_39 : decode prog_13_method_12_code 39 = .ok (.iload_n 2, 1) := by decide +kernel
theorem d_Md_isWord_40 : decode prog_13_method_12_code 40 = .ok (.ifCond .eq 42, 3) := by decide +kernel
theorem d_Md_isWord_82 : decode prog_13_method_12_code 82 = .ok (.iload_n 2, 1) := by decide +kernel
theorem d_Md_isWord_83 : decode prog_13_method_12_code 83 = .ok (.ireturn, 1) := by decide +kernel
theorem d_Md_isWord_43 : decode prog_13_method_12_code 43 = .ok (.iload_n 3, 1) := by decide +kernel
theorem d_Md_isWord_44 : decode prog_13_method_12_code 44 = .ok (.aload_n 1, 1) := by decide +kernel
theorem d_Md_isWord_45 : decode prog_13_method_12_code 45 = .ok (.invokevirtual 124, 3) := by decide +kernel
theorem tb_ml_Md_124 : mTB (Cond.methodLink "NineBarsModel" 124 ⟨"java/lang/String", "length", "()I"⟩) := tbq7 131 (by decide +kernel) rfl
theorem d_Md_isWord_48 : decode prog_13_method_12_code 48 = .ok (.if_icmp .ge 34, 3) := by decide +kernel
theorem d_Md_isWord_51 : decode prog_13_method_12_code 51 = .ok (.aload_n 0, 1) := by decide +kernel
theorem d_Md_isWord_52 : decode prog_13_method_12_code 52 = .ok (.getfield 26, 3) := by decide +kernel
theorem d_Md_isWord_55 : decode prog_13_method_12_code 55 = .ok (.aload_n 0, 1) := by decide +kernel
theorem d_Md_isWord_56 : decode prog_13_method_12_code 56 = .ok (.getfield 98, 3) := by decide +kernel
theorem d_Md_isWord_59 : decode prog_13_method_12_code 59 = .ok (.iload_n 3, 1) := by decide +kernel
theorem d_Md_isWord_60 : decode prog_13_method_12_code 60 = .ok (.iadd, 1) := by decide +kernel
theorem d_Md_isWord_61 : decode prog_13_method_12_code 61 = .ok (.iaload, 1) := by decide +kernel
theorem d_Md_isWord_62 : decode prog_13_method_12_code 62 = .ok (.aload_n 1, 1) := by decide +kernel
theorem d_Md_isWord_63 : decode prog_13_method_12_code 63 = .ok (.iload_n 3, 1) := by decide +kernel
theorem d_Md_isWord_64 : decode prog_13_method_12_code 64 = .ok (.invokevirtual 129, 3) := by decide +kernel
theorem tb_ml_Md_129 : mTB (Cond.methodLink "NineBarsModel" 129 ⟨"java/lang/String", "charAt", "(I)C"⟩) := tbq7 132 (by decide +kernel) rfl
theorem d_Md_isWord_67 : decode prog_13_method_12_code 67 = .ok (.if_icmp .ne 7, 3) := by decide +kernel
theorem d_Md_isWord_74 : decode prog_13_method_12_code 74 = .ok (.iconst 0, 1) := by decide +kernel
theorem d_Md_isWord_75 : decode prog_13_method_12_code 75 = .ok (.istore_n 2, 1) := by decide +kernel
theorem d_Md_isWord_76 : decode prog_13_method_12_code 76 = .ok (.iinc 3 1, 3) := by decide +kernel
theorem d_Md_isWord_79 : decode prog_13_method_12_code 79 = .ok (.goto (-40), 3) := by decide +kernel
theorem d_Md_isWord_70 : decode prog_13_method_12_code 70 = .ok (.iconst 1, 1) := by decide +kernel
theorem d_Md_isWord_71 : decode prog_13_method_12_code 71 = .ok (.goto 4, 3) := by decide +kernel
theorem d_Md_isWord_7 : decode prog_13_method_12_code 7 = .ok (.aload_n 0, 1) := by decide +kernel
theorem d_Md_isWord_8 : decode prog_13_method_12_code 8 = .ok (.getfield 101, 3) := by decide +kernel
theorem d_Md_isWord_11 : decode prog_13_method_12_code 11 = .ok (.iconst 1, 1) := by decide +kernel
theorem d_Md_isWord_12 : decode prog_13_method_12_code 12 = .ok (.if_icmp .ne 23, 3) := by decide +kernel
theorem d_Md_isWord_15 : decode prog_13_method_12_code 15 = .ok (.aload_n 0, 1) := by decide +kernel
theorem d_Md_isWord_16 : decode prog_13_method_12_code 16 = .ok (.getfield 95, 3) := by decide +kernel
theorem d_Md_isWord_19 : decode prog_13_method_12_code 19 = .ok (.aload_n 0, 1) := by decide +kernel
theorem d_Md_isWord_20 : decode prog_13_method_12_code 20 = .ok (.getfield 98, 3) := by decide +kernel
theorem d_Md_isWord_23 : decode prog_13_method_12_code 23 = .ok (.isub, 1) := by decide +kernel
theorem d_Md_isWord_24 : decode prog_13_method_12_code 24 = .ok (.aload_n 1, 1) := by decide +kernel
theorem d_Md_isWord_25 : decode prog_13_method_12_code 25 = .ok (.invokevirtual 124, 3) := by decide +kernel
theorem d_Md_isWord_28 : decode prog_13_method_12_code 28 = .ok (.if_icmp .ne 7, 3) := by decide +kernel
theorem d_Md_isWord_31 : decode prog_13_method_12_code 31 = .ok (.iconst 1, 1) := by decide +kernel
theorem d_Md_isWord_32 : decode prog_13_method_12_code 32 = .ok (.goto 4, 3) := by decide +kernel
theorem t_Md_isWord_J75 {G : mG} {r : mR} {v0 v1 v3 s0 : Int} {h : mH} {R39 : mH → Int → Int → Option mR} (hR39 : ∀ (h : mH) (w2 w3 : Int) , R39 h w2 w3 = some r → mJ G M_Md_isWord 39 [(2, v0), (2, v1), (0, w2), (0, w3)] [] h r) (hr : f_Md_isWord_J75 R39 v3 s0 h = some r) : mJ G M_Md_isWord 75 [(2, v0), (2, v1), (9, 0), (0, v3)] [(0, s0)] h r := by
  unfold f_Md_isWord_J75 at hr
  refine j_istore_n (pc := 75) (ls' := [(2, v0), (2, v1), (0, s0), (0, v3)]) d_Md_isWord_75 rfl ?_
  refine j_iincW (pc := 76) (L := fun x1 => [(2, v0), (2, v1), (0, s0), (0, x1)]) d_Md_isWord_76 rfl (fun _ => rfl) hr (fun x1 hr => ?_)
  refine j_goto (pc := 79) (tgt := 39) d_Md_isWord_79 ?_
  exact mJ_weak (ls' := [(2, v0), (2, v1), (0, s0), (0, x1)]) (mwk_s (mwk_s (mwk_s (mwk_s mwk_n)))) (hR39 h _ _ hr)
theorem t_Md_isWord_L39 {G : mG} {r : mR} {v0 v1 : Int}  : ∀ (n : Nat) (h : mH) (v2 v3 : Int), f_Md_isWord_L39 v0 v1 n h v2 v3 = some r → mJ G M_Md_isWord 39 [(2, v0), (2, v1), (0, v2), (0, v3)] [] h r := by
  intro n
  induction n with
  | zero =>
    intro h v2 v3 hr
    rw [f_Md_isWord_L39] at hr
    cases hr
  | succ n hR39 =>
    intro h v2 v3 hr
    rw [f_Md_isWord_L39] at hr
    refine j_iload_n (pc := 39) d_Md_isWord_39 rfl ?_
    refine j_if_eq (pc := 40) (tgt := 82) d_Md_isWord_40 hr (fun hr => ?_) (fun hr => ?_)
    · refine j_iload_n (pc := 82) d_Md_isWord_82 rfl ?_
      exact j_zret (pc := 83) d_Md_isWord_83 rfl hr
    · refine j_iload_n (pc := 43) d_Md_isWord_43 rfl ?_
      refine j_aload_n (pc := 44) d_Md_isWord_44 rfl ?_
      obtain ⟨ha, hr⟩ := chk_some hr
      refine j_call_Sg_length (pc := 45) d_Md_isWord_45 tb_ml_Md_124 (by decide) (Nat.le_of_ble_eq_true rfl) ha rfl hr (fun x2 h1 hr => ?_)
      refine j_icmp_ge (pc := 48) (tgt := 82) d_Md_isWord_48 hr (fun hr => ?_) (fun hr => ?_)
      · refine j_iload_n (pc := 82) d_Md_isWord_82 rfl ?_
        exact j_zret (pc := 83) d_Md_isWord_83 rfl hr
      · refine j_aload_n (pc := 51) d_Md_isWord_51 rfl ?_
        refine j_getf (pc := 52) d_Md_isWord_52 (fd_Md_26 rfl) hr (fun hr => ?_)
        refine j_aload_n (pc := 55) d_Md_isWord_55 rfl ?_
        refine j_getf (pc := 56) d_Md_isWord_56 (fd_Md_98 rfl) hr (fun hr => ?_)
        refine j_iload_n (pc := 59) d_Md_isWord_59 rfl ?_
        refine j_iadd (pc := 60) d_Md_isWord_60 ?_
        refine j_iaload (pc := 61) d_Md_isWord_61 hr (fun hr => ?_)
        refine j_aload_n (pc := 62) d_Md_isWord_62 rfl ?_
        refine j_iload_n (pc := 63) d_Md_isWord_63 rfl ?_
        obtain ⟨ha, hr⟩ := chk_some hr
        refine j_call_Sg_charAt (pc := 64) d_Md_isWord_64 tb_ml_Md_129 (by decide) (Nat.le_of_ble_eq_true rfl) ha rfl hr (fun x4 h3 hr => ?_)
        refine j_icmp_ne (pc := 67) (tgt := 74) d_Md_isWord_67 hr (fun hr => ?_) (fun hr => ?_)
        · refine j_iconst (pc := 74) d_Md_isWord_74 ?_
          exact mJ_weak (ls' := [(2, v0), (2, v1), (9, 0), (0, v3)]) (mwk_s (mwk_s (mwk_d (mwk_s mwk_n)))) (t_Md_isWord_J75 hR39 hr)
        · refine j_iconst (pc := 70) d_Md_isWord_70 ?_
          refine j_goto (pc := 71) (tgt := 75) d_Md_isWord_71 ?_
          exact mJ_weak (ls' := [(2, v0), (2, v1), (9, 0), (0, v3)]) (mwk_s (mwk_s (mwk_d (mwk_s mwk_n)))) (t_Md_isWord_J75 hR39 hr)
theorem t_Md_isWord_J36 {G : mG} {r : mR} {v0 v1 s0 : Int} {h : mH}  (hr : f_Md_isWord_J36 v0 v1 s0 h = some r) : mJ G M_Md_isWord 36 [(2, v0), (2, v1), (9, 0), (9, 0)] [(0, s0)] h r := by
  unfold f_Md_isWord_J36 at hr
  refine j_istore_n (pc := 36) (ls' := [(2, v0), (2, v1), (0, s0), (9, 0)]) d_Md_isWord_36 rfl ?_
  refine j_iconst (pc := 37) d_Md_isWord_37 ?_
  refine j_istore_n (pc := 38) (ls' := [(2, v0), (2, v1), (0, s0), (0, 0)]) d_Md_isWord_38 rfl ?_
  refine mJ_weak (ls' := [(2, v0), (2, v1), (0, s0), (0, 0)]) (mwk_s (mwk_s (mwk_s (mwk_s mwk_n)))) (t_Md_isWord_L39  _ _ _ _ hr)
theorem t_Md_isWord_J35 {G : mG} {r : mR} {v0 v1 : Int} {h : mH}  (hr : f_Md_isWord_J35 v0 v1 h = some r) : mJ G M_Md_isWord 35 [(2, v0), (2, v1), (9, 0), (9, 0)] [] h r := by
  unfold f_Md_isWord_J35 at hr
  refine j_iconst (pc := 35) d_Md_isWord_35 ?_
  exact mJ_weak (ls' := [(2, v0), (2, v1), (9, 0), (9, 0)]) (mwk_s (mwk_s (mwk_s (mwk_s mwk_n)))) (t_Md_isWord_J36  hr)
theorem t_Md_isWord {G : mG} (h : mH) (v0 v1 : Int) (r : mR) (hr : f_Md_isWord h v0 v1 = some r) : mJM G M_Md_isWord [(2, v0), (2, v1)] h r := by
  refine mJM_of (L := [(2, v0), (2, v1), (9, 0), (9, 0)]) rfl rfl rfl (Nat.le_of_ble_eq_true rfl) ?_
  unfold f_Md_isWord at hr
  refine j_aload_n (pc := 0) d_Md_isWord_0 rfl ?_
  refine j_getf (pc := 1) d_Md_isWord_1 (fd_Md_118 rfl) hr (fun hr => ?_)
  refine j_if_ne (pc := 4) (tgt := 35) d_Md_isWord_4 hr (fun hr => ?_) (fun hr => ?_)
  · exact mJ_weak (ls' := [(2, v0), (2, v1), (9, 0), (9, 0)]) (mwk_s (mwk_s (mwk_s (mwk_s mwk_n)))) (t_Md_isWord_J35  hr)
  · refine j_aload_n (pc := 7) d_Md_isWord_7 rfl ?_
    refine j_getf (pc := 8) d_Md_isWord_8 (fd_Md_101 rfl) hr (fun hr => ?_)
    refine j_iconst (pc := 11) d_Md_isWord_11 ?_
    refine j_icmp_ne (pc := 12) (tgt := 35) d_Md_isWord_12 hr (fun hr => ?_) (fun hr => ?_)
    · exact mJ_weak (ls' := [(2, v0), (2, v1), (9, 0), (9, 0)]) (mwk_s (mwk_s (mwk_s (mwk_s mwk_n)))) (t_Md_isWord_J35  hr)
    · refine j_aload_n (pc := 15) d_Md_isWord_15 rfl ?_
      refine j_getf (pc := 16) d_Md_isWord_16 (fd_Md_95 rfl) hr (fun hr => ?_)
      refine j_aload_n (pc := 19) d_Md_isWord_19 rfl ?_
      refine j_getf (pc := 20) d_Md_isWord_20 (fd_Md_98 rfl) hr (fun hr => ?_)
      refine j_isub (pc := 23) d_Md_isWord_23 ?_
      refine j_aload_n (pc := 24) d_Md_isWord_24 rfl ?_
      obtain ⟨ha, hr⟩ := chk_some hr
      refine j_call_Sg_length (pc := 25) d_Md_isWord_25 tb_ml_Md_124 (by decide) (Nat.le_of_ble_eq_true rfl) ha rfl hr (fun x2 h1 hr => ?_)
      refine j_icmp_ne (pc := 28) (tgt := 35) d_Md_isWord_28 hr (fun hr => ?_) (fun hr => ?_)
      · exact mJ_weak (ls' := [(2, v0), (2, v1), (9, 0), (9, 0)]) (mwk_s (mwk_s (mwk_s (mwk_s mwk_n)))) (t_Md_isWord_J35  hr)
      · refine j_iconst (pc := 31) d_Md_isWord_31 ?_
        refine j_goto (pc := 32) (tgt := 36) d_Md_isWord_32 ?_
        exact mJ_weak (ls' := [(2, v0), (2, v1), (9, 0), (9, 0)]) (mwk_s (mwk_s (mwk_s (mwk_s mwk_n)))) (t_Md_isWord_J36  hr)
def M_Md_took : mM := ("NineBarsModel", ⟨"NineBarsModel", "took", "(Ljava/lang/String;)Z"⟩, prog_13_method_13_code, 3, some .boolean, [], 7)
theorem tb_co_Md_took : mTB (Cond.code ⟨"NineBarsModel", "took", "(Ljava/lang/String;)Z"⟩ prog_13_method_13_code 3 (some .boolean)) := tbq7 149 (by decide +kernel) rfl
theorem mc_Md_took {M : mM} (hd : 7 < mDp M) : mCal M M_Md_took 1 := ⟨tb_co_Md_took, tb_in_NineBarsModel, ⟨by decide +kernel, by decide +kernel⟩, by decide +kernel, hd, by decide⟩
theorem d_Md_took_0 : decode prog_13_method_13_code 0 = .ok (.aload_n 0, 1) := by decide +kernel
theorem d_Md_took_1 : decode prog_13_method_13_code 1 = .ok (.aload_n 1, 1) := by decide +kernel
theorem d_Md_took_2 : decode prog_13_method_13_code 2 = .ok (.invokevirtual 133, 3) := by decide +kernel
theorem tb_ml_Md_133 : mTB (Cond.methodLink "NineBarsModel" 133 ⟨"NineBarsModel", "isWord", "(Ljava/lang/String;)Z"⟩) := tbq7 127 (by decide +kernel) rfl
theorem tb_im_Md_isWord : mTB (Cond.instanceMethod ⟨"NineBarsModel", "isWord", "(Ljava/lang/String;)Z"⟩) := tbq7 129 (by decide +kernel) rfl
theorem tb_se_Md_isWord : mTB (Cond.selects "NineBarsModel" ⟨"NineBarsModel", "isWord", "(Ljava/lang/String;)Z"⟩ ⟨"NineBarsModel", "isWord", "(Ljava/lang/String;)Z"⟩) := tbqp 49 (by decide +kernel) rfl
theorem mv_Md_isWord {M : mM} {idx : Nat} (h : mTB (Cond.methodLink (mO M) idx ⟨"NineBarsModel", "isWord", "(Ljava/lang/String;)Z"⟩)) : mCaV M M_Md_isWord idx 11 := ⟨h, tb_im_Md_isWord, tb_se_Md_isWord, by decide, TX11, 40, rfl⟩
theorem d_Md_took_5 : decode prog_13_method_13_code 5 = .ok (.istore_n 2, 1) := by decide +kernel
theorem d_Md_took_6 : decode prog_13_method_13_code 6 = .ok (.iload_n 2, 1) := by decide +kernel
theorem d_Md_took_7 : decode prog_13_method_13_code 7 = .ok (.ifCond .eq 7, 3) := by decide +kernel
theorem d_Md_took_14 : decode prog_13_method_13_code 14 = .ok (.iload_n 2, 1) := by decide +kernel
theorem d_Md_took_15 : decode prog_13_method_13_code 15 = .ok (.ireturn, 1) := by decide +kernel
theorem d_Md_took_10 : decode prog_13_method_13_code 10 = .ok (.aload_n 0, 1) := by decide +kernel
theorem d_Md_took_11 : decode prog_13_method_13_code 11 = .ok (.invokevirtual 137, 3) := by decide +kernel
theorem tb_ml_Md_137 : mTB (Cond.methodLink "NineBarsModel" 137 ⟨"NineBarsModel", "reads", "()V"⟩) := tbq7 108 (by decide +kernel) rfl
theorem tb_im_Md_reads : mTB (Cond.instanceMethod ⟨"NineBarsModel", "reads", "()V"⟩) := tbq7 110 (by decide +kernel) rfl
theorem tb_se_Md_reads : mTB (Cond.selects "NineBarsModel" ⟨"NineBarsModel", "reads", "()V"⟩ ⟨"NineBarsModel", "reads", "()V"⟩) := tbqp 46 (by decide +kernel) rfl
theorem mv_Md_reads {M : mM} {idx : Nat} (h : mTB (Cond.methodLink (mO M) idx ⟨"NineBarsModel", "reads", "()V"⟩)) : mCaV M M_Md_reads idx 11 := ⟨h, tb_im_Md_reads, tb_se_Md_reads, by decide, TX11, 40, rfl⟩
theorem t_Md_took {G : mG} (h : mH) (v0 v1 : Int) (r : mR) (hr : f_Md_took h v0 v1 = some r) : mJM G M_Md_took [(2, v0), (2, v1)] h r := by
  refine mJM_of (L := [(2, v0), (2, v1), (9, 0)]) rfl rfl rfl (Nat.le_of_ble_eq_true rfl) ?_
  unfold f_Md_took at hr
  refine j_aload_n (pc := 0) d_Md_took_0 rfl ?_
  refine j_aload_n (pc := 1) d_Md_took_1 rfl ?_
  obtain ⟨ha, hr⟩ := chk_some hr
  refine j_callG (pc := 2) (stk := [(2, v1), (2, v0)]) (as := [(2, v0), (2, v1)]) (P := (fun v9 => ((0 : Nat), v9) :: [])) (tg := 0) (My := M_Md_isWord) (mRunV (as := [(2, v1)]) (st := []) d_Md_took_2 (mc_Md_isWord (by decide)) rfl (mv_Md_isWord tb_ml_Md_133) rfl (Nat.le_of_ble_eq_true rfl) ha) (fun v => rfl) rfl hr (fun r1 h1 => t_Md_isWord _ _ _ _ h1) (fun x2 h1 hr => ?_)
  refine j_istore_n (pc := 5) (ls' := [(2, v0), (2, v1), (0, x2)]) d_Md_took_5 rfl ?_
  refine j_iload_n (pc := 6) d_Md_took_6 rfl ?_
  refine j_if_eq (pc := 7) (tgt := 14) d_Md_took_7 hr (fun hr => ?_) (fun hr => ?_)
  · refine j_iload_n (pc := 14) d_Md_took_14 rfl ?_
    exact j_zret (pc := 15) d_Md_took_15 rfl hr
  · refine j_aload_n (pc := 10) d_Md_took_10 rfl ?_
    obtain ⟨ha, hr⟩ := chk_some hr
    refine j_callG (pc := 11) (stk := [(2, v0)]) (as := [(2, v0)]) (P := (fun v9 => [])) (tg := 3) (My := M_Md_reads) (mRunV (as := []) (st := []) d_Md_took_11 (mc_Md_reads (by decide)) rfl (mv_Md_reads tb_ml_Md_137) rfl (Nat.le_of_ble_eq_true rfl) ha) (fun v => rfl) rfl hr (fun r1 h1 => t_Md_reads _ _ _ h1) (fun x4 h3 hr => ?_)
    refine j_iload_n (pc := 14) d_Md_took_14 rfl ?_
    exact j_zret (pc := 15) d_Md_took_15 rfl hr
def M_Md_must : mM := ("NineBarsModel", ⟨"NineBarsModel", "must", "(Ljava/lang/String;)V"⟩, prog_13_method_14_code, 2, none, [], 9)
theorem tb_co_Md_must : mTB (Cond.code ⟨"NineBarsModel", "must", "(Ljava/lang/String;)V"⟩ prog_13_method_14_code 2 (none)) := tbq7 168 (by decide +kernel) rfl
theorem mc_Md_must {M : mM} (hd : 9 < mDp M) : mCal M M_Md_must 1 := ⟨tb_co_Md_must, tb_in_NineBarsModel, ⟨by decide +kernel, by decide +kernel⟩, by decide +kernel, hd, by decide⟩
theorem d_Md_must_0 : decode prog_13_method_14_code 0 = .ok (.aload_n 0, 1) := by decide +kernel
theorem d_Md_must_1 : decode prog_13_method_14_code 1 = .ok (.aload_n 1, 1) := by decide +kernel
theorem d_Md_must_2 : decode prog_13_method_14_code 2 = .ok (.invokevirtual 140, 3) := by decide +kernel
theorem tb_ml_Md_140 : mTB (Cond.methodLink "NineBarsModel" 140 ⟨"NineBarsModel", "took", "(Ljava/lang/String;)Z"⟩) := tbq7 146 (by decide +kernel) rfl
theorem tb_im_Md_took : mTB (Cond.instanceMethod ⟨"NineBarsModel", "took", "(Ljava/lang/String;)Z"⟩) := tbq7 148 (by decide +kernel) rfl
theorem tb_se_Md_took : mTB (Cond.selects "NineBarsModel" ⟨"NineBarsModel", "took", "(Ljava/lang/String;)Z"⟩ ⟨"NineBarsModel", "took", "(Ljava/lang/String;)Z"⟩) := tbqp 53 (by decide +kernel) rfl
theorem mv_Md_took {M : mM} {idx : Nat} (h : mTB (Cond.methodLink (mO M) idx ⟨"NineBarsModel", "took", "(Ljava/lang/String;)Z"⟩)) : mCaV M M_Md_took idx 11 := ⟨h, tb_im_Md_took, tb_se_Md_took, by decide, TX11, 40, rfl⟩
theorem d_Md_must_5 : decode prog_13_method_14_code 5 = .ok (.ifCond .ne 8, 3) := by decide +kernel
theorem d_Md_must_13 : decode prog_13_method_14_code 13 = .ok (.return_, 1) := by decide +kernel
theorem d_Md_must_8 : decode prog_13_method_14_code 8 = .ok (.aload_n 0, 1) := by decide +kernel
theorem d_Md_must_9 : decode prog_13_method_14_code 9 = .ok (.iconst 2, 1) := by decide +kernel
theorem d_Md_must_10 : decode prog_13_method_14_code 10 = .ok (.invokevirtual 143, 3) := by decide +kernel
theorem tb_ml_Md_143 : mTB (Cond.methodLink "NineBarsModel" 143 ⟨"NineBarsModel", "blames", "(I)V"⟩) := tbq7 137 (by decide +kernel) rfl
theorem tb_im_Md_blames : mTB (Cond.instanceMethod ⟨"NineBarsModel", "blames", "(I)V"⟩) := tbq7 139 (by decide +kernel) rfl
theorem tb_se_Md_blames : mTB (Cond.selects "NineBarsModel" ⟨"NineBarsModel", "blames", "(I)V"⟩ ⟨"NineBarsModel", "blames", "(I)V"⟩) := tbqp 51 (by decide +kernel) rfl
theorem mv_Md_blames {M : mM} {idx : Nat} (h : mTB (Cond.methodLink (mO M) idx ⟨"NineBarsModel", "blames", "(I)V"⟩)) : mCaV M M_Md_blames idx 11 := ⟨h, tb_im_Md_blames, tb_se_Md_blames, by decide, TX11, 40, rfl⟩
theorem t_Md_must {G : mG} (h : mH) (v0 v1 : Int) (r : mR) (hr : f_Md_must h v0 v1 = some r) : mJM G M_Md_must [(2, v0), (2, v1)] h r := by
  refine mJM_of (L := [(2, v0), (2, v1)]) rfl rfl rfl (Nat.le_of_ble_eq_true rfl) ?_
  unfold f_Md_must at hr
  refine j_aload_n (pc := 0) d_Md_must_0 rfl ?_
  refine j_aload_n (pc := 1) d_Md_must_1 rfl ?_
  obtain ⟨ha, hr⟩ := chk_some hr
  refine j_callG (pc := 2) (stk := [(2, v1), (2, v0)]) (as := [(2, v0), (2, v1)]) (P := (fun v9 => ((0 : Nat), v9) :: [])) (tg := 0) (My := M_Md_took) (mRunV (as := [(2, v1)]) (st := []) d_Md_must_2 (mc_Md_took (by decide)) rfl (mv_Md_took tb_ml_Md_140) rfl (Nat.le_of_ble_eq_true rfl) ha) (fun v => rfl) rfl hr (fun r1 h1 => t_Md_took _ _ _ _ h1) (fun x2 h1 hr => ?_)
  refine j_if_ne (pc := 5) (tgt := 13) d_Md_must_5 hr (fun hr => ?_) (fun hr => ?_)
  · exact j_vret (pc := 13) d_Md_must_13 rfl hr
  · refine j_aload_n (pc := 8) d_Md_must_8 rfl ?_
    refine j_iconst (pc := 9) d_Md_must_9 ?_
    obtain ⟨ha, hr⟩ := chk_some hr
    refine j_callG (pc := 10) (stk := [(0, 2), (2, v0)]) (as := [(2, v0), (0, 2)]) (P := (fun v9 => [])) (tg := 3) (My := M_Md_blames) (mRunV (as := [(0, 2)]) (st := []) d_Md_must_10 (mc_Md_blames (by decide)) rfl (mv_Md_blames tb_ml_Md_143) rfl (Nat.le_of_ble_eq_true rfl) ha) (fun v => rfl) rfl hr (fun r1 h1 => t_Md_blames _ _ _ _ h1) (fun x4 h3 hr => ?_)
    exact j_vret (pc := 13) d_Md_must_13 rfl hr
def M_Md_number : mM := ("NineBarsModel", ⟨"NineBarsModel", "number", "(II)I"⟩, prog_13_method_15_code, 4, some .int, [], 5)
theorem tb_co_Md_number : mTB (Cond.code ⟨"NineBarsModel", "number", "(II)I"⟩ prog_13_method_15_code 4 (some .int)) := tbq7 144 (by decide +kernel) rfl
theorem mc_Md_number {M : mM} (hd : 5 < mDp M) : mCal M M_Md_number 2 := ⟨tb_co_Md_number, tb_in_NineBarsModel, ⟨by decide +kernel, by decide +kernel⟩, by decide +kernel, hd, by decide⟩
theorem d_Md_number_0 : decode prog_13_method_15_code 0 = .ok (.aload_n 0, 1) := by decide +kernel
theorem d_Md_number_1 : decode prog_13_method_15_code 1 = .ok (.getfield 101, 3) := by decide +kernel
theorem d_Md_number_4 : decode prog_13_method_15_code 4 = .ok (.iconst 2, 1) := by decide +kernel
theorem d_Md_number_5 : decode prog_13_method_15_code 5 = .ok (.if_icmp .eq 11, 3) := by decide +kernel
theorem d_Md_number_16 : decode prog_13_method_15_code 16 = .ok (.aload_n 0, 1) := by decide +kernel
theorem d_Md_number_17 : decode prog_13_method_15_code 17 = .ok (.getfield 115, 3) := by decide +kernel
theorem d_Md_number_20 : decode prog_13_method_15_code 20 = .ok (.i2l, 1) := by decide +kernel
theorem d_Md_number_21 : decode prog_13_method_15_code 21 = .ok (.iload_n 1, 1) := by decide +kernel
theorem d_Md_number_22 : decode prog_13_method_15_code 22 = .ok (.i2l, 1) := by decide +kernel
theorem d_Md_number_23 : decode prog_13_method_15_code 23 = .ok (.iload_n 2, 1) := by decide +kernel
theorem d_Md_number_24 : decode prog_13_method_15_code 24 = .ok (.i2l, 1) := by decide +kernel
theorem d_Md_number_25 : decode prog_13_method_15_code 25 = .ok (.invokestatic 147, 3) := by decide +kernel
theorem tb_ml_Md_147 : mTB (Cond.methodLink "NineBarsModel" 147 ⟨"NineBarsModel", "amid", "(JJJ)Z"⟩) := tbq7 101 (by decide +kernel) rfl
theorem tb_sm_Md_amid : mTB (Cond.static ⟨"NineBarsModel", "amid", "(JJJ)Z"⟩) := tbq7 102 (by decide +kernel) rfl
theorem d_Md_number_28 : decode prog_13_method_15_code 28 = .ok (.ifCond .ne 8, 3) := by decide +kernel
theorem d_Md_number_36 : decode prog_13_method_15_code 36 = .ok (.aload_n 0, 1) := by decide +kernel
theorem d_Md_number_37 : decode prog_13_method_15_code 37 = .ok (.getfield 115, 3) := by decide +kernel
theorem d_Md_number_40 : decode prog_13_method_15_code 40 = .ok (.istore_n 3, 1) := by decide +kernel
theorem d_Md_number_41 : decode prog_13_method_15_code 41 = .ok (.aload_n 0, 1) := by decide +kernel
theorem d_Md_number_42 : decode prog_13_method_15_code 42 = .ok (.getfield 118, 3) := by decide +kernel
theorem d_Md_number_45 : decode prog_13_method_15_code 45 = .ok (.ifCond .ne 7, 3) := by decide +kernel
theorem d_Md_number_52 : decode prog_13_method_15_code 52 = .ok (.aload_n 0, 1) := by decide +kernel
theorem d_Md_number_53 : decode prog_13_method_15_code 53 = .ok (.getfield 118, 3) := by decide +kernel
theorem d_Md_number_56 : decode prog_13_method_15_code 56 = .ok (.ifCond .ne 7, 3) := by decide +kernel
theorem d_Md_number_63 : decode prog_13_method_15_code 63 = .ok (.iload_n 1, 1) := by decide +kernel
theorem d_Md_number_64 : decode prog_13_method_15_code 64 = .ok (.ireturn, 1) := by decide +kernel
theorem d_Md_number_59 : decode prog_13_method_15_code 59 = .ok (.iload_n 3, 1) := by decide +kernel
theorem d_Md_number_60 : decode prog_13_method_15_code 60 = .ok (.goto 4, 3) := by decide +kernel
theorem d_Md_number_48 : decode prog_13_method_15_code 48 = .ok (.aload_n 0, 1) := by decide +kernel
theorem d_Md_number_49 : decode prog_13_method_15_code 49 = .ok (.invokevirtual 137, 3) := by decide +kernel
theorem d_Md_number_31 : decode prog_13_method_15_code 31 = .ok (.aload_n 0, 1) := by decide +kernel
theorem d_Md_number_32 : decode prog_13_method_15_code 32 = .ok (.iconst 3, 1) := by decide +kernel
theorem d_Md_number_33 : decode prog_13_method_15_code 33 = .ok (.invokevirtual 143, 3) := by decide +kernel
theorem d_Md_number_8 : decode prog_13_method_15_code 8 = .ok (.aload_n 0, 1) := by decide +kernel
theorem d_Md_number_9 : decode prog_13_method_15_code 9 = .ok (.iconst 2, 1) := by decide +kernel
theorem d_Md_number_10 : decode prog_13_method_15_code 10 = .ok (.invokevirtual 143, 3) := by decide +kernel
theorem d_Md_number_13 : decode prog_13_method_15_code 13 = .ok (.goto 23, 3) := by decide +kernel
theorem t_Md_number_J52 {G : mG} {r : mR} {v0 v1 v3 : Int} {h : mH}  (hr : f_Md_number_J52 v0 v1 v3 h = some r) : mJ G M_Md_number 52 [(2, v0), (0, v1), (9, 0), (0, v3)] [] h r := by
  unfold f_Md_number_J52 at hr
  refine j_aload_n (pc := 52) d_Md_number_52 rfl ?_
  refine j_getf (pc := 53) d_Md_number_53 (fd_Md_118 rfl) hr (fun hr => ?_)
  refine j_if_ne (pc := 56) (tgt := 63) d_Md_number_56 hr (fun hr => ?_) (fun hr => ?_)
  · refine j_iload_n (pc := 63) d_Md_number_63 rfl ?_
    exact j_iret (pc := 64) d_Md_number_64 rfl hr
  · refine j_iload_n (pc := 59) d_Md_number_59 rfl ?_
    refine j_goto (pc := 60) (tgt := 64) d_Md_number_60 ?_
    exact j_iret (pc := 64) d_Md_number_64 rfl hr
theorem t_Md_number_J36 {G : mG} {r : mR} {v0 v1 : Int} {h : mH}  (hr : f_Md_number_J36 v0 v1 h = some r) : mJ G M_Md_number 36 [(2, v0), (0, v1), (9, 0), (9, 0)] [] h r := by
  unfold f_Md_number_J36 at hr
  refine j_aload_n (pc := 36) d_Md_number_36 rfl ?_
  refine j_getf (pc := 37) d_Md_number_37 (fd_Md_115 rfl) hr (fun hr => ?_)
  refine j_istoreW_n (pc := 40) (L := fun x1 => [(2, v0), (0, v1), (9, 0), (0, x1)]) d_Md_number_40 (fun _ => rfl) hr (fun x1 hr => ?_)
  refine j_aload_n (pc := 41) d_Md_number_41 rfl ?_
  refine j_getf (pc := 42) d_Md_number_42 (fd_Md_118 rfl) hr (fun hr => ?_)
  refine j_if_ne (pc := 45) (tgt := 52) d_Md_number_45 hr (fun hr => ?_) (fun hr => ?_)
  · exact mJ_weak (ls' := [(2, v0), (0, v1), (9, 0), (0, x1)]) (mwk_s (mwk_s (mwk_s (mwk_s mwk_n)))) (t_Md_number_J52  hr)
  · refine j_aload_n (pc := 48) d_Md_number_48 rfl ?_
    obtain ⟨ha, hr⟩ := chk_some hr
    refine j_callG (pc := 49) (stk := [(2, v0)]) (as := [(2, v0)]) (P := (fun v9 => [])) (tg := 3) (My := M_Md_reads) (mRunV (as := []) (st := []) d_Md_number_49 (mc_Md_reads (by decide)) rfl (mv_Md_reads tb_ml_Md_137) rfl (Nat.le_of_ble_eq_true rfl) ha) (fun v => rfl) rfl hr (fun r1 h1 => t_Md_reads _ _ _ h1) (fun x3 h2 hr => ?_)
    exact mJ_weak (ls' := [(2, v0), (0, v1), (9, 0), (0, x1)]) (mwk_s (mwk_s (mwk_s (mwk_s mwk_n)))) (t_Md_number_J52  hr)
theorem t_Md_number {G : mG} (h : mH) (v0 v1 v2 : Int) (r : mR) (hr : f_Md_number h v0 v1 v2 = some r) : mJM G M_Md_number [(2, v0), (0, v1), (0, v2)] h r := by
  refine mJM_of (L := [(2, v0), (0, v1), (0, v2), (9, 0)]) rfl rfl rfl (Nat.le_of_ble_eq_true rfl) ?_
  unfold f_Md_number at hr
  refine j_aload_n (pc := 0) d_Md_number_0 rfl ?_
  refine j_getf (pc := 1) d_Md_number_1 (fd_Md_101 rfl) hr (fun hr => ?_)
  refine j_iconst (pc := 4) d_Md_number_4 ?_
  refine j_icmp_eq (pc := 5) (tgt := 16) d_Md_number_5 hr (fun hr => ?_) (fun hr => ?_)
  · refine j_aload_n (pc := 16) d_Md_number_16 rfl ?_
    refine j_getf (pc := 17) d_Md_number_17 (fd_Md_115 rfl) hr (fun hr => ?_)
    refine j_i2l (pc := 20) d_Md_number_20 ?_
    refine j_iload_n (pc := 21) d_Md_number_21 rfl ?_
    refine j_i2l (pc := 22) d_Md_number_22 ?_
    refine j_iload_n (pc := 23) d_Md_number_23 rfl ?_
    refine j_i2l (pc := 24) d_Md_number_24 ?_
    refine j_callG (pc := 25) (stk := [(1, v2), (1, v1), (1, hpV h v0 12)]) (as := [(1, hpV h v0 12), (1, v1), (1, v2)]) (P := (fun v9 => ((0 : Nat), v9) :: [])) (tg := 0) (My := M_Md_amid) (mRunS (as := [(1, hpV h v0 12), (1, v1), (1, v2)]) (st := []) d_Md_number_25 (mc_Md_amid (by decide)) rfl ⟨tb_ml_Md_147, tb_sm_Md_amid⟩ rfl (Nat.le_of_ble_eq_true rfl)) (fun v => rfl) rfl hr (fun r1 h1 => t_Md_amid _ _ _ _ _ h1) (fun x2 h1 hr => ?_)
    refine j_if_ne (pc := 28) (tgt := 36) d_Md_number_28 hr (fun hr => ?_) (fun hr => ?_)
    · exact mJ_weak (ls' := [(2, v0), (0, v1), (9, 0), (9, 0)]) (mwk_s (mwk_s (mwk_d (mwk_s mwk_n)))) (t_Md_number_J36  hr)
    · refine j_aload_n (pc := 31) d_Md_number_31 rfl ?_
      refine j_iconst (pc := 32) d_Md_number_32 ?_
      obtain ⟨ha, hr⟩ := chk_some hr
      refine j_callG (pc := 33) (stk := [(0, 3), (2, v0)]) (as := [(2, v0), (0, 3)]) (P := (fun v9 => [])) (tg := 3) (My := M_Md_blames) (mRunV (as := [(0, 3)]) (st := []) d_Md_number_33 (mc_Md_blames (by decide)) rfl (mv_Md_blames tb_ml_Md_143) rfl (Nat.le_of_ble_eq_true rfl) ha) (fun v => rfl) rfl hr (fun r1 h1 => t_Md_blames _ _ _ _ h1) (fun x4 h3 hr => ?_)
      exact mJ_weak (ls' := [(2, v0), (0, v1), (9, 0), (9, 0)]) (mwk_s (mwk_s (mwk_d (mwk_s mwk_n)))) (t_Md_number_J36  hr)
  · refine j_aload_n (pc := 8) d_Md_number_8 rfl ?_
    refine j_iconst (pc := 9) d_Md_number_9 ?_
    obtain ⟨ha, hr⟩ := chk_some hr
    refine j_callG (pc := 10) (stk := [(0, 2), (2, v0)]) (as := [(2, v0), (0, 2)]) (P := (fun v9 => [])) (tg := 3) (My := M_Md_blames) (mRunV (as := [(0, 2)]) (st := []) d_Md_number_10 (mc_Md_blames (by decide)) rfl (mv_Md_blames tb_ml_Md_143) rfl (Nat.le_of_ble_eq_true rfl) ha) (fun v => rfl) rfl hr (fun r1 h1 => t_Md_blames _ _ _ _ h1) (fun x6 h5 hr => ?_)
    refine j_goto (pc := 13) (tgt := 36) d_Md_number_13 ?_
    exact mJ_weak (ls' := [(2, v0), (0, v1), (9, 0), (9, 0)]) (mwk_s (mwk_s (mwk_d (mwk_s mwk_n)))) (t_Md_number_J36  hr)
def M_Md_placesTold : mM := ("NineBarsModel", ⟨"NineBarsModel", "placesTold", "(I)I"⟩, prog_13_method_16_code, 2, some .int, [], 1)
theorem tb_co_Md_placesTold : mTB (Cond.code ⟨"NineBarsModel", "placesTold", "(I)I"⟩ prog_13_method_16_code 2 (some .int)) := tbq7 163 (by decide +kernel) rfl
theorem mc_Md_placesTold {M : mM} (hd : 1 < mDp M) : mCal M M_Md_placesTold 1 := ⟨tb_co_Md_placesTold, tb_in_NineBarsModel, ⟨by decide +kernel, by decide +kernel⟩, by decide +kernel, hd, by decide⟩
theorem d_Md_placesTold_0 : decode prog_13_method_16_code 0 = .ok (.aload_n 0, 1) := by decide +kernel
theorem d_Md_placesTold_1 : decode prog_13_method_16_code 1 = .ok (.getfield 13, 3) := by decide +kernel
theorem d_Md_placesTold_4 : decode prog_13_method_16_code 4 = .ok (.iconst 5, 1) := by decide +kernel
theorem d_Md_placesTold_5 : decode prog_13_method_16_code 5 = .ok (.iconst 4, 1) := by decide +kernel
theorem d_Md_placesTold_6 : decode prog_13_method_16_code 6 = .ok (.iload_n 1, 1) := by decide +kernel
theorem d_Md_placesTold_7 : decode prog_13_method_16_code 7 = .ok (.imul, 1) := by decide +kernel
theorem d_Md_placesTold_8 : decode prog_13_method_16_code 8 = .ok (.iadd, 1) := by decide +kernel
theorem d_Md_placesTold_9 : decode prog_13_method_16_code 9 = .ok (.iconst 0, 1) := by decide +kernel
theorem d_Md_placesTold_10 : decode prog_13_method_16_code 10 = .ok (.iadd, 1) := by decide +kernel
theorem d_Md_placesTold_11 : decode prog_13_method_16_code 11 = .ok (.iaload, 1) := by decide +kernel
theorem d_Md_placesTold_12 : decode prog_13_method_16_code 12 = .ok (.ireturn, 1) := by decide +kernel
theorem t_Md_placesTold {G : mG} (h : mH) (v0 v1 : Int) (r : mR) (hr : f_Md_placesTold h v0 v1 = some r) : mJM G M_Md_placesTold [(2, v0), (0, v1)] h r := by
  refine mJM_of (L := [(2, v0), (0, v1)]) rfl rfl rfl (Nat.le_of_ble_eq_true rfl) ?_
  unfold f_Md_placesTold at hr
  refine j_aload_n (pc := 0) d_Md_placesTold_0 rfl ?_
  refine j_getf (pc := 1) d_Md_placesTold_1 (fd_Md_13 rfl) hr (fun hr => ?_)
  refine j_iconst (pc := 4) d_Md_placesTold_4 ?_
  refine j_iconst (pc := 5) d_Md_placesTold_5 ?_
  refine j_iload_n (pc := 6) d_Md_placesTold_6 rfl ?_
  refine j_imul (pc := 7) d_Md_placesTold_7 ?_
  refine j_iadd (pc := 8) d_Md_placesTold_8 ?_
  refine j_iconst (pc := 9) d_Md_placesTold_9 ?_
  refine j_iadd (pc := 10) d_Md_placesTold_10 ?_
  refine j_iaload (pc := 11) d_Md_placesTold_11 hr (fun hr => ?_)
  exact j_iret (pc := 12) d_Md_placesTold_12 rfl hr
def M_Md_barTold : mM := ("NineBarsModel", ⟨"NineBarsModel", "barTold", "()I"⟩, prog_13_method_17_code, 1, some .int, [], 7)
theorem tb_co_Md_barTold : mTB (Cond.code ⟨"NineBarsModel", "barTold", "()I"⟩ prog_13_method_17_code 1 (some .int)) := tbq7 159 (by decide +kernel) rfl
theorem mc_Md_barTold {M : mM} (hd : 7 < mDp M) : mCal M M_Md_barTold 0 := ⟨tb_co_Md_barTold, tb_in_NineBarsModel, ⟨by decide +kernel, by decide +kernel⟩, by decide +kernel, hd, by decide⟩
theorem d_Md_barTold_0 : decode prog_13_method_17_code 0 = .ok (.aload_n 0, 1) := by decide +kernel
theorem d_Md_barTold_1 : decode prog_13_method_17_code 1 = .ok (.iconst 0, 1) := by decide +kernel
theorem d_Md_barTold_2 : decode prog_13_method_17_code 2 = .ok (.aload_n 0, 1) := by decide +kernel
theorem d_Md_barTold_3 : decode prog_13_method_17_code 3 = .ok (.getfield 13, 3) := by decide +kernel
theorem d_Md_barTold_6 : decode prog_13_method_17_code 6 = .ok (.iconst 1, 1) := by decide +kernel
theorem d_Md_barTold_7 : decode prog_13_method_17_code 7 = .ok (.iaload, 1) := by decide +kernel
theorem d_Md_barTold_8 : decode prog_13_method_17_code 8 = .ok (.iconst 1, 1) := by decide +kernel
theorem d_Md_barTold_9 : decode prog_13_method_17_code 9 = .ok (.isub, 1) := by decide +kernel
theorem d_Md_barTold_10 : decode prog_13_method_17_code 10 = .ok (.invokevirtual 151, 3) := by decide +kernel
theorem tb_ml_Md_151 : mTB (Cond.methodLink "NineBarsModel" 151 ⟨"NineBarsModel", "number", "(II)I"⟩) := tbq7 141 (by decide +kernel) rfl
theorem tb_im_Md_number : mTB (Cond.instanceMethod ⟨"NineBarsModel", "number", "(II)I"⟩) := tbq7 143 (by decide +kernel) rfl
theorem tb_se_Md_number : mTB (Cond.selects "NineBarsModel" ⟨"NineBarsModel", "number", "(II)I"⟩ ⟨"NineBarsModel", "number", "(II)I"⟩) := tbqp 52 (by decide +kernel) rfl
theorem mv_Md_number {M : mM} {idx : Nat} (h : mTB (Cond.methodLink (mO M) idx ⟨"NineBarsModel", "number", "(II)I"⟩)) : mCaV M M_Md_number idx 11 := ⟨h, tb_im_Md_number, tb_se_Md_number, by decide, TX11, 40, rfl⟩
theorem d_Md_barTold_13 : decode prog_13_method_17_code 13 = .ok (.ireturn, 1) := by decide +kernel
theorem t_Md_barTold {G : mG} (h : mH) (v0 : Int) (r : mR) (hr : f_Md_barTold h v0 = some r) : mJM G M_Md_barTold [(2, v0)] h r := by
  refine mJM_of (L := [(2, v0)]) rfl rfl rfl (Nat.le_of_ble_eq_true rfl) ?_
  unfold f_Md_barTold at hr
  refine j_aload_n (pc := 0) d_Md_barTold_0 rfl ?_
  refine j_iconst (pc := 1) d_Md_barTold_1 ?_
  refine j_aload_n (pc := 2) d_Md_barTold_2 rfl ?_
  refine j_getf (pc := 3) d_Md_barTold_3 (fd_Md_13 rfl) hr (fun hr => ?_)
  refine j_iconst (pc := 6) d_Md_barTold_6 ?_
  refine j_iaload (pc := 7) d_Md_barTold_7 hr (fun hr => ?_)
  refine j_iconst (pc := 8) d_Md_barTold_8 ?_
  refine j_isub (pc := 9) d_Md_barTold_9 ?_
  obtain ⟨ha, hr⟩ := chk_some hr
  refine j_callG (pc := 10) (stk := [(0, w32 ((hpV h (hpV h v0 1) 1) - 1)), (0, 0), (2, v0)]) (as := [(2, v0), (0, 0), (0, w32 ((hpV h (hpV h v0 1) 1) - 1))]) (P := (fun v9 => ((0 : Nat), v9) :: [])) (tg := 0) (My := M_Md_number) (mRunV (as := [(0, 0), (0, w32 ((hpV h (hpV h v0 1) 1) - 1))]) (st := []) d_Md_barTold_10 (mc_Md_number (by decide)) rfl (mv_Md_number tb_ml_Md_151) rfl (Nat.le_of_ble_eq_true rfl) ha) (fun v => rfl) rfl hr (fun r1 h1 => t_Md_number _ _ _ _ _ h1) (fun x2 h1 hr => ?_)
  exact j_iret (pc := 13) d_Md_barTold_13 rfl hr
def M_Md_readBar : mM := ("NineBarsModel", ⟨"NineBarsModel", "readBar", "()V"⟩, prog_13_method_18_code, 5, none, [], 9)
theorem tb_co_Md_readBar : mTB (Cond.code ⟨"NineBarsModel", "readBar", "()V"⟩ prog_13_method_18_code 5 (none)) := tbq7 136 (by decide +kernel) rfl
theorem mc_Md_readBar {M : mM} (hd : 9 < mDp M) : mCal M M_Md_readBar 0 := ⟨tb_co_Md_readBar, tb_in_NineBarsModel, ⟨by decide +kernel, by decide +kernel⟩, by decide +kernel, hd, by decide⟩
theorem d_Md_readBar_0 : decode prog_13_method_18_code 0 = .ok (.aload_n 0, 1) := by decide +kernel
theorem d_Md_readBar_1 : decode prog_13_method_18_code 1 = .ok (.getfield 13, 3) := by decide +kernel
theorem d_Md_readBar_4 : decode prog_13_method_18_code 4 = .ok (.iconst 1, 1) := by decide +kernel
theorem d_Md_readBar_5 : decode prog_13_method_18_code 5 = .ok (.iaload, 1) := by decide +kernel
theorem d_Md_readBar_6 : decode prog_13_method_18_code 6 = .ok (.bipush 9, 2) := by decide +kernel
theorem d_Md_readBar_8 : decode prog_13_method_18_code 8 = .ok (.if_icmp .ne 8, 3) := by decide +kernel
theorem d_Md_readBar_16 : decode prog_13_method_18_code 16 = .ok (.aload_n 0, 1) := by decide +kernel
theorem d_Md_readBar_17 : decode prog_13_method_18_code 17 = .ok (.getfield 118, 3) := by decide +kernel
theorem d_Md_readBar_20 : decode prog_13_method_18_code 20 = .ok (.ifCond .eq 4, 3) := by decide +kernel
theorem d_Md_readBar_24 : decode prog_13_method_18_code 24 = .ok (.aload_n 0, 1) := by decide +kernel
theorem d_Md_readBar_25 : decode prog_13_method_18_code 25 = .ok (.invokevirtual 137, 3) := by decide +kernel
theorem d_Md_readBar_28 : decode prog_13_method_18_code 28 = .ok (.aload_n 0, 1) := by decide +kernel
theorem d_Md_readBar_29 : decode prog_13_method_18_code 29 = .ok (.iconst 2, 1) := by decide +kernel
theorem d_Md_readBar_30 : decode prog_13_method_18_code 30 = .ok (.iconst 4, 1) := by decide +kernel
theorem d_Md_readBar_31 : decode prog_13_method_18_code 31 = .ok (.invokevirtual 151, 3) := by decide +kernel
theorem d_Md_readBar_34 : decode prog_13_method_18_code 34 = .ok (.istore_n 1, 1) := by decide +kernel
theorem d_Md_readBar_35 : decode prog_13_method_18_code 35 = .ok (.aload_n 0, 1) := by decide +kernel
theorem d_Md_readBar_36 : decode prog_13_method_18_code 36 = .ok (.ldc 155, 2) := by decide +kernel
theorem d_Md_readBar_38 : decode prog_13_method_18_code 38 = .ok (.invokevirtual 140, 3) := by decide +kernel
theorem d_Md_readBar_41 : decode prog_13_method_18_code 41 = .ok (.ifCond .eq 14, 3) := by decide +kernel
theorem d_Md_readBar_55 : decode prog_13_method_18_code 55 = .ok (.iconst 0, 1) := by decide +kernel
theorem d_Md_readBar_56 : decode prog_13_method_18_code 56 = .ok (.istore_n 2, 1) := by decide +kernel
theorem d_Md_readBar_57 : decode prog_13_method_18_code 57 = .ok (.aload_n 0, 1) := by decide +kernel
theorem d_Md_readBar_58 : decode prog_13_method_18_code 58 = .ok (.ldc 156, 2) := by decide +kernel
theorem d_Md_readBar_60 : decode prog_13_method_18_code 60 = .ok (.invokevirtual 140, 3) := by decide +kernel
theorem d_Md_readBar_63 : decode prog_13_method_18_code 63 = .ok (.ifCond .eq 14, 3) := by decide +kernel
theorem d_Md_readBar_77 : decode prog_13_method_18_code 77 = .ok (.iload_n 1, 1) := by decide +kernel
theorem d_Md_readBar_78 : decode prog_13_method_18_code 78 = .ok (.iconst 1, 1) := by decide +kernel
theorem d_Md_readBar_79 : decode prog_13_method_18_code 79 = .ok (.isub, 1) := by decide +kernel
theorem d_Md_readBar_80 : decode prog_13_method_18_code 80 = .ok (.istore_n 3, 1) := by decide +kernel
theorem d_Md_readBar_81 : decode prog_13_method_18_code 81 = .ok (.aload_n 0, 1) := by decide +kernel
theorem d_Md_readBar_82 : decode prog_13_method_18_code 82 = .ok (.getfield 118, 3) := by decide +kernel
theorem d_Md_readBar_85 : decode prog_13_method_18_code 85 = .ok (.ifCond .eq 4, 3) := by decide +kernel
theorem d_Md_readBar_89 : decode prog_13_method_18_code 89 = .ok (.iconst 5, 1) := by decide +kernel
theorem d_Md_readBar_90 : decode prog_13_method_18_code 90 = .ok (.iconst 4, 1) := by decide +kernel
theorem d_Md_readBar_91 : decode prog_13_method_18_code 91 = .ok (.aload_n 0, 1) := by decide +kernel
theorem d_Md_readBar_92 : decode prog_13_method_18_code 92 = .ok (.getfield 13, 3) := by decide +kernel
theorem d_Md_readBar_95 : decode prog_13_method_18_code 95 = .ok (.iconst 1, 1) := by decide +kernel
theorem d_Md_readBar_96 : decode prog_13_method_18_code 96 = .ok (.iaload, 1) := by decide +kernel
theorem d_Md_readBar_97 : decode prog_13_method_18_code 97 = .ok (.imul, 1) := by decide +kernel
theorem d_Md_readBar_98 : decode prog_13_method_18_code 98 = .ok (.iadd, 1) := by decide +kernel
theorem d_Md_readBar_99 : decode prog_13_method_18_code 99 = .ok (.istore 4, 2) := by decide +kernel
theorem d_Md_readBar_101 : decode prog_13_method_18_code 101 = .ok (.aload_n 0, 1) := by decide +kernel
theorem d_Md_readBar_102 : decode prog_13_method_18_code 102 = .ok (.getfield 13, 3) := by decide +kernel
theorem d_Md_readBar_105 : decode prog_13_method_18_code 105 = .ok (.iload 4, 2) := by decide +kernel
theorem d_Md_readBar_107 : decode prog_13_method_18_code 107 = .ok (.iconst 0, 1) := by decide +kernel
theorem d_Md_readBar_108 : decode prog_13_method_18_code 108 = .ok (.iadd, 1) := by decide +kernel
theorem d_Md_readBar_109 : decode prog_13_method_18_code 109 = .ok (.iload_n 1, 1) := by decide +kernel
theorem d_Md_readBar_110 : decode prog_13_method_18_code 110 = .ok (.iastore, 1) := by decide +kernel
theorem d_Md_readBar_111 : decode prog_13_method_18_code 111 = .ok (.aload_n 0, 1) := by decide +kernel
theorem d_Md_readBar_112 : decode prog_13_method_18_code 112 = .ok (.getfield 13, 3) := by decide +kernel
theorem d_Md_readBar_115 : decode prog_13_method_18_code 115 = .ok (.iload 4, 2) := by decide +kernel
theorem d_Md_readBar_117 : decode prog_13_method_18_code 117 = .ok (.iconst 1, 1) := by decide +kernel
theorem d_Md_readBar_118 : decode prog_13_method_18_code 118 = .ok (.iadd, 1) := by decide +kernel
theorem d_Md_readBar_119 : decode prog_13_method_18_code 119 = .ok (.iload_n 2, 1) := by decide +kernel
theorem d_Md_readBar_120 : decode prog_13_method_18_code 120 = .ok (.iastore, 1) := by decide +kernel
theorem d_Md_readBar_121 : decode prog_13_method_18_code 121 = .ok (.aload_n 0, 1) := by decide +kernel
theorem d_Md_readBar_122 : decode prog_13_method_18_code 122 = .ok (.getfield 13, 3) := by decide +kernel
theorem d_Md_readBar_125 : decode prog_13_method_18_code 125 = .ok (.iload 4, 2) := by decide +kernel
theorem d_Md_readBar_127 : decode prog_13_method_18_code 127 = .ok (.iconst 2, 1) := by decide +kernel
theorem d_Md_readBar_128 : decode prog_13_method_18_code 128 = .ok (.iadd, 1) := by decide +kernel
theorem d_Md_readBar_129 : decode prog_13_method_18_code 129 = .ok (.iload_n 3, 1) := by decide +kernel
theorem d_Md_readBar_130 : decode prog_13_method_18_code 130 = .ok (.iastore, 1) := by decide +kernel
theorem d_Md_readBar_131 : decode prog_13_method_18_code 131 = .ok (.aload_n 0, 1) := by decide +kernel
theorem d_Md_readBar_132 : decode prog_13_method_18_code 132 = .ok (.getfield 13, 3) := by decide +kernel
theorem d_Md_readBar_135 : decode prog_13_method_18_code 135 = .ok (.sipush 425, 3) := by decide +kernel
theorem d_Md_readBar_138 : decode prog_13_method_18_code 138 = .ok (.aload_n 0, 1) := by decide +kernel
theorem d_Md_readBar_139 : decode prog_13_method_18_code 139 = .ok (.getfield 13, 3) := by decide +kernel
theorem d_Md_readBar_142 : decode prog_13_method_18_code 142 = .ok (.iconst 1, 1) := by decide +kernel
theorem d_Md_readBar_143 : decode prog_13_method_18_code 143 = .ok (.iaload, 1) := by decide +kernel
theorem d_Md_readBar_144 : decode prog_13_method_18_code 144 = .ok (.iadd, 1) := by decide +kernel
theorem d_Md_readBar_145 : decode prog_13_method_18_code 145 = .ok (.iload_n 2, 1) := by decide +kernel
theorem d_Md_readBar_146 : decode prog_13_method_18_code 146 = .ok (.iastore, 1) := by decide +kernel
theorem d_Md_readBar_147 : decode prog_13_method_18_code 147 = .ok (.aload_n 0, 1) := by decide +kernel
theorem d_Md_readBar_148 : decode prog_13_method_18_code 148 = .ok (.getfield 13, 3) := by decide +kernel
theorem d_Md_readBar_151 : decode prog_13_method_18_code 151 = .ok (.iconst 1, 1) := by decide +kernel
theorem d_Md_readBar_152 : decode prog_13_method_18_code 152 = .ok (.dup2, 1) := by decide +kernel
theorem d_Md_readBar_153 : decode prog_13_method_18_code 153 = .ok (.iaload, 1) := by decide +kernel
theorem d_Md_readBar_154 : decode prog_13_method_18_code 154 = .ok (.iconst 1, 1) := by decide +kernel
theorem d_Md_readBar_155 : decode prog_13_method_18_code 155 = .ok (.iadd, 1) := by decide +kernel
theorem d_Md_readBar_156 : decode prog_13_method_18_code 156 = .ok (.iastore, 1) := by decide +kernel
theorem d_Md_readBar_157 : decode prog_13_method_18_code 157 = .ok (.return_, 1) := by decide +kernel
theorem d_Md_readBar_88 : decode prog_13_method_18_code 88 = .ok (.return_, 1) := by decide +kernel
theorem d_Md_readBar_66 : decode prog_13_method_18_code 66 = .ok (.aload_n 0, 1) := by decide +kernel
theorem d_Md_readBar_67 : decode prog_13_method_18_code 67 = .ok (.iconst 0, 1) := by decide +kernel
theorem d_Md_readBar_68 : decode prog_13_method_18_code 68 = .ok (.iload_n 1, 1) := by decide +kernel
theorem d_Md_readBar_69 : decode prog_13_method_18_code 69 = .ok (.iconst 1, 1) := by decide +kernel
theorem d_Md_readBar_70 : decode prog_13_method_18_code 70 = .ok (.isub, 1) := by decide +kernel
theorem d_Md_readBar_71 : decode prog_13_method_18_code 71 = .ok (.invokevirtual 151, 3) := by decide +kernel
theorem d_Md_readBar_74 : decode prog_13_method_18_code 74 = .ok (.goto 6, 3) := by decide +kernel
theorem d_Md_readBar_44 : decode prog_13_method_18_code 44 = .ok (.aload_n 0, 1) := by decide +kernel
theorem d_Md_readBar_45 : decode prog_13_method_18_code 45 = .ok (.iconst 0, 1) := by decide +kernel
theorem d_Md_readBar_46 : decode prog_13_method_18_code 46 = .ok (.iload_n 1, 1) := by decide +kernel
theorem d_Md_readBar_47 : decode prog_13_method_18_code 47 = .ok (.iconst 1, 1) := by decide +kernel
theorem d_Md_readBar_48 : decode prog_13_method_18_code 48 = .ok (.isub, 1) := by decide +kernel
theorem d_Md_readBar_49 : decode prog_13_method_18_code 49 = .ok (.invokevirtual 151, 3) := by decide +kernel
theorem d_Md_readBar_52 : decode prog_13_method_18_code 52 = .ok (.goto 4, 3) := by decide +kernel
theorem d_Md_readBar_23 : decode prog_13_method_18_code 23 = .ok (.return_, 1) := by decide +kernel
theorem d_Md_readBar_11 : decode prog_13_method_18_code 11 = .ok (.aload_n 0, 1) := by decide +kernel
theorem d_Md_readBar_12 : decode prog_13_method_18_code 12 = .ok (.iconst 4, 1) := by decide +kernel
theorem d_Md_readBar_13 : decode prog_13_method_18_code 13 = .ok (.invokevirtual 143, 3) := by decide +kernel
theorem t_Md_readBar_J80 {G : mG} {r : mR} {v0 v1 v2 s0 : Int} {h : mH}  (hr : f_Md_readBar_J80 v0 v1 v2 s0 h = some r) : mJ G M_Md_readBar 80 [(2, v0), (0, v1), (0, v2), (9, 0), (9, 0)] [(0, s0)] h r := by
  unfold f_Md_readBar_J80 at hr
  refine j_istore_n (pc := 80) (ls' := [(2, v0), (0, v1), (0, v2), (0, s0), (9, 0)]) d_Md_readBar_80 rfl ?_
  refine j_aload_n (pc := 81) d_Md_readBar_81 rfl ?_
  refine j_getf (pc := 82) d_Md_readBar_82 (fd_Md_118 rfl) hr (fun hr => ?_)
  refine j_if_eq (pc := 85) (tgt := 89) d_Md_readBar_85 hr (fun hr => ?_) (fun hr => ?_)
  · refine j_iconst (pc := 89) d_Md_readBar_89 ?_
    refine j_iconst (pc := 90) d_Md_readBar_90 ?_
    refine j_aload_n (pc := 91) d_Md_readBar_91 rfl ?_
    refine j_getf (pc := 92) d_Md_readBar_92 (fd_Md_13 rfl) hr (fun hr => ?_)
    refine j_iconst (pc := 95) d_Md_readBar_95 ?_
    refine j_iaload (pc := 96) d_Md_readBar_96 hr (fun hr => ?_)
    refine j_imul (pc := 97) d_Md_readBar_97 ?_
    refine j_iadd (pc := 98) d_Md_readBar_98 ?_
    refine j_istoreW (pc := 99) (L := fun x1 => [(2, v0), (0, v1), (0, v2), (0, s0), (0, x1)]) d_Md_readBar_99 (fun _ => rfl) hr (fun x1 hr => ?_)
    refine j_aload_n (pc := 101) d_Md_readBar_101 rfl ?_
    refine j_getf (pc := 102) d_Md_readBar_102 (fd_Md_13 rfl) hr (fun hr => ?_)
    refine j_iload (pc := 105) d_Md_readBar_105 rfl ?_
    refine j_iconst (pc := 107) d_Md_readBar_107 ?_
    refine j_iadd (pc := 108) d_Md_readBar_108 ?_
    refine j_iload_n (pc := 109) d_Md_readBar_109 rfl ?_
    refine j_iastore (pc := 110) d_Md_readBar_110 hr (fun h2 hr => ?_)
    refine j_aload_n (pc := 111) d_Md_readBar_111 rfl ?_
    refine j_getf (pc := 112) d_Md_readBar_112 (fd_Md_13 rfl) hr (fun hr => ?_)
    refine j_iload (pc := 115) d_Md_readBar_115 rfl ?_
    refine j_iconst (pc := 117) d_Md_readBar_117 ?_
    refine j_iadd (pc := 118) d_Md_readBar_118 ?_
    refine j_iload_n (pc := 119) d_Md_readBar_119 rfl ?_
    refine j_iastore (pc := 120) d_Md_readBar_120 hr (fun h3 hr => ?_)
    refine j_aload_n (pc := 121) d_Md_readBar_121 rfl ?_
    refine j_getf (pc := 122) d_Md_readBar_122 (fd_Md_13 rfl) hr (fun hr => ?_)
    refine j_iload (pc := 125) d_Md_readBar_125 rfl ?_
    refine j_iconst (pc := 127) d_Md_readBar_127 ?_
    refine j_iadd (pc := 128) d_Md_readBar_128 ?_
    refine j_iload_n (pc := 129) d_Md_readBar_129 rfl ?_
    refine j_iastore (pc := 130) d_Md_readBar_130 hr (fun h4 hr => ?_)
    refine j_aload_n (pc := 131) d_Md_readBar_131 rfl ?_
    refine j_getf (pc := 132) d_Md_readBar_132 (fd_Md_13 rfl) hr (fun hr => ?_)
    refine j_sipush (pc := 135) d_Md_readBar_135 ?_
    refine j_aload_n (pc := 138) d_Md_readBar_138 rfl ?_
    refine j_getf (pc := 139) d_Md_readBar_139 (fd_Md_13 rfl) hr (fun hr => ?_)
    refine j_iconst (pc := 142) d_Md_readBar_142 ?_
    refine j_iaload (pc := 143) d_Md_readBar_143 hr (fun hr => ?_)
    refine j_iadd (pc := 144) d_Md_readBar_144 ?_
    refine j_iload_n (pc := 145) d_Md_readBar_145 rfl ?_
    refine j_iastore (pc := 146) d_Md_readBar_146 hr (fun h5 hr => ?_)
    refine j_aload_n (pc := 147) d_Md_readBar_147 rfl ?_
    refine j_getf (pc := 148) d_Md_readBar_148 (fd_Md_13 rfl) hr (fun hr => ?_)
    refine j_iconst (pc := 151) d_Md_readBar_151 ?_
    refine j_dup2 (pc := 152) d_Md_readBar_152 ?_
    refine j_iaload (pc := 153) d_Md_readBar_153 hr (fun hr => ?_)
    refine j_iconst (pc := 154) d_Md_readBar_154 ?_
    refine j_iadd (pc := 155) d_Md_readBar_155 ?_
    refine j_iastore (pc := 156) d_Md_readBar_156 hr (fun h6 hr => ?_)
    exact j_vret (pc := 157) d_Md_readBar_157 rfl hr
  · exact j_vret (pc := 88) d_Md_readBar_88 rfl hr
theorem t_Md_readBar_J56 {G : mG} {r : mR} {v0 v1 s0 : Int} {h : mH}  (hr : f_Md_readBar_J56 v0 v1 s0 h = some r) : mJ G M_Md_readBar 56 [(2, v0), (0, v1), (9, 0), (9, 0), (9, 0)] [(0, s0)] h r := by
  unfold f_Md_readBar_J56 at hr
  refine j_istore_n (pc := 56) (ls' := [(2, v0), (0, v1), (0, s0), (9, 0), (9, 0)]) d_Md_readBar_56 rfl ?_
  refine j_aload_n (pc := 57) d_Md_readBar_57 rfl ?_
  refine j_ldcS (pc := 58) (tx := "open") (k := 5) d_Md_readBar_58 (by decide +kernel) ?_
  obtain ⟨ha, hr⟩ := chk_some hr
  refine j_callG (pc := 60) (stk := [(2, (-(((5 : Nat) : Int) + 2))), (2, v0)]) (as := [(2, v0), (2, (-(((5 : Nat) : Int) + 2)))]) (P := (fun v9 => ((0 : Nat), v9) :: [])) (tg := 0) (My := M_Md_took) (mRunV (as := [(2, (-(((5 : Nat) : Int) + 2)))]) (st := []) d_Md_readBar_60 (mc_Md_took (by decide)) rfl (mv_Md_took tb_ml_Md_140) rfl (Nat.le_of_ble_eq_true rfl) ha) (fun v => rfl) rfl hr (fun r1 h1 => t_Md_took _ _ _ _ h1) (fun x2 h1 hr => ?_)
  refine j_if_eq (pc := 63) (tgt := 77) d_Md_readBar_63 hr (fun hr => ?_) (fun hr => ?_)
  · refine j_iload_n (pc := 77) d_Md_readBar_77 rfl ?_
    refine j_iconst (pc := 78) d_Md_readBar_78 ?_
    refine j_isub (pc := 79) d_Md_readBar_79 ?_
    exact mJ_weak (ls' := [(2, v0), (0, v1), (0, s0), (9, 0), (9, 0)]) (mwk_s (mwk_s (mwk_s (mwk_s (mwk_s mwk_n))))) (t_Md_readBar_J80  hr)
  · refine j_aload_n (pc := 66) d_Md_readBar_66 rfl ?_
    refine j_iconst (pc := 67) d_Md_readBar_67 ?_
    refine j_iload_n (pc := 68) d_Md_readBar_68 rfl ?_
    refine j_iconst (pc := 69) d_Md_readBar_69 ?_
    refine j_isub (pc := 70) d_Md_readBar_70 ?_
    obtain ⟨ha, hr⟩ := chk_some hr
    refine j_callG (pc := 71) (stk := [(0, w32 (v1 - 1)), (0, 0), (2, v0)]) (as := [(2, v0), (0, 0), (0, w32 (v1 - 1))]) (P := (fun v9 => ((0 : Nat), v9) :: [])) (tg := 0) (My := M_Md_number) (mRunV (as := [(0, 0), (0, w32 (v1 - 1))]) (st := []) d_Md_readBar_71 (mc_Md_number (by decide)) rfl (mv_Md_number tb_ml_Md_151) rfl (Nat.le_of_ble_eq_true rfl) ha) (fun v => rfl) rfl hr (fun r1 h1 => t_Md_number _ _ _ _ _ h1) (fun x4 h3 hr => ?_)
    refine j_goto (pc := 74) (tgt := 80) d_Md_readBar_74 ?_
    exact mJ_weak (ls' := [(2, v0), (0, v1), (0, s0), (9, 0), (9, 0)]) (mwk_s (mwk_s (mwk_s (mwk_s (mwk_s mwk_n))))) (t_Md_readBar_J80  hr)
theorem t_Md_readBar_J16 {G : mG} {r : mR} {v0 : Int} {h : mH}  (hr : f_Md_readBar_J16 v0 h = some r) : mJ G M_Md_readBar 16 [(2, v0), (9, 0), (9, 0), (9, 0), (9, 0)] [] h r := by
  unfold f_Md_readBar_J16 at hr
  refine j_aload_n (pc := 16) d_Md_readBar_16 rfl ?_
  refine j_getf (pc := 17) d_Md_readBar_17 (fd_Md_118 rfl) hr (fun hr => ?_)
  refine j_if_eq (pc := 20) (tgt := 24) d_Md_readBar_20 hr (fun hr => ?_) (fun hr => ?_)
  · refine j_aload_n (pc := 24) d_Md_readBar_24 rfl ?_
    obtain ⟨ha, hr⟩ := chk_some hr
    refine j_callG (pc := 25) (stk := [(2, v0)]) (as := [(2, v0)]) (P := (fun v9 => [])) (tg := 3) (My := M_Md_reads) (mRunV (as := []) (st := []) d_Md_readBar_25 (mc_Md_reads (by decide)) rfl (mv_Md_reads tb_ml_Md_137) rfl (Nat.le_of_ble_eq_true rfl) ha) (fun v => rfl) rfl hr (fun r1 h1 => t_Md_reads _ _ _ h1) (fun x2 h1 hr => ?_)
    refine j_aload_n (pc := 28) d_Md_readBar_28 rfl ?_
    refine j_iconst (pc := 29) d_Md_readBar_29 ?_
    refine j_iconst (pc := 30) d_Md_readBar_30 ?_
    obtain ⟨ha, hr⟩ := chk_some hr
    refine j_callG (pc := 31) (stk := [(0, 4), (0, 2), (2, v0)]) (as := [(2, v0), (0, 2), (0, 4)]) (P := (fun v9 => ((0 : Nat), v9) :: [])) (tg := 0) (My := M_Md_number) (mRunV (as := [(0, 2), (0, 4)]) (st := []) d_Md_readBar_31 (mc_Md_number (by decide)) rfl (mv_Md_number tb_ml_Md_151) rfl (Nat.le_of_ble_eq_true rfl) ha) (fun v => rfl) rfl hr (fun r1 h1 => t_Md_number _ _ _ _ _ h1) (fun x4 h3 hr => ?_)
    refine j_istore_n (pc := 34) (ls' := [(2, v0), (0, x4), (9, 0), (9, 0), (9, 0)]) d_Md_readBar_34 rfl ?_
    refine j_aload_n (pc := 35) d_Md_readBar_35 rfl ?_
    refine j_ldcS (pc := 36) (tx := "at") (k := 4) d_Md_readBar_36 (by decide +kernel) ?_
    obtain ⟨ha, hr⟩ := chk_some hr
    refine j_callG (pc := 38) (stk := [(2, (-(((4 : Nat) : Int) + 2))), (2, v0)]) (as := [(2, v0), (2, (-(((4 : Nat) : Int) + 2)))]) (P := (fun v9 => ((0 : Nat), v9) :: [])) (tg := 0) (My := M_Md_took) (mRunV (as := [(2, (-(((4 : Nat) : Int) + 2)))]) (st := []) d_Md_readBar_38 (mc_Md_took (by decide)) rfl (mv_Md_took tb_ml_Md_140) rfl (Nat.le_of_ble_eq_true rfl) ha) (fun v => rfl) rfl hr (fun r1 h1 => t_Md_took _ _ _ _ h1) (fun x6 h5 hr => ?_)
    refine j_if_eq (pc := 41) (tgt := 55) d_Md_readBar_41 hr (fun hr => ?_) (fun hr => ?_)
    · refine j_iconst (pc := 55) d_Md_readBar_55 ?_
      exact mJ_weak (ls' := [(2, v0), (0, x4), (9, 0), (9, 0), (9, 0)]) (mwk_s (mwk_s (mwk_s (mwk_s (mwk_s mwk_n))))) (t_Md_readBar_J56  hr)
    · refine j_aload_n (pc := 44) d_Md_readBar_44 rfl ?_
      refine j_iconst (pc := 45) d_Md_readBar_45 ?_
      refine j_iload_n (pc := 46) d_Md_readBar_46 rfl ?_
      refine j_iconst (pc := 47) d_Md_readBar_47 ?_
      refine j_isub (pc := 48) d_Md_readBar_48 ?_
      obtain ⟨ha, hr⟩ := chk_some hr
      refine j_callG (pc := 49) (stk := [(0, w32 (x4 - 1)), (0, 0), (2, v0)]) (as := [(2, v0), (0, 0), (0, w32 (x4 - 1))]) (P := (fun v9 => ((0 : Nat), v9) :: [])) (tg := 0) (My := M_Md_number) (mRunV (as := [(0, 0), (0, w32 (x4 - 1))]) (st := []) d_Md_readBar_49 (mc_Md_number (by decide)) rfl (mv_Md_number tb_ml_Md_151) rfl (Nat.le_of_ble_eq_true rfl) ha) (fun v => rfl) rfl hr (fun r1 h1 => t_Md_number _ _ _ _ _ h1) (fun x8 h7 hr => ?_)
      refine j_goto (pc := 52) (tgt := 56) d_Md_readBar_52 ?_
      exact mJ_weak (ls' := [(2, v0), (0, x4), (9, 0), (9, 0), (9, 0)]) (mwk_s (mwk_s (mwk_s (mwk_s (mwk_s mwk_n))))) (t_Md_readBar_J56  hr)
  · exact j_vret (pc := 23) d_Md_readBar_23 rfl hr
theorem t_Md_readBar {G : mG} (h : mH) (v0 : Int) (r : mR) (hr : f_Md_readBar h v0 = some r) : mJM G M_Md_readBar [(2, v0)] h r := by
  refine mJM_of (L := [(2, v0), (9, 0), (9, 0), (9, 0), (9, 0)]) rfl rfl rfl (Nat.le_of_ble_eq_true rfl) ?_
  unfold f_Md_readBar at hr
  refine j_aload_n (pc := 0) d_Md_readBar_0 rfl ?_
  refine j_getf (pc := 1) d_Md_readBar_1 (fd_Md_13 rfl) hr (fun hr => ?_)
  refine j_iconst (pc := 4) d_Md_readBar_4 ?_
  refine j_iaload (pc := 5) d_Md_readBar_5 hr (fun hr => ?_)
  refine j_bipush (pc := 6) d_Md_readBar_6 ?_
  refine j_icmp_ne (pc := 8) (tgt := 16) d_Md_readBar_8 hr (fun hr => ?_) (fun hr => ?_)
  · exact mJ_weak (ls' := [(2, v0), (9, 0), (9, 0), (9, 0), (9, 0)]) (mwk_s (mwk_s (mwk_s (mwk_s (mwk_s mwk_n))))) (t_Md_readBar_J16  hr)
  · refine j_aload_n (pc := 11) d_Md_readBar_11 rfl ?_
    refine j_iconst (pc := 12) d_Md_readBar_12 ?_
    obtain ⟨ha, hr⟩ := chk_some hr
    refine j_callG (pc := 13) (stk := [(0, 4), (2, v0)]) (as := [(2, v0), (0, 4)]) (P := (fun v9 => [])) (tg := 3) (My := M_Md_blames) (mRunV (as := [(0, 4)]) (st := []) d_Md_readBar_13 (mc_Md_blames (by decide)) rfl (mv_Md_blames tb_ml_Md_143) rfl (Nat.le_of_ble_eq_true rfl) ha) (fun v => rfl) rfl hr (fun r1 h1 => t_Md_blames _ _ _ _ h1) (fun x2 h1 hr => ?_)
    exact mJ_weak (ls' := [(2, v0), (9, 0), (9, 0), (9, 0), (9, 0)]) (mwk_s (mwk_s (mwk_s (mwk_s (mwk_s mwk_n))))) (t_Md_readBar_J16  hr)
def M_Md_readFact : mM := ("NineBarsModel", ⟨"NineBarsModel", "readFact", "(II)V"⟩, prog_13_method_20_code, 7, none, [], 9)
theorem tb_co_Md_readFact : mTB (Cond.code ⟨"NineBarsModel", "readFact", "(II)V"⟩ prog_13_method_20_code 7 (none)) := tbq7 173 (by decide +kernel) rfl
theorem mc_Md_readFact {M : mM} (hd : 9 < mDp M) : mCal M M_Md_readFact 2 := ⟨tb_co_Md_readFact, tb_in_NineBarsModel, ⟨by decide +kernel, by decide +kernel⟩, by decide +kernel, hd, by decide⟩
theorem d_Md_readFact_0 : decode prog_13_method_20_code 0 = .ok (.aload_n 0, 1) := by decide +kernel
theorem d_Md_readFact_1 : decode prog_13_method_20_code 1 = .ok (.getfield 118, 3) := by decide +kernel
theorem d_Md_readFact_4 : decode prog_13_method_20_code 4 = .ok (.ifCond .ne 24, 3) := by decide +kernel
theorem d_Md_readFact_28 : decode prog_13_method_20_code 28 = .ok (.aload_n 0, 1) := by decide +kernel
theorem d_Md_readFact_29 : decode prog_13_method_20_code 29 = .ok (.invokevirtual 158, 3) := by decide +kernel
theorem tb_ml_Md_158 : mTB (Cond.methodLink "NineBarsModel" 158 ⟨"NineBarsModel", "barTold", "()I"⟩) := tbq7 156 (by decide +kernel) rfl
theorem tb_im_Md_barTold : mTB (Cond.instanceMethod ⟨"NineBarsModel", "barTold", "()I"⟩) := tbq7 158 (by decide +kernel) rfl
theorem tb_se_Md_barTold : mTB (Cond.selects "NineBarsModel" ⟨"NineBarsModel", "barTold", "()I"⟩ ⟨"NineBarsModel", "barTold", "()I"⟩) := tbqp 55 (by decide +kernel) rfl
theorem mv_Md_barTold {M : mM} {idx : Nat} (h : mTB (Cond.methodLink (mO M) idx ⟨"NineBarsModel", "barTold", "()I"⟩)) : mCaV M M_Md_barTold idx 11 := ⟨h, tb_im_Md_barTold, tb_se_Md_barTold, by decide, TX11, 40, rfl⟩
theorem d_Md_readFact_32 : decode prog_13_method_20_code 32 = .ok (.istore_n 3, 1) := by decide +kernel
theorem d_Md_readFact_33 : decode prog_13_method_20_code 33 = .ok (.aload_n 0, 1) := by decide +kernel
theorem d_Md_readFact_34 : decode prog_13_method_20_code 34 = .ok (.ldc 178, 2) := by decide +kernel
theorem d_Md_readFact_36 : decode prog_13_method_20_code 36 = .ok (.invokevirtual 133, 3) := by decide +kernel
theorem d_Md_readFact_39 : decode prog_13_method_20_code 39 = .ok (.istore 4, 2) := by decide +kernel
theorem d_Md_readFact_41 : decode prog_13_method_20_code 41 = .ok (.iload 4, 2) := by decide +kernel
theorem d_Md_readFact_43 : decode prog_13_method_20_code 43 = .ok (.ifCond .ne 17, 3) := by decide +kernel
theorem d_Md_readFact_60 : decode prog_13_method_20_code 60 = .ok (.aload_n 0, 1) := by decide +kernel
theorem d_Md_readFact_61 : decode prog_13_method_20_code 61 = .ok (.getfield 118, 3) := by decide +kernel
theorem d_Md_readFact_64 : decode prog_13_method_20_code 64 = .ok (.ifCond .eq 4, 3) := by decide +kernel
theorem d_Md_readFact_68 : decode prog_13_method_20_code 68 = .ok (.aload_n 0, 1) := by decide +kernel
theorem d_Md_readFact_69 : decode prog_13_method_20_code 69 = .ok (.invokevirtual 137, 3) := by decide +kernel
theorem d_Md_readFact_72 : decode prog_13_method_20_code 72 = .ok (.aload_n 0, 1) := by decide +kernel
theorem d_Md_readFact_73 : decode prog_13_method_20_code 73 = .ok (.iconst 0, 1) := by decide +kernel
theorem d_Md_readFact_74 : decode prog_13_method_20_code 74 = .ok (.aload_n 0, 1) := by decide +kernel
theorem d_Md_readFact_75 : decode prog_13_method_20_code 75 = .ok (.iload_n 3, 1) := by decide +kernel
theorem d_Md_readFact_76 : decode prog_13_method_20_code 76 = .ok (.invokevirtual 161, 3) := by decide +kernel
theorem tb_ml_Md_161 : mTB (Cond.methodLink "NineBarsModel" 161 ⟨"NineBarsModel", "placesTold", "(I)I"⟩) := tbq7 160 (by decide +kernel) rfl
theorem tb_im_Md_placesTold : mTB (Cond.instanceMethod ⟨"NineBarsModel", "placesTold", "(I)I"⟩) := tbq7 162 (by decide +kernel) rfl
theorem tb_se_Md_placesTold : mTB (Cond.selects "NineBarsModel" ⟨"NineBarsModel", "placesTold", "(I)I"⟩ ⟨"NineBarsModel", "placesTold", "(I)I"⟩) := tbqp 56 (by decide +kernel) rfl
theorem mv_Md_placesTold {M : mM} {idx : Nat} (h : mTB (Cond.methodLink (mO M) idx ⟨"NineBarsModel", "placesTold", "(I)I"⟩)) : mCaV M M_Md_placesTold idx 11 := ⟨h, tb_im_Md_placesTold, tb_se_Md_placesTold, by decide, TX11, 40, rfl⟩
theorem d_Md_readFact_79 : decode prog_13_method_20_code 79 = .ok (.iconst 1, 1) := by decide +kernel
theorem d_Md_readFact_80 : decode prog_13_method_20_code 80 = .ok (.isub, 1) := by decide +kernel
theorem d_Md_readFact_81 : decode prog_13_method_20_code 81 = .ok (.invokevirtual 151, 3) := by decide +kernel
theorem d_Md_readFact_84 : decode prog_13_method_20_code 84 = .ok (.istore 5, 2) := by decide +kernel
theorem d_Md_readFact_86 : decode prog_13_method_20_code 86 = .ok (.aload_n 0, 1) := by decide +kernel
theorem d_Md_readFact_87 : decode prog_13_method_20_code 87 = .ok (.getfield 118, 3) := by decide +kernel
theorem d_Md_readFact_90 : decode prog_13_method_20_code 90 = .ok (.ifCond .eq 4, 3) := by decide +kernel
theorem d_Md_readFact_94 : decode prog_13_method_20_code 94 = .ok (.iload_n 1, 1) := by decide +kernel
theorem d_Md_readFact_95 : decode prog_13_method_20_code 95 = .ok (.iconst 4, 1) := by decide +kernel
theorem d_Md_readFact_96 : decode prog_13_method_20_code 96 = .ok (.iadd, 1) := by decide +kernel
theorem d_Md_readFact_97 : decode prog_13_method_20_code 97 = .ok (.iconst 3, 1) := by decide +kernel
theorem d_Md_readFact_98 : decode prog_13_method_20_code 98 = .ok (.aload_n 0, 1) := by decide +kernel
theorem d_Md_readFact_99 : decode prog_13_method_20_code 99 = .ok (.getfield 13, 3) := by decide +kernel
theorem d_Md_readFact_102 : decode prog_13_method_20_code 102 = .ok (.iload_n 1, 1) := by decide +kernel
theorem d_Md_readFact_103 : decode prog_13_method_20_code 103 = .ok (.iconst 3, 1) := by decide +kernel
theorem d_Md_readFact_104 : decode prog_13_method_20_code 104 = .ok (.iadd, 1) := by decide +kernel
theorem d_Md_readFact_105 : decode prog_13_method_20_code 105 = .ok (.iaload, 1) := by decide +kernel
theorem d_Md_readFact_106 : decode prog_13_method_20_code 106 = .ok (.imul, 1) := by decide +kernel
theorem d_Md_readFact_107 : decode prog_13_method_20_code 107 = .ok (.iadd, 1) := by decide +kernel
theorem d_Md_readFact_108 : decode prog_13_method_20_code 108 = .ok (.istore 6, 2) := by decide +kernel
theorem d_Md_readFact_110 : decode prog_13_method_20_code 110 = .ok (.aload_n 0, 1) := by decide +kernel
theorem d_Md_readFact_111 : decode prog_13_method_20_code 111 = .ok (.getfield 13, 3) := by decide +kernel
theorem d_Md_readFact_114 : decode prog_13_method_20_code 114 = .ok (.iload 6, 2) := by decide +kernel
theorem d_Md_readFact_116 : decode prog_13_method_20_code 116 = .ok (.iload_n 3, 1) := by decide +kernel
theorem d_Md_readFact_117 : decode prog_13_method_20_code 117 = .ok (.iastore, 1) := by decide +kernel
theorem d_Md_readFact_118 : decode prog_13_method_20_code 118 = .ok (.aload_n 0, 1) := by decide +kernel
theorem d_Md_readFact_119 : decode prog_13_method_20_code 119 = .ok (.getfield 13, 3) := by decide +kernel
theorem d_Md_readFact_122 : decode prog_13_method_20_code 122 = .ok (.iload 6, 2) := by decide +kernel
theorem d_Md_readFact_124 : decode prog_13_method_20_code 124 = .ok (.iconst 1, 1) := by decide +kernel
theorem d_Md_readFact_125 : decode prog_13_method_20_code 125 = .ok (.iadd, 1) := by decide +kernel
theorem d_Md_readFact_126 : decode prog_13_method_20_code 126 = .ok (.iload 4, 2) := by decide +kernel
theorem d_Md_readFact_128 : decode prog_13_method_20_code 128 = .ok (.ifCond .eq 7, 3) := by decide +kernel
theorem d_Md_readFact_135 : decode prog_13_method_20_code 135 = .ok (.iconst 0, 1) := by decide +kernel
theorem d_Md_readFact_136 : decode prog_13_method_20_code 136 = .ok (.iastore, 1) := by decide +kernel
theorem d_Md_readFact_137 : decode prog_13_method_20_code 137 = .ok (.aload_n 0, 1) := by decide +kernel
theorem d_Md_readFact_138 : decode prog_13_method_20_code 138 = .ok (.getfield 13, 3) := by decide +kernel
theorem d_Md_readFact_141 : decode prog_13_method_20_code 141 = .ok (.iload 6, 2) := by decide +kernel
theorem d_Md_readFact_143 : decode prog_13_method_20_code 143 = .ok (.iconst 2, 1) := by decide +kernel
theorem d_Md_readFact_144 : decode prog_13_method_20_code 144 = .ok (.iadd, 1) := by decide +kernel
theorem d_Md_readFact_145 : decode prog_13_method_20_code 145 = .ok (.iload 5, 2) := by decide +kernel
theorem d_Md_readFact_147 : decode prog_13_method_20_code 147 = .ok (.iastore, 1) := by decide +kernel
theorem d_Md_readFact_148 : decode prog_13_method_20_code 148 = .ok (.aload_n 0, 1) := by decide +kernel
theorem d_Md_readFact_149 : decode prog_13_method_20_code 149 = .ok (.getfield 13, 3) := by decide +kernel
theorem d_Md_readFact_152 : decode prog_13_method_20_code 152 = .ok (.iload_n 1, 1) := by decide +kernel
theorem d_Md_readFact_153 : decode prog_13_method_20_code 153 = .ok (.iconst 3, 1) := by decide +kernel
theorem d_Md_readFact_154 : decode prog_13_method_20_code 154 = .ok (.iadd, 1) := by decide +kernel
theorem d_Md_readFact_155 : decode prog_13_method_20_code 155 = .ok (.dup2, 1) := by decide +kernel
theorem d_Md_readFact_156 : decode prog_13_method_20_code 156 = .ok (.iaload, 1) := by decide +kernel
theorem d_Md_readFact_157 : decode prog_13_method_20_code 157 = .ok (.iconst 1, 1) := by decide +kernel
theorem d_Md_readFact_158 : decode prog_13_method_20_code 158 = .ok (.iadd, 1) := by decide +kernel
theorem d_Md_readFact_159 : decode prog_13_method_20_code 159 = .ok (.iastore, 1) := by decide +kernel
theorem d_Md_readFact_160 : decode prog_13_method_20_code 160 = .ok (.return_, 1) := by decide +kernel
theorem d_Md_readFact_131 : decode prog_13_method_20_code 131 = .ok (.iconst 1, 1) := by decide +kernel
theorem d_Md_readFact_132 : decode prog_13_method_20_code 132 = .ok (.goto 4, 3) := by decide +kernel
theorem d_Md_readFact_93 : decode prog_13_method_20_code 93 = .ok (.return_, 1) := by decide +kernel
theorem d_Md_readFact_67 : decode prog_13_method_20_code 67 = .ok (.return_, 1) := by decide +kernel
theorem d_Md_readFact_46 : decode prog_13_method_20_code 46 = .ok (.aload_n 0, 1) := by decide +kernel
theorem d_Md_readFact_47 : decode prog_13_method_20_code 47 = .ok (.ldc 155, 2) := by decide +kernel
theorem d_Md_readFact_49 : decode prog_13_method_20_code 49 = .ok (.invokevirtual 133, 3) := by decide +kernel
theorem d_Md_readFact_52 : decode prog_13_method_20_code 52 = .ok (.ifCond .ne 8, 3) := by decide +kernel
theorem d_Md_readFact_55 : decode prog_13_method_20_code 55 = .ok (.aload_n 0, 1) := by decide +kernel
theorem d_Md_readFact_56 : decode prog_13_method_20_code 56 = .ok (.iconst 2, 1) := by decide +kernel
theorem d_Md_readFact_57 : decode prog_13_method_20_code 57 = .ok (.invokevirtual 143, 3) := by decide +kernel
theorem d_Md_readFact_7 : decode prog_13_method_20_code 7 = .ok (.aload_n 0, 1) := by decide +kernel
theorem d_Md_readFact_8 : decode prog_13_method_20_code 8 = .ok (.getfield 101, 3) := by decide +kernel
theorem d_Md_readFact_11 : decode prog_13_method_20_code 11 = .ok (.iconst 2, 1) := by decide +kernel
theorem d_Md_readFact_12 : decode prog_13_method_20_code 12 = .ok (.if_icmp .ne 16, 3) := by decide +kernel
theorem d_Md_readFact_15 : decode prog_13_method_20_code 15 = .ok (.aload_n 0, 1) := by decide +kernel
theorem d_Md_readFact_16 : decode prog_13_method_20_code 16 = .ok (.getfield 115, 3) := by decide +kernel
theorem d_Md_readFact_19 : decode prog_13_method_20_code 19 = .ok (.iload_n 2, 1) := by decide +kernel
theorem d_Md_readFact_20 : decode prog_13_method_20_code 20 = .ok (.if_icmp .ne 8, 3) := by decide +kernel
theorem d_Md_readFact_23 : decode prog_13_method_20_code 23 = .ok (.aload_n 0, 1) := by decide +kernel
theorem d_Md_readFact_24 : decode prog_13_method_20_code 24 = .ok (.iconst 3, 1) := by decide +kernel
theorem d_Md_readFact_25 : decode prog_13_method_20_code 25 = .ok (.invokevirtual 143, 3) := by decide +kernel
theorem t_Md_readFact_J136 {G : mG} {r : mR} {v0 v1 v5 v6 s0 s1 s2 : Int} {h : mH}  (hr : f_Md_readFact_J136 v0 v1 v5 v6 s0 s1 s2 h = some r) : mJ G M_Md_readFact 136 [(2, v0), (0, v1), (9, 0), (9, 0), (9, 0), (0, v5), (0, v6)] [(0, s2), (0, s1), (2, s0)] h r := by
  unfold f_Md_readFact_J136 at hr
  refine j_iastore (pc := 136) d_Md_readFact_136 hr (fun h1 hr => ?_)
  refine j_aload_n (pc := 137) d_Md_readFact_137 rfl ?_
  refine j_getf (pc := 138) d_Md_readFact_138 (fd_Md_13 rfl) hr (fun hr => ?_)
  refine j_iload (pc := 141) d_Md_readFact_141 rfl ?_
  refine j_iconst (pc := 143) d_Md_readFact_143 ?_
  refine j_iadd (pc := 144) d_Md_readFact_144 ?_
  refine j_iload (pc := 145) d_Md_readFact_145 rfl ?_
  refine j_iastore (pc := 147) d_Md_readFact_147 hr (fun h2 hr => ?_)
  refine j_aload_n (pc := 148) d_Md_readFact_148 rfl ?_
  refine j_getf (pc := 149) d_Md_readFact_149 (fd_Md_13 rfl) hr (fun hr => ?_)
  refine j_iload_n (pc := 152) d_Md_readFact_152 rfl ?_
  refine j_iconst (pc := 153) d_Md_readFact_153 ?_
  refine j_iadd (pc := 154) d_Md_readFact_154 ?_
  refine j_dup2 (pc := 155) d_Md_readFact_155 ?_
  refine j_iaload (pc := 156) d_Md_readFact_156 hr (fun hr => ?_)
  refine j_iconst (pc := 157) d_Md_readFact_157 ?_
  refine j_iadd (pc := 158) d_Md_readFact_158 ?_
  refine j_iastore (pc := 159) d_Md_readFact_159 hr (fun h3 hr => ?_)
  exact j_vret (pc := 160) d_Md_readFact_160 rfl hr
theorem t_Md_readFact_J60 {G : mG} {r : mR} {v0 v1 v3 v4 : Int} {h : mH}  (hr : f_Md_readFact_J60 v0 v1 v3 v4 h = some r) : mJ G M_Md_readFact 60 [(2, v0), (0, v1), (9, 0), (0, v3), (0, v4), (9, 0), (9, 0)] [] h r := by
  unfold f_Md_readFact_J60 at hr
  refine j_aload_n (pc := 60) d_Md_readFact_60 rfl ?_
  refine j_getf (pc := 61) d_Md_readFact_61 (fd_Md_118 rfl) hr (fun hr => ?_)
  refine j_if_eq (pc := 64) (tgt := 68) d_Md_readFact_64 hr (fun hr => ?_) (fun hr => ?_)
  · refine j_aload_n (pc := 68) d_Md_readFact_68 rfl ?_
    obtain ⟨ha, hr⟩ := chk_some hr
    refine j_callG (pc := 69) (stk := [(2, v0)]) (as := [(2, v0)]) (P := (fun v9 => [])) (tg := 3) (My := M_Md_reads) (mRunV (as := []) (st := []) d_Md_readFact_69 (mc_Md_reads (by decide)) rfl (mv_Md_reads tb_ml_Md_137) rfl (Nat.le_of_ble_eq_true rfl) ha) (fun v => rfl) rfl hr (fun r1 h1 => t_Md_reads _ _ _ h1) (fun x2 h1 hr => ?_)
    refine j_aload_n (pc := 72) d_Md_readFact_72 rfl ?_
    refine j_iconst (pc := 73) d_Md_readFact_73 ?_
    refine j_aload_n (pc := 74) d_Md_readFact_74 rfl ?_
    refine j_iload_n (pc := 75) d_Md_readFact_75 rfl ?_
    obtain ⟨ha, hr⟩ := chk_some hr
    refine j_callG (pc := 76) (stk := [(0, v3), (2, v0), (0, 0), (2, v0)]) (as := [(2, v0), (0, v3)]) (P := (fun v9 => ((0 : Nat), v9) :: [(0, 0), (2, v0)])) (tg := 0) (My := M_Md_placesTold) (mRunV (as := [(0, v3)]) (st := [(0, 0), (2, v0)]) d_Md_readFact_76 (mc_Md_placesTold (by decide)) rfl (mv_Md_placesTold tb_ml_Md_161) rfl (Nat.le_of_ble_eq_true rfl) ha) (fun v => rfl) rfl hr (fun r1 h1 => t_Md_placesTold _ _ _ _ h1) (fun x4 h3 hr => ?_)
    refine j_iconst (pc := 79) d_Md_readFact_79 ?_
    refine j_isub (pc := 80) d_Md_readFact_80 ?_
    obtain ⟨ha, hr⟩ := chk_some hr
    refine j_callG (pc := 81) (stk := [(0, w32 (x4 - 1)), (0, 0), (2, v0)]) (as := [(2, v0), (0, 0), (0, w32 (x4 - 1))]) (P := (fun v9 => ((0 : Nat), v9) :: [])) (tg := 0) (My := M_Md_number) (mRunV (as := [(0, 0), (0, w32 (x4 - 1))]) (st := []) d_Md_readFact_81 (mc_Md_number (by decide)) rfl (mv_Md_number tb_ml_Md_151) rfl (Nat.le_of_ble_eq_true rfl) ha) (fun v => rfl) rfl hr (fun r1 h1 => t_Md_number _ _ _ _ _ h1) (fun x6 h5 hr => ?_)
    refine j_istore (pc := 84) (ls' := [(2, v0), (0, v1), (9, 0), (0, v3), (0, v4), (0, x6), (9, 0)]) d_Md_readFact_84 rfl ?_
    refine j_aload_n (pc := 86) d_Md_readFact_86 rfl ?_
    refine j_getf (pc := 87) d_Md_readFact_87 (fd_Md_118 rfl) hr (fun hr => ?_)
    refine j_if_eq (pc := 90) (tgt := 94) d_Md_readFact_90 hr (fun hr => ?_) (fun hr => ?_)
    · refine j_iload_n (pc := 94) d_Md_readFact_94 rfl ?_
      refine j_iconst (pc := 95) d_Md_readFact_95 ?_
      refine j_iadd (pc := 96) d_Md_readFact_96 ?_
      refine j_iconst (pc := 97) d_Md_readFact_97 ?_
      refine j_aload_n (pc := 98) d_Md_readFact_98 rfl ?_
      refine j_getf (pc := 99) d_Md_readFact_99 (fd_Md_13 rfl) hr (fun hr => ?_)
      refine j_iload_n (pc := 102) d_Md_readFact_102 rfl ?_
      refine j_iconst (pc := 103) d_Md_readFact_103 ?_
      refine j_iadd (pc := 104) d_Md_readFact_104 ?_
      refine j_iaload (pc := 105) d_Md_readFact_105 hr (fun hr => ?_)
      refine j_imul (pc := 106) d_Md_readFact_106 ?_
      refine j_iadd (pc := 107) d_Md_readFact_107 ?_
      refine j_istoreW (pc := 108) (L := fun x7 => [(2, v0), (0, v1), (9, 0), (0, v3), (0, v4), (0, x6), (0, x7)]) d_Md_readFact_108 (fun _ => rfl) hr (fun x7 hr => ?_)
      refine j_aload_n (pc := 110) d_Md_readFact_110 rfl ?_
      refine j_getf (pc := 111) d_Md_readFact_111 (fd_Md_13 rfl) hr (fun hr => ?_)
      refine j_iload (pc := 114) d_Md_readFact_114 rfl ?_
      refine j_iload_n (pc := 116) d_Md_readFact_116 rfl ?_
      refine j_iastore (pc := 117) d_Md_readFact_117 hr (fun h8 hr => ?_)
      refine j_aload_n (pc := 118) d_Md_readFact_118 rfl ?_
      refine j_getf (pc := 119) d_Md_readFact_119 (fd_Md_13 rfl) hr (fun hr => ?_)
      refine j_iload (pc := 122) d_Md_readFact_122 rfl ?_
      refine j_iconst (pc := 124) d_Md_readFact_124 ?_
      refine j_iadd (pc := 125) d_Md_readFact_125 ?_
      refine j_iload (pc := 126) d_Md_readFact_126 rfl ?_
      refine j_if_eq (pc := 128) (tgt := 135) d_Md_readFact_128 hr (fun hr => ?_) (fun hr => ?_)
      · refine j_iconst (pc := 135) d_Md_readFact_135 ?_
        exact mJ_weak (ls' := [(2, v0), (0, v1), (9, 0), (9, 0), (9, 0), (0, x6), (0, x7)]) (mwk_s (mwk_s (mwk_s (mwk_d (mwk_d (mwk_s (mwk_s mwk_n))))))) (t_Md_readFact_J136  hr)
      · refine j_iconst (pc := 131) d_Md_readFact_131 ?_
        refine j_goto (pc := 132) (tgt := 136) d_Md_readFact_132 ?_
        exact mJ_weak (ls' := [(2, v0), (0, v1), (9, 0), (9, 0), (9, 0), (0, x6), (0, x7)]) (mwk_s (mwk_s (mwk_s (mwk_d (mwk_d (mwk_s (mwk_s mwk_n))))))) (t_Md_readFact_J136  hr)
    · exact j_vret (pc := 93) d_Md_readFact_93 rfl hr
  · exact j_vret (pc := 67) d_Md_readFact_67 rfl hr
theorem t_Md_readFact_J28 {G : mG} {r : mR} {v0 v1 : Int} {h : mH}  (hr : f_Md_readFact_J28 v0 v1 h = some r) : mJ G M_Md_readFact 28 [(2, v0), (0, v1), (9, 0), (9, 0), (9, 0), (9, 0), (9, 0)] [] h r := by
  unfold f_Md_readFact_J28 at hr
  refine j_aload_n (pc := 28) d_Md_readFact_28 rfl ?_
  obtain ⟨ha, hr⟩ := chk_some hr
  refine j_callG (pc := 29) (stk := [(2, v0)]) (as := [(2, v0)]) (P := (fun v9 => ((0 : Nat), v9) :: [])) (tg := 0) (My := M_Md_barTold) (mRunV (as := []) (st := []) d_Md_readFact_29 (mc_Md_barTold (by decide)) rfl (mv_Md_barTold tb_ml_Md_158) rfl (Nat.le_of_ble_eq_true rfl) ha) (fun v => rfl) rfl hr (fun r1 h1 => t_Md_barTold _ _ _ h1) (fun x2 h1 hr => ?_)
  refine j_istore_n (pc := 32) (ls' := [(2, v0), (0, v1), (9, 0), (0, x2), (9, 0), (9, 0), (9, 0)]) d_Md_readFact_32 rfl ?_
  refine j_aload_n (pc := 33) d_Md_readFact_33 rfl ?_
  refine j_ldcS (pc := 34) (tx := "not") (k := 9) d_Md_readFact_34 (by decide +kernel) ?_
  obtain ⟨ha, hr⟩ := chk_some hr
  refine j_callG (pc := 36) (stk := [(2, (-(((9 : Nat) : Int) + 2))), (2, v0)]) (as := [(2, v0), (2, (-(((9 : Nat) : Int) + 2)))]) (P := (fun v9 => ((0 : Nat), v9) :: [])) (tg := 0) (My := M_Md_isWord) (mRunV (as := [(2, (-(((9 : Nat) : Int) + 2)))]) (st := []) d_Md_readFact_36 (mc_Md_isWord (by decide)) rfl (mv_Md_isWord tb_ml_Md_133) rfl (Nat.le_of_ble_eq_true rfl) ha) (fun v => rfl) rfl hr (fun r1 h1 => t_Md_isWord _ _ _ _ h1) (fun x4 h3 hr => ?_)
  refine j_istore (pc := 39) (ls' := [(2, v0), (0, v1), (9, 0), (0, x2), (0, x4), (9, 0), (9, 0)]) d_Md_readFact_39 rfl ?_
  refine j_iload (pc := 41) d_Md_readFact_41 rfl ?_
  refine j_if_ne (pc := 43) (tgt := 60) d_Md_readFact_43 hr (fun hr => ?_) (fun hr => ?_)
  · exact mJ_weak (ls' := [(2, v0), (0, v1), (9, 0), (0, x2), (0, x4), (9, 0), (9, 0)]) (mwk_s (mwk_s (mwk_s (mwk_s (mwk_s (mwk_s (mwk_s mwk_n))))))) (t_Md_readFact_J60  hr)
  · refine j_aload_n (pc := 46) d_Md_readFact_46 rfl ?_
    refine j_ldcS (pc := 47) (tx := "at") (k := 4) d_Md_readFact_47 (by decide +kernel) ?_
    obtain ⟨ha, hr⟩ := chk_some hr
    refine j_callG (pc := 49) (stk := [(2, (-(((4 : Nat) : Int) + 2))), (2, v0)]) (as := [(2, v0), (2, (-(((4 : Nat) : Int) + 2)))]) (P := (fun v9 => ((0 : Nat), v9) :: [])) (tg := 0) (My := M_Md_isWord) (mRunV (as := [(2, (-(((4 : Nat) : Int) + 2)))]) (st := []) d_Md_readFact_49 (mc_Md_isWord (by decide)) rfl (mv_Md_isWord tb_ml_Md_133) rfl (Nat.le_of_ble_eq_true rfl) ha) (fun v => rfl) rfl hr (fun r1 h1 => t_Md_isWord _ _ _ _ h1) (fun x6 h5 hr => ?_)
    refine j_if_ne (pc := 52) (tgt := 60) d_Md_readFact_52 hr (fun hr => ?_) (fun hr => ?_)
    · exact mJ_weak (ls' := [(2, v0), (0, v1), (9, 0), (0, x2), (0, x4), (9, 0), (9, 0)]) (mwk_s (mwk_s (mwk_s (mwk_s (mwk_s (mwk_s (mwk_s mwk_n))))))) (t_Md_readFact_J60  hr)
    · refine j_aload_n (pc := 55) d_Md_readFact_55 rfl ?_
      refine j_iconst (pc := 56) d_Md_readFact_56 ?_
      obtain ⟨ha, hr⟩ := chk_some hr
      refine j_callG (pc := 57) (stk := [(0, 2), (2, v0)]) (as := [(2, v0), (0, 2)]) (P := (fun v9 => [])) (tg := 3) (My := M_Md_blames) (mRunV (as := [(0, 2)]) (st := []) d_Md_readFact_57 (mc_Md_blames (by decide)) rfl (mv_Md_blames tb_ml_Md_143) rfl (Nat.le_of_ble_eq_true rfl) ha) (fun v => rfl) rfl hr (fun r1 h1 => t_Md_blames _ _ _ _ h1) (fun x8 h7 hr => ?_)
      exact mJ_weak (ls' := [(2, v0), (0, v1), (9, 0), (0, x2), (0, x4), (9, 0), (9, 0)]) (mwk_s (mwk_s (mwk_s (mwk_s (mwk_s (mwk_s (mwk_s mwk_n))))))) (t_Md_readFact_J60  hr)
theorem t_Md_readFact {G : mG} (h : mH) (v0 v1 v2 : Int) (r : mR) (hr : f_Md_readFact h v0 v1 v2 = some r) : mJM G M_Md_readFact [(2, v0), (0, v1), (0, v2)] h r := by
  refine mJM_of (L := [(2, v0), (0, v1), (0, v2), (9, 0), (9, 0), (9, 0), (9, 0)]) rfl rfl rfl (Nat.le_of_ble_eq_true rfl) ?_
  unfold f_Md_readFact at hr
  refine j_aload_n (pc := 0) d_Md_readFact_0 rfl ?_
  refine j_getf (pc := 1) d_Md_readFact_1 (fd_Md_118 rfl) hr (fun hr => ?_)
  refine j_if_ne (pc := 4) (tgt := 28) d_Md_readFact_4 hr (fun hr => ?_) (fun hr => ?_)
  · exact mJ_weak (ls' := [(2, v0), (0, v1), (9, 0), (9, 0), (9, 0), (9, 0), (9, 0)]) (mwk_s (mwk_s (mwk_d (mwk_s (mwk_s (mwk_s (mwk_s mwk_n))))))) (t_Md_readFact_J28  hr)
  · refine j_aload_n (pc := 7) d_Md_readFact_7 rfl ?_
    refine j_getf (pc := 8) d_Md_readFact_8 (fd_Md_101 rfl) hr (fun hr => ?_)
    refine j_iconst (pc := 11) d_Md_readFact_11 ?_
    refine j_icmp_ne (pc := 12) (tgt := 28) d_Md_readFact_12 hr (fun hr => ?_) (fun hr => ?_)
    · exact mJ_weak (ls' := [(2, v0), (0, v1), (9, 0), (9, 0), (9, 0), (9, 0), (9, 0)]) (mwk_s (mwk_s (mwk_d (mwk_s (mwk_s (mwk_s (mwk_s mwk_n))))))) (t_Md_readFact_J28  hr)
    · refine j_aload_n (pc := 15) d_Md_readFact_15 rfl ?_
      refine j_getf (pc := 16) d_Md_readFact_16 (fd_Md_115 rfl) hr (fun hr => ?_)
      refine j_iload_n (pc := 19) d_Md_readFact_19 rfl ?_
      refine j_icmp_ne (pc := 20) (tgt := 28) d_Md_readFact_20 hr (fun hr => ?_) (fun hr => ?_)
      · exact mJ_weak (ls' := [(2, v0), (0, v1), (9, 0), (9, 0), (9, 0), (9, 0), (9, 0)]) (mwk_s (mwk_s (mwk_d (mwk_s (mwk_s (mwk_s (mwk_s mwk_n))))))) (t_Md_readFact_J28  hr)
      · refine j_aload_n (pc := 23) d_Md_readFact_23 rfl ?_
        refine j_iconst (pc := 24) d_Md_readFact_24 ?_
        obtain ⟨ha, hr⟩ := chk_some hr
        refine j_callG (pc := 25) (stk := [(0, 3), (2, v0)]) (as := [(2, v0), (0, 3)]) (P := (fun v9 => [])) (tg := 3) (My := M_Md_blames) (mRunV (as := [(0, 3)]) (st := []) d_Md_readFact_25 (mc_Md_blames (by decide)) rfl (mv_Md_blames tb_ml_Md_143) rfl (Nat.le_of_ble_eq_true rfl) ha) (fun v => rfl) rfl hr (fun r1 h1 => t_Md_blames _ _ _ _ h1) (fun x2 h1 hr => ?_)
        exact mJ_weak (ls' := [(2, v0), (0, v1), (9, 0), (9, 0), (9, 0), (9, 0), (9, 0)]) (mwk_s (mwk_s (mwk_d (mwk_s (mwk_s (mwk_s (mwk_s mwk_n))))))) (t_Md_readFact_J28  hr)
def M_Md_readRule : mM := ("NineBarsModel", ⟨"NineBarsModel", "readRule", "()V"⟩, prog_13_method_19_code, 5, none, [], 11)
theorem tb_co_Md_readRule : mTB (Cond.code ⟨"NineBarsModel", "readRule", "()V"⟩ prog_13_method_19_code 5 (none)) := tbq7 155 (by decide +kernel) rfl
theorem mc_Md_readRule {M : mM} (hd : 11 < mDp M) : mCal M M_Md_readRule 0 := ⟨tb_co_Md_readRule, tb_in_NineBarsModel, ⟨by decide +kernel, by decide +kernel⟩, by decide +kernel, hd, by decide⟩
theorem d_Md_readRule_0 : decode prog_13_method_19_code 0 = .ok (.aload_n 0, 1) := by decide +kernel
theorem d_Md_readRule_1 : decode prog_13_method_19_code 1 = .ok (.getfield 13, 3) := by decide +kernel
theorem d_Md_readRule_4 : decode prog_13_method_19_code 4 = .ok (.iconst 2, 1) := by decide +kernel
theorem d_Md_readRule_5 : decode prog_13_method_19_code 5 = .ok (.iaload, 1) := by decide +kernel
theorem d_Md_readRule_6 : decode prog_13_method_19_code 6 = .ok (.bipush 24, 2) := by decide +kernel
theorem d_Md_readRule_8 : decode prog_13_method_19_code 8 = .ok (.if_icmp .ne 8, 3) := by decide +kernel
theorem d_Md_readRule_16 : decode prog_13_method_19_code 16 = .ok (.aload_n 0, 1) := by decide +kernel
theorem d_Md_readRule_17 : decode prog_13_method_19_code 17 = .ok (.getfield 118, 3) := by decide +kernel
theorem d_Md_readRule_20 : decode prog_13_method_19_code 20 = .ok (.ifCond .eq 4, 3) := by decide +kernel
theorem d_Md_readRule_24 : decode prog_13_method_19_code 24 = .ok (.aload_n 0, 1) := by decide +kernel
theorem d_Md_readRule_25 : decode prog_13_method_19_code 25 = .ok (.invokevirtual 137, 3) := by decide +kernel
theorem d_Md_readRule_28 : decode prog_13_method_19_code 28 = .ok (.bipush 41, 2) := by decide +kernel
theorem d_Md_readRule_30 : decode prog_13_method_19_code 30 = .ok (.bipush 16, 2) := by decide +kernel
theorem d_Md_readRule_32 : decode prog_13_method_19_code 32 = .ok (.aload_n 0, 1) := by decide +kernel
theorem d_Md_readRule_33 : decode prog_13_method_19_code 33 = .ok (.getfield 13, 3) := by decide +kernel
theorem d_Md_readRule_36 : decode prog_13_method_19_code 36 = .ok (.iconst 2, 1) := by decide +kernel
theorem d_Md_readRule_37 : decode prog_13_method_19_code 37 = .ok (.iaload, 1) := by decide +kernel
theorem d_Md_readRule_38 : decode prog_13_method_19_code 38 = .ok (.imul, 1) := by decide +kernel
theorem d_Md_readRule_39 : decode prog_13_method_19_code 39 = .ok (.iadd, 1) := by decide +kernel
theorem d_Md_readRule_40 : decode prog_13_method_19_code 40 = .ok (.istore_n 1, 1) := by decide +kernel
theorem d_Md_readRule_41 : decode prog_13_method_19_code 41 = .ok (.aload_n 0, 1) := by decide +kernel
theorem d_Md_readRule_42 : decode prog_13_method_19_code 42 = .ok (.invokevirtual 158, 3) := by decide +kernel
theorem d_Md_readRule_45 : decode prog_13_method_19_code 45 = .ok (.istore_n 2, 1) := by decide +kernel
theorem d_Md_readRule_46 : decode prog_13_method_19_code 46 = .ok (.aload_n 0, 1) := by decide +kernel
theorem d_Md_readRule_47 : decode prog_13_method_19_code 47 = .ok (.getfield 118, 3) := by decide +kernel
theorem d_Md_readRule_50 : decode prog_13_method_19_code 50 = .ok (.ifCond .eq 4, 3) := by decide +kernel
theorem d_Md_readRule_54 : decode prog_13_method_19_code 54 = .ok (.aload_n 0, 1) := by decide +kernel
theorem d_Md_readRule_55 : decode prog_13_method_19_code 55 = .ok (.iconst 0, 1) := by decide +kernel
theorem d_Md_readRule_56 : decode prog_13_method_19_code 56 = .ok (.aload_n 0, 1) := by decide +kernel
theorem d_Md_readRule_57 : decode prog_13_method_19_code 57 = .ok (.iload_n 2, 1) := by decide +kernel
theorem d_Md_readRule_58 : decode prog_13_method_19_code 58 = .ok (.invokevirtual 161, 3) := by decide +kernel
theorem d_Md_readRule_61 : decode prog_13_method_19_code 61 = .ok (.iconst 1, 1) := by decide +kernel
theorem d_Md_readRule_62 : decode prog_13_method_19_code 62 = .ok (.isub, 1) := by decide +kernel
theorem d_Md_readRule_63 : decode prog_13_method_19_code 63 = .ok (.invokevirtual 151, 3) := by decide +kernel
theorem d_Md_readRule_66 : decode prog_13_method_19_code 66 = .ok (.istore_n 3, 1) := by decide +kernel
theorem d_Md_readRule_67 : decode prog_13_method_19_code 67 = .ok (.aload_n 0, 1) := by decide +kernel
theorem d_Md_readRule_68 : decode prog_13_method_19_code 68 = .ok (.ldc 164, 2) := by decide +kernel
theorem d_Md_readRule_70 : decode prog_13_method_19_code 70 = .ok (.invokevirtual 166, 3) := by decide +kernel
theorem tb_ml_Md_166 : mTB (Cond.methodLink "NineBarsModel" 166 ⟨"NineBarsModel", "must", "(Ljava/lang/String;)V"⟩) := tbq7 165 (by decide +kernel) rfl
theorem tb_im_Md_must : mTB (Cond.instanceMethod ⟨"NineBarsModel", "must", "(Ljava/lang/String;)V"⟩) := tbq7 167 (by decide +kernel) rfl
theorem tb_se_Md_must : mTB (Cond.selects "NineBarsModel" ⟨"NineBarsModel", "must", "(Ljava/lang/String;)V"⟩ ⟨"NineBarsModel", "must", "(Ljava/lang/String;)V"⟩) := tbqp 57 (by decide +kernel) rfl
theorem mv_Md_must {M : mM} {idx : Nat} (h : mTB (Cond.methodLink (mO M) idx ⟨"NineBarsModel", "must", "(Ljava/lang/String;)V"⟩)) : mCaV M M_Md_must idx 11 := ⟨h, tb_im_Md_must, tb_se_Md_must, by decide, TX11, 40, rfl⟩
theorem d_Md_readRule_73 : decode prog_13_method_19_code 73 = .ok (.aload_n 0, 1) := by decide +kernel
theorem d_Md_readRule_74 : decode prog_13_method_19_code 74 = .ok (.getfield 118, 3) := by decide +kernel
theorem d_Md_readRule_77 : decode prog_13_method_19_code 77 = .ok (.ifCond .ne 36, 3) := by decide +kernel
theorem d_Md_readRule_113 : decode prog_13_method_19_code 113 = .ok (.aload_n 0, 1) := by decide +kernel
theorem d_Md_readRule_114 : decode prog_13_method_19_code 114 = .ok (.iconst 0, 1) := by decide +kernel
theorem d_Md_readRule_115 : decode prog_13_method_19_code 115 = .ok (.aload_n 0, 1) := by decide +kernel
theorem d_Md_readRule_116 : decode prog_13_method_19_code 116 = .ok (.iload_n 2, 1) := by decide +kernel
theorem d_Md_readRule_117 : decode prog_13_method_19_code 117 = .ok (.invokevirtual 161, 3) := by decide +kernel
theorem d_Md_readRule_120 : decode prog_13_method_19_code 120 = .ok (.iconst 1, 1) := by decide +kernel
theorem d_Md_readRule_121 : decode prog_13_method_19_code 121 = .ok (.isub, 1) := by decide +kernel
theorem d_Md_readRule_122 : decode prog_13_method_19_code 122 = .ok (.invokevirtual 151, 3) := by decide +kernel
theorem d_Md_readRule_125 : decode prog_13_method_19_code 125 = .ok (.istore 4, 2) := by decide +kernel
theorem d_Md_readRule_127 : decode prog_13_method_19_code 127 = .ok (.aload_n 0, 1) := by decide +kernel
theorem d_Md_readRule_128 : decode prog_13_method_19_code 128 = .ok (.ldc 170, 2) := by decide +kernel
theorem d_Md_readRule_130 : decode prog_13_method_19_code 130 = .ok (.invokevirtual 166, 3) := by decide +kernel
theorem d_Md_readRule_133 : decode prog_13_method_19_code 133 = .ok (.aload_n 0, 1) := by decide +kernel
theorem d_Md_readRule_134 : decode prog_13_method_19_code 134 = .ok (.getfield 13, 3) := by decide +kernel
theorem d_Md_readRule_137 : decode prog_13_method_19_code 137 = .ok (.iload_n 1, 1) := by decide +kernel
theorem d_Md_readRule_138 : decode prog_13_method_19_code 138 = .ok (.iconst 3, 1) := by decide +kernel
theorem d_Md_readRule_139 : decode prog_13_method_19_code 139 = .ok (.iadd, 1) := by decide +kernel
theorem d_Md_readRule_140 : decode prog_13_method_19_code 140 = .ok (.iconst 0, 1) := by decide +kernel
theorem d_Md_readRule_141 : decode prog_13_method_19_code 141 = .ok (.iastore, 1) := by decide +kernel
theorem d_Md_readRule_142 : decode prog_13_method_19_code 142 = .ok (.aload_n 0, 1) := by decide +kernel
theorem d_Md_readRule_143 : decode prog_13_method_19_code 143 = .ok (.iload_n 1, 1) := by decide +kernel
theorem d_Md_readRule_144 : decode prog_13_method_19_code 144 = .ok (.iload_n 2, 1) := by decide +kernel
theorem d_Md_readRule_145 : decode prog_13_method_19_code 145 = .ok (.invokevirtual 172, 3) := by decide +kernel
theorem tb_ml_Md_172 : mTB (Cond.methodLink "NineBarsModel" 172 ⟨"NineBarsModel", "readFact", "(II)V"⟩) := tbq7 170 (by decide +kernel) rfl
theorem tb_im_Md_readFact : mTB (Cond.instanceMethod ⟨"NineBarsModel", "readFact", "(II)V"⟩) := tbq7 172 (by decide +kernel) rfl
theorem tb_se_Md_readFact : mTB (Cond.selects "NineBarsModel" ⟨"NineBarsModel", "readFact", "(II)V"⟩ ⟨"NineBarsModel", "readFact", "(II)V"⟩) := tbqp 58 (by decide +kernel) rfl
theorem mv_Md_readFact {M : mM} {idx : Nat} (h : mTB (Cond.methodLink (mO M) idx ⟨"NineBarsModel", "readFact", "(II)V"⟩)) : mCaV M M_Md_readFact idx 11 := ⟨h, tb_im_Md_readFact, tb_se_Md_readFact, by decide, TX11, 40, rfl⟩
theorem d_Md_readRule_148 : decode prog_13_method_19_code 148 = .ok (.aload_n 0, 1) := by decide +kernel
theorem d_Md_readRule_149 : decode prog_13_method_19_code 149 = .ok (.ldc 176, 2) := by decide +kernel
theorem d_Md_readRule_151 : decode prog_13_method_19_code 151 = .ok (.invokevirtual 133, 3) := by decide +kernel
theorem d_Md_readRule_154 : decode prog_13_method_19_code 154 = .ok (.ifCond .eq 40, 3) := by decide +kernel
theorem d_Md_readRule_157 : decode prog_13_method_19_code 157 = .ok (.aload_n 0, 1) := by decide +kernel
theorem d_Md_readRule_158 : decode prog_13_method_19_code 158 = .ok (.getfield 13, 3) := by decide +kernel
theorem d_Md_readRule_161 : decode prog_13_method_19_code 161 = .ok (.iload_n 1, 1) := by decide +kernel
theorem d_Md_readRule_162 : decode prog_13_method_19_code 162 = .ok (.iconst 3, 1) := by decide +kernel
theorem d_Md_readRule_163 : decode prog_13_method_19_code 163 = .ok (.iadd, 1) := by decide +kernel
theorem d_Md_readRule_164 : decode prog_13_method_19_code 164 = .ok (.iaload, 1) := by decide +kernel
theorem d_Md_readRule_165 : decode prog_13_method_19_code 165 = .ok (.iconst 4, 1) := by decide +kernel
theorem d_Md_readRule_166 : decode prog_13_method_19_code 166 = .ok (.if_icmp .ne 8, 3) := by decide +kernel
theorem d_Md_readRule_174 : decode prog_13_method_19_code 174 = .ok (.aload_n 0, 1) := by decide +kernel
theorem d_Md_readRule_175 : decode prog_13_method_19_code 175 = .ok (.getfield 118, 3) := by decide +kernel
theorem d_Md_readRule_178 : decode prog_13_method_19_code 178 = .ok (.ifCond .ne 7, 3) := by decide +kernel
theorem d_Md_readRule_185 : decode prog_13_method_19_code 185 = .ok (.aload_n 0, 1) := by decide +kernel
theorem d_Md_readRule_186 : decode prog_13_method_19_code 186 = .ok (.iload_n 1, 1) := by decide +kernel
theorem d_Md_readRule_187 : decode prog_13_method_19_code 187 = .ok (.iload_n 2, 1) := by decide +kernel
theorem d_Md_readRule_188 : decode prog_13_method_19_code 188 = .ok (.invokevirtual 172, 3) := by decide +kernel
theorem d_Md_readRule_191 : decode prog_13_method_19_code 191 = .ok (.goto (-43), 3) := by decide +kernel
theorem d_Md_readRule_181 : decode prog_13_method_19_code 181 = .ok (.aload_n 0, 1) := by decide +kernel
theorem d_Md_readRule_182 : decode prog_13_method_19_code 182 = .ok (.invokevirtual 137, 3) := by decide +kernel
theorem d_Md_readRule_169 : decode prog_13_method_19_code 169 = .ok (.aload_n 0, 1) := by decide +kernel
theorem d_Md_readRule_170 : decode prog_13_method_19_code 170 = .ok (.iconst 4, 1) := by decide +kernel
theorem d_Md_readRule_171 : decode prog_13_method_19_code 171 = .ok (.invokevirtual 143, 3) := by decide +kernel
theorem d_Md_readRule_194 : decode prog_13_method_19_code 194 = .ok (.aload_n 0, 1) := by decide +kernel
theorem d_Md_readRule_195 : decode prog_13_method_19_code 195 = .ok (.getfield 118, 3) := by decide +kernel
theorem d_Md_readRule_198 : decode prog_13_method_19_code 198 = .ok (.ifCond .eq 4, 3) := by decide +kernel
theorem d_Md_readRule_202 : decode prog_13_method_19_code 202 = .ok (.aload_n 0, 1) := by decide +kernel
theorem d_Md_readRule_203 : decode prog_13_method_19_code 203 = .ok (.getfield 13, 3) := by decide +kernel
theorem d_Md_readRule_206 : decode prog_13_method_19_code 206 = .ok (.iload_n 1, 1) := by decide +kernel
theorem d_Md_readRule_207 : decode prog_13_method_19_code 207 = .ok (.iload_n 2, 1) := by decide +kernel
theorem d_Md_readRule_208 : decode prog_13_method_19_code 208 = .ok (.iastore, 1) := by decide +kernel
theorem d_Md_readRule_209 : decode prog_13_method_19_code 209 = .ok (.aload_n 0, 1) := by decide +kernel
theorem d_Md_readRule_210 : decode prog_13_method_19_code 210 = .ok (.getfield 13, 3) := by decide +kernel
theorem d_Md_readRule_213 : decode prog_13_method_19_code 213 = .ok (.iload_n 1, 1) := by decide +kernel
theorem d_Md_readRule_214 : decode prog_13_method_19_code 214 = .ok (.iconst 1, 1) := by decide +kernel
theorem d_Md_readRule_215 : decode prog_13_method_19_code 215 = .ok (.iadd, 1) := by decide +kernel
theorem d_Md_readRule_216 : decode prog_13_method_19_code 216 = .ok (.iload_n 3, 1) := by decide +kernel
theorem d_Md_readRule_217 : decode prog_13_method_19_code 217 = .ok (.iastore, 1) := by decide +kernel
theorem d_Md_readRule_218 : decode prog_13_method_19_code 218 = .ok (.aload_n 0, 1) := by decide +kernel
theorem d_Md_readRule_219 : decode prog_13_method_19_code 219 = .ok (.getfield 13, 3) := by decide +kernel
theorem d_Md_readRule_222 : decode prog_13_method_19_code 222 = .ok (.iload_n 1, 1) := by decide +kernel
theorem d_Md_readRule_223 : decode prog_13_method_19_code 223 = .ok (.iconst 2, 1) := by decide +kernel
theorem d_Md_readRule_224 : decode prog_13_method_19_code 224 = .ok (.iadd, 1) := by decide +kernel
theorem d_Md_readRule_225 : decode prog_13_method_19_code 225 = .ok (.iload 4, 2) := by decide +kernel
theorem d_Md_readRule_227 : decode prog_13_method_19_code 227 = .ok (.iastore, 1) := by decide +kernel
theorem d_Md_readRule_228 : decode prog_13_method_19_code 228 = .ok (.aload_n 0, 1) := by decide +kernel
theorem d_Md_readRule_229 : decode prog_13_method_19_code 229 = .ok (.getfield 13, 3) := by decide +kernel
theorem d_Md_readRule_232 : decode prog_13_method_19_code 232 = .ok (.iconst 2, 1) := by decide +kernel
theorem d_Md_readRule_233 : decode prog_13_method_19_code 233 = .ok (.dup2, 1) := by decide +kernel
theorem d_Md_readRule_234 : decode prog_13_method_19_code 234 = .ok (.iaload, 1) := by decide +kernel
theorem d_Md_readRule_235 : decode prog_13_method_19_code 235 = .ok (.iconst 1, 1) := by decide +kernel
theorem d_Md_readRule_236 : decode prog_13_method_19_code 236 = .ok (.iadd, 1) := by decide +kernel
theorem d_Md_readRule_237 : decode prog_13_method_19_code 237 = .ok (.iastore, 1) := by decide +kernel
theorem d_Md_readRule_238 : decode prog_13_method_19_code 238 = .ok (.return_, 1) := by decide +kernel
theorem d_Md_readRule_201 : decode prog_13_method_19_code 201 = .ok (.return_, 1) := by decide +kernel
theorem d_Md_readRule_80 : decode prog_13_method_19_code 80 = .ok (.aload_n 0, 1) := by decide +kernel
theorem d_Md_readRule_81 : decode prog_13_method_19_code 81 = .ok (.getfield 101, 3) := by decide +kernel
theorem d_Md_readRule_84 : decode prog_13_method_19_code 84 = .ok (.iconst 2, 1) := by decide +kernel
theorem d_Md_readRule_85 : decode prog_13_method_19_code 85 = .ok (.if_icmp .ne 28, 3) := by decide +kernel
theorem d_Md_readRule_88 : decode prog_13_method_19_code 88 = .ok (.aload_n 0, 1) := by decide +kernel
theorem d_Md_readRule_89 : decode prog_13_method_19_code 89 = .ok (.getfield 115, 3) := by decide +kernel
theorem d_Md_readRule_92 : decode prog_13_method_19_code 92 = .ok (.iload_n 3, 1) := by decide +kernel
theorem d_Md_readRule_93 : decode prog_13_method_19_code 93 = .ok (.iconst 1, 1) := by decide +kernel
theorem d_Md_readRule_94 : decode prog_13_method_19_code 94 = .ok (.isub, 1) := by decide +kernel
theorem d_Md_readRule_95 : decode prog_13_method_19_code 95 = .ok (.if_icmp .eq 18, 3) := by decide +kernel
theorem d_Md_readRule_98 : decode prog_13_method_19_code 98 = .ok (.aload_n 0, 1) := by decide +kernel
theorem d_Md_readRule_99 : decode prog_13_method_19_code 99 = .ok (.getfield 115, 3) := by decide +kernel
theorem d_Md_readRule_102 : decode prog_13_method_19_code 102 = .ok (.iload_n 3, 1) := by decide +kernel
theorem d_Md_readRule_103 : decode prog_13_method_19_code 103 = .ok (.iconst 1, 1) := by decide +kernel
theorem d_Md_readRule_104 : decode prog_13_method_19_code 104 = .ok (.iadd, 1) := by decide +kernel
theorem d_Md_readRule_105 : decode prog_13_method_19_code 105 = .ok (.if_icmp .eq 8, 3) := by decide +kernel
theorem d_Md_readRule_108 : decode prog_13_method_19_code 108 = .ok (.aload_n 0, 1) := by decide +kernel
theorem d_Md_readRule_109 : decode prog_13_method_19_code 109 = .ok (.iconst 3, 1) := by decide +kernel
theorem d_Md_readRule_110 : decode prog_13_method_19_code 110 = .ok (.invokevirtual 143, 3) := by decide +kernel
theorem d_Md_readRule_53 : decode prog_13_method_19_code 53 = .ok (.return_, 1) := by decide +kernel
theorem d_Md_readRule_23 : decode prog_13_method_19_code 23 = .ok (.return_, 1) := by decide +kernel
theorem d_Md_readRule_11 : decode prog_13_method_19_code 11 = .ok (.aload_n 0, 1) := by decide +kernel
theorem d_Md_readRule_12 : decode prog_13_method_19_code 12 = .ok (.iconst 4, 1) := by decide +kernel
theorem d_Md_readRule_13 : decode prog_13_method_19_code 13 = .ok (.invokevirtual 143, 3) := by decide +kernel
theorem t_Md_readRule_J185 {G : mG} {r : mR} {v0 v1 v2 v3 v4 : Int} {h : mH} {R148 : mH → Option mR} (hR148 : ∀ (h : mH) , R148 h  = some r → mJ G M_Md_readRule 148 [(2, v0), (0, v1), (0, v2), (0, v3), (0, v4)] [] h r) (hr : f_Md_readRule_J185 R148 v0 v1 v2 h = some r) : mJ G M_Md_readRule 185 [(2, v0), (0, v1), (0, v2), (0, v3), (0, v4)] [] h r := by
  unfold f_Md_readRule_J185 at hr
  refine j_aload_n (pc := 185) d_Md_readRule_185 rfl ?_
  refine j_iload_n (pc := 186) d_Md_readRule_186 rfl ?_
  refine j_iload_n (pc := 187) d_Md_readRule_187 rfl ?_
  obtain ⟨ha, hr⟩ := chk_some hr
  refine j_callG (pc := 188) (stk := [(0, v2), (0, v1), (2, v0)]) (as := [(2, v0), (0, v1), (0, v2)]) (P := (fun v9 => [])) (tg := 3) (My := M_Md_readFact) (mRunV (as := [(0, v1), (0, v2)]) (st := []) d_Md_readRule_188 (mc_Md_readFact (by decide)) rfl (mv_Md_readFact tb_ml_Md_172) rfl (Nat.le_of_ble_eq_true rfl) ha) (fun v => rfl) rfl hr (fun r1 h1 => t_Md_readFact _ _ _ _ _ h1) (fun x2 h1 hr => ?_)
  refine j_goto (pc := 191) (tgt := 148) d_Md_readRule_191 ?_
  exact mJ_weak (ls' := [(2, v0), (0, v1), (0, v2), (0, v3), (0, v4)]) (mwk_s (mwk_s (mwk_s (mwk_s (mwk_s mwk_n))))) (hR148 h1  hr)
theorem t_Md_readRule_J174 {G : mG} {r : mR} {v0 v1 v2 v3 v4 : Int} {h : mH} {R148 : mH → Option mR} (hR148 : ∀ (h : mH) , R148 h  = some r → mJ G M_Md_readRule 148 [(2, v0), (0, v1), (0, v2), (0, v3), (0, v4)] [] h r) (hr : f_Md_readRule_J174 R148 v0 v1 v2 h = some r) : mJ G M_Md_readRule 174 [(2, v0), (0, v1), (0, v2), (0, v3), (0, v4)] [] h r := by
  unfold f_Md_readRule_J174 at hr
  refine j_aload_n (pc := 174) d_Md_readRule_174 rfl ?_
  refine j_getf (pc := 175) d_Md_readRule_175 (fd_Md_118 rfl) hr (fun hr => ?_)
  refine j_if_ne (pc := 178) (tgt := 185) d_Md_readRule_178 hr (fun hr => ?_) (fun hr => ?_)
  · exact mJ_weak (ls' := [(2, v0), (0, v1), (0, v2), (0, v3), (0, v4)]) (mwk_s (mwk_s (mwk_s (mwk_s (mwk_s mwk_n))))) (t_Md_readRule_J185 hR148 hr)
  · refine j_aload_n (pc := 181) d_Md_readRule_181 rfl ?_
    obtain ⟨ha, hr⟩ := chk_some hr
    refine j_callG (pc := 182) (stk := [(2, v0)]) (as := [(2, v0)]) (P := (fun v9 => [])) (tg := 3) (My := M_Md_reads) (mRunV (as := []) (st := []) d_Md_readRule_182 (mc_Md_reads (by decide)) rfl (mv_Md_reads tb_ml_Md_137) rfl (Nat.le_of_ble_eq_true rfl) ha) (fun v => rfl) rfl hr (fun r1 h1 => t_Md_reads _ _ _ h1) (fun x2 h1 hr => ?_)
    exact mJ_weak (ls' := [(2, v0), (0, v1), (0, v2), (0, v3), (0, v4)]) (mwk_s (mwk_s (mwk_s (mwk_s (mwk_s mwk_n))))) (t_Md_readRule_J185 hR148 hr)
theorem t_Md_readRule_L148 {G : mG} {r : mR} {v0 v1 v2 v3 v4 : Int} {K194 : mH → Option mR} (hK194 : ∀ (h : mH) , K194 h  = some r → mJ G M_Md_readRule 194 [(2, v0), (0, v1), (0, v2), (0, v3), (0, v4)] [] h r) : ∀ (n : Nat) (h : mH) , f_Md_readRule_L148 K194 v0 v1 v2 n h  = some r → mJ G M_Md_readRule 148 [(2, v0), (0, v1), (0, v2), (0, v3), (0, v4)] [] h r := by
  intro n
  induction n with
  | zero =>
    intro h  hr
    rw [f_Md_readRule_L148] at hr
    cases hr
  | succ n hR148 =>
    intro h  hr
    rw [f_Md_readRule_L148] at hr
    refine j_aload_n (pc := 148) d_Md_readRule_148 rfl ?_
    refine j_ldcS (pc := 149) (tx := "and") (k := 8) d_Md_readRule_149 (by decide +kernel) ?_
    obtain ⟨ha, hr⟩ := chk_some hr
    refine j_callG (pc := 151) (stk := [(2, (-(((8 : Nat) : Int) + 2))), (2, v0)]) (as := [(2, v0), (2, (-(((8 : Nat) : Int) + 2)))]) (P := (fun v9 => ((0 : Nat), v9) :: [])) (tg := 0) (My := M_Md_isWord) (mRunV (as := [(2, (-(((8 : Nat) : Int) + 2)))]) (st := []) d_Md_readRule_151 (mc_Md_isWord (by decide)) rfl (mv_Md_isWord tb_ml_Md_133) rfl (Nat.le_of_ble_eq_true rfl) ha) (fun v => rfl) rfl hr (fun r1 h1 => t_Md_isWord _ _ _ _ h1) (fun x2 h1 hr => ?_)
    refine j_if_eq (pc := 154) (tgt := 194) d_Md_readRule_154 hr (fun hr => ?_) (fun hr => ?_)
    · exact mJ_weak (ls' := [(2, v0), (0, v1), (0, v2), (0, v3), (0, v4)]) (mwk_s (mwk_s (mwk_s (mwk_s (mwk_s mwk_n))))) (hK194 h1  hr)
    · refine j_aload_n (pc := 157) d_Md_readRule_157 rfl ?_
      refine j_getf (pc := 158) d_Md_readRule_158 (fd_Md_13 rfl) hr (fun hr => ?_)
      refine j_iload_n (pc := 161) d_Md_readRule_161 rfl ?_
      refine j_iconst (pc := 162) d_Md_readRule_162 ?_
      refine j_iadd (pc := 163) d_Md_readRule_163 ?_
      refine j_iaload (pc := 164) d_Md_readRule_164 hr (fun hr => ?_)
      refine j_iconst (pc := 165) d_Md_readRule_165 ?_
      refine j_icmp_ne (pc := 166) (tgt := 174) d_Md_readRule_166 hr (fun hr => ?_) (fun hr => ?_)
      · exact mJ_weak (ls' := [(2, v0), (0, v1), (0, v2), (0, v3), (0, v4)]) (mwk_s (mwk_s (mwk_s (mwk_s (mwk_s mwk_n))))) (t_Md_readRule_J174 hR148 hr)
      · refine j_aload_n (pc := 169) d_Md_readRule_169 rfl ?_
        refine j_iconst (pc := 170) d_Md_readRule_170 ?_
        obtain ⟨ha, hr⟩ := chk_some hr
        refine j_callG (pc := 171) (stk := [(0, 4), (2, v0)]) (as := [(2, v0), (0, 4)]) (P := (fun v9 => [])) (tg := 3) (My := M_Md_blames) (mRunV (as := [(0, 4)]) (st := []) d_Md_readRule_171 (mc_Md_blames (by decide)) rfl (mv_Md_blames tb_ml_Md_143) rfl (Nat.le_of_ble_eq_true rfl) ha) (fun v => rfl) rfl hr (fun r1 h1 => t_Md_blames _ _ _ _ h1) (fun x4 h3 hr => ?_)
        exact mJ_weak (ls' := [(2, v0), (0, v1), (0, v2), (0, v3), (0, v4)]) (mwk_s (mwk_s (mwk_s (mwk_s (mwk_s mwk_n))))) (t_Md_readRule_J174 hR148 hr)
theorem t_Md_readRule_J113 {G : mG} {r : mR} {v0 v1 v2 v3 : Int} {h : mH}  (hr : f_Md_readRule_J113 v0 v1 v2 v3 h = some r) : mJ G M_Md_readRule 113 [(2, v0), (0, v1), (0, v2), (0, v3), (9, 0)] [] h r := by
  unfold f_Md_readRule_J113 at hr
  refine j_aload_n (pc := 113) d_Md_readRule_113 rfl ?_
  refine j_iconst (pc := 114) d_Md_readRule_114 ?_
  refine j_aload_n (pc := 115) d_Md_readRule_115 rfl ?_
  refine j_iload_n (pc := 116) d_Md_readRule_116 rfl ?_
  obtain ⟨ha, hr⟩ := chk_some hr
  refine j_callG (pc := 117) (stk := [(0, v2), (2, v0), (0, 0), (2, v0)]) (as := [(2, v0), (0, v2)]) (P := (fun v9 => ((0 : Nat), v9) :: [(0, 0), (2, v0)])) (tg := 0) (My := M_Md_placesTold) (mRunV (as := [(0, v2)]) (st := [(0, 0), (2, v0)]) d_Md_readRule_117 (mc_Md_placesTold (by decide)) rfl (mv_Md_placesTold tb_ml_Md_161) rfl (Nat.le_of_ble_eq_true rfl) ha) (fun v => rfl) rfl hr (fun r1 h1 => t_Md_placesTold _ _ _ _ h1) (fun x2 h1 hr => ?_)
  refine j_iconst (pc := 120) d_Md_readRule_120 ?_
  refine j_isub (pc := 121) d_Md_readRule_121 ?_
  obtain ⟨ha, hr⟩ := chk_some hr
  refine j_callG (pc := 122) (stk := [(0, w32 (x2 - 1)), (0, 0), (2, v0)]) (as := [(2, v0), (0, 0), (0, w32 (x2 - 1))]) (P := (fun v9 => ((0 : Nat), v9) :: [])) (tg := 0) (My := M_Md_number) (mRunV (as := [(0, 0), (0, w32 (x2 - 1))]) (st := []) d_Md_readRule_122 (mc_Md_number (by decide)) rfl (mv_Md_number tb_ml_Md_151) rfl (Nat.le_of_ble_eq_true rfl) ha) (fun v => rfl) rfl hr (fun r1 h1 => t_Md_number _ _ _ _ _ h1) (fun x4 h3 hr => ?_)
  refine j_istore (pc := 125) (ls' := [(2, v0), (0, v1), (0, v2), (0, v3), (0, x4)]) d_Md_readRule_125 rfl ?_
  refine j_aload_n (pc := 127) d_Md_readRule_127 rfl ?_
  refine j_ldcS (pc := 128) (tx := "if") (k := 7) d_Md_readRule_128 (by decide +kernel) ?_
  obtain ⟨ha, hr⟩ := chk_some hr
  refine j_callG (pc := 130) (stk := [(2, (-(((7 : Nat) : Int) + 2))), (2, v0)]) (as := [(2, v0), (2, (-(((7 : Nat) : Int) + 2)))]) (P := (fun v9 => [])) (tg := 3) (My := M_Md_must) (mRunV (as := [(2, (-(((7 : Nat) : Int) + 2)))]) (st := []) d_Md_readRule_130 (mc_Md_must (by decide)) rfl (mv_Md_must tb_ml_Md_166) rfl (Nat.le_of_ble_eq_true rfl) ha) (fun v => rfl) rfl hr (fun r1 h1 => t_Md_must _ _ _ _ h1) (fun x6 h5 hr => ?_)
  refine j_aload_n (pc := 133) d_Md_readRule_133 rfl ?_
  refine j_getf (pc := 134) d_Md_readRule_134 (fd_Md_13 rfl) hr (fun hr => ?_)
  refine j_iload_n (pc := 137) d_Md_readRule_137 rfl ?_
  refine j_iconst (pc := 138) d_Md_readRule_138 ?_
  refine j_iadd (pc := 139) d_Md_readRule_139 ?_
  refine j_iconst (pc := 140) d_Md_readRule_140 ?_
  refine j_iastore (pc := 141) d_Md_readRule_141 hr (fun h7 hr => ?_)
  refine j_aload_n (pc := 142) d_Md_readRule_142 rfl ?_
  refine j_iload_n (pc := 143) d_Md_readRule_143 rfl ?_
  refine j_iload_n (pc := 144) d_Md_readRule_144 rfl ?_
  obtain ⟨ha, hr⟩ := chk_some hr
  refine j_callG (pc := 145) (stk := [(0, v2), (0, v1), (2, v0)]) (as := [(2, v0), (0, v1), (0, v2)]) (P := (fun v9 => [])) (tg := 3) (My := M_Md_readFact) (mRunV (as := [(0, v1), (0, v2)]) (st := []) d_Md_readRule_145 (mc_Md_readFact (by decide)) rfl (mv_Md_readFact tb_ml_Md_172) rfl (Nat.le_of_ble_eq_true rfl) ha) (fun v => rfl) rfl hr (fun r1 h1 => t_Md_readFact _ _ _ _ _ h1) (fun x9 h8 hr => ?_)
  refine mJ_weak (ls' := [(2, v0), (0, v1), (0, v2), (0, v3), (0, x4)]) (mwk_s (mwk_s (mwk_s (mwk_s (mwk_s mwk_n))))) (t_Md_readRule_L148 (fun h10  hr => ?_) _ _  hr)
  · refine j_aload_n (pc := 194) d_Md_readRule_194 rfl ?_
    refine j_getf (pc := 195) d_Md_readRule_195 (fd_Md_118 rfl) hr (fun hr => ?_)
    refine j_if_eq (pc := 198) (tgt := 202) d_Md_readRule_198 hr (fun hr => ?_) (fun hr => ?_)
    · refine j_aload_n (pc := 202) d_Md_readRule_202 rfl ?_
      refine j_getf (pc := 203) d_Md_readRule_203 (fd_Md_13 rfl) hr (fun hr => ?_)
      refine j_iload_n (pc := 206) d_Md_readRule_206 rfl ?_
      refine j_iload_n (pc := 207) d_Md_readRule_207 rfl ?_
      refine j_iastore (pc := 208) d_Md_readRule_208 hr (fun h11 hr => ?_)
      refine j_aload_n (pc := 209) d_Md_readRule_209 rfl ?_
      refine j_getf (pc := 210) d_Md_readRule_210 (fd_Md_13 rfl) hr (fun hr => ?_)
      refine j_iload_n (pc := 213) d_Md_readRule_213 rfl ?_
      refine j_iconst (pc := 214) d_Md_readRule_214 ?_
      refine j_iadd (pc := 215) d_Md_readRule_215 ?_
      refine j_iload_n (pc := 216) d_Md_readRule_216 rfl ?_
      refine j_iastore (pc := 217) d_Md_readRule_217 hr (fun h12 hr => ?_)
      refine j_aload_n (pc := 218) d_Md_readRule_218 rfl ?_
      refine j_getf (pc := 219) d_Md_readRule_219 (fd_Md_13 rfl) hr (fun hr => ?_)
      refine j_iload_n (pc := 222) d_Md_readRule_222 rfl ?_
      refine j_iconst (pc := 223) d_Md_readRule_223 ?_
      refine j_iadd (pc := 224) d_Md_readRule_224 ?_
      refine j_iload (pc := 225) d_Md_readRule_225 rfl ?_
      refine j_iastore (pc := 227) d_Md_readRule_227 hr (fun h13 hr => ?_)
      refine j_aload_n (pc := 228) d_Md_readRule_228 rfl ?_
      refine j_getf (pc := 229) d_Md_readRule_229 (fd_Md_13 rfl) hr (fun hr => ?_)
      refine j_iconst (pc := 232) d_Md_readRule_232 ?_
      refine j_dup2 (pc := 233) d_Md_readRule_233 ?_
      refine j_iaload (pc := 234) d_Md_readRule_234 hr (fun hr => ?_)
      refine j_iconst (pc := 235) d_Md_readRule_235 ?_
      refine j_iadd (pc := 236) d_Md_readRule_236 ?_
      refine j_iastore (pc := 237) d_Md_readRule_237 hr (fun h14 hr => ?_)
      exact j_vret (pc := 238) d_Md_readRule_238 rfl hr
    · exact j_vret (pc := 201) d_Md_readRule_201 rfl hr
theorem t_Md_readRule_J16 {G : mG} {r : mR} {v0 : Int} {h : mH}  (hr : f_Md_readRule_J16 v0 h = some r) : mJ G M_Md_readRule 16 [(2, v0), (9, 0), (9, 0), (9, 0), (9, 0)] [] h r := by
  unfold f_Md_readRule_J16 at hr
  refine j_aload_n (pc := 16) d_Md_readRule_16 rfl ?_
  refine j_getf (pc := 17) d_Md_readRule_17 (fd_Md_118 rfl) hr (fun hr => ?_)
  refine j_if_eq (pc := 20) (tgt := 24) d_Md_readRule_20 hr (fun hr => ?_) (fun hr => ?_)
  · refine j_aload_n (pc := 24) d_Md_readRule_24 rfl ?_
    obtain ⟨ha, hr⟩ := chk_some hr
    refine j_callG (pc := 25) (stk := [(2, v0)]) (as := [(2, v0)]) (P := (fun v9 => [])) (tg := 3) (My := M_Md_reads) (mRunV (as := []) (st := []) d_Md_readRule_25 (mc_Md_reads (by decide)) rfl (mv_Md_reads tb_ml_Md_137) rfl (Nat.le_of_ble_eq_true rfl) ha) (fun v => rfl) rfl hr (fun r1 h1 => t_Md_reads _ _ _ h1) (fun x2 h1 hr => ?_)
    refine j_bipush (pc := 28) d_Md_readRule_28 ?_
    refine j_bipush (pc := 30) d_Md_readRule_30 ?_
    refine j_aload_n (pc := 32) d_Md_readRule_32 rfl ?_
    refine j_getf (pc := 33) d_Md_readRule_33 (fd_Md_13 rfl) hr (fun hr => ?_)
    refine j_iconst (pc := 36) d_Md_readRule_36 ?_
    refine j_iaload (pc := 37) d_Md_readRule_37 hr (fun hr => ?_)
    refine j_imul (pc := 38) d_Md_readRule_38 ?_
    refine j_iadd (pc := 39) d_Md_readRule_39 ?_
    refine j_istoreW_n (pc := 40) (L := fun x3 => [(2, v0), (0, x3), (9, 0), (9, 0), (9, 0)]) d_Md_readRule_40 (fun _ => rfl) hr (fun x3 hr => ?_)
    refine j_aload_n (pc := 41) d_Md_readRule_41 rfl ?_
    obtain ⟨ha, hr⟩ := chk_some hr
    refine j_callG (pc := 42) (stk := [(2, v0)]) (as := [(2, v0)]) (P := (fun v9 => ((0 : Nat), v9) :: [])) (tg := 0) (My := M_Md_barTold) (mRunV (as := []) (st := []) d_Md_readRule_42 (mc_Md_barTold (by decide)) rfl (mv_Md_barTold tb_ml_Md_158) rfl (Nat.le_of_ble_eq_true rfl) ha) (fun v => rfl) rfl hr (fun r1 h1 => t_Md_barTold _ _ _ h1) (fun x5 h4 hr => ?_)
    refine j_istore_n (pc := 45) (ls' := [(2, v0), (0, x3), (0, x5), (9, 0), (9, 0)]) d_Md_readRule_45 rfl ?_
    refine j_aload_n (pc := 46) d_Md_readRule_46 rfl ?_
    refine j_getf (pc := 47) d_Md_readRule_47 (fd_Md_118 rfl) hr (fun hr => ?_)
    refine j_if_eq (pc := 50) (tgt := 54) d_Md_readRule_50 hr (fun hr => ?_) (fun hr => ?_)
    · refine j_aload_n (pc := 54) d_Md_readRule_54 rfl ?_
      refine j_iconst (pc := 55) d_Md_readRule_55 ?_
      refine j_aload_n (pc := 56) d_Md_readRule_56 rfl ?_
      refine j_iload_n (pc := 57) d_Md_readRule_57 rfl ?_
      obtain ⟨ha, hr⟩ := chk_some hr
      refine j_callG (pc := 58) (stk := [(0, x5), (2, v0), (0, 0), (2, v0)]) (as := [(2, v0), (0, x5)]) (P := (fun v9 => ((0 : Nat), v9) :: [(0, 0), (2, v0)])) (tg := 0) (My := M_Md_placesTold) (mRunV (as := [(0, x5)]) (st := [(0, 0), (2, v0)]) d_Md_readRule_58 (mc_Md_placesTold (by decide)) rfl (mv_Md_placesTold tb_ml_Md_161) rfl (Nat.le_of_ble_eq_true rfl) ha) (fun v => rfl) rfl hr (fun r1 h1 => t_Md_placesTold _ _ _ _ h1) (fun x7 h6 hr => ?_)
      refine j_iconst (pc := 61) d_Md_readRule_61 ?_
      refine j_isub (pc := 62) d_Md_readRule_62 ?_
      obtain ⟨ha, hr⟩ := chk_some hr
      refine j_callG (pc := 63) (stk := [(0, w32 (x7 - 1)), (0, 0), (2, v0)]) (as := [(2, v0), (0, 0), (0, w32 (x7 - 1))]) (P := (fun v9 => ((0 : Nat), v9) :: [])) (tg := 0) (My := M_Md_number) (mRunV (as := [(0, 0), (0, w32 (x7 - 1))]) (st := []) d_Md_readRule_63 (mc_Md_number (by decide)) rfl (mv_Md_number tb_ml_Md_151) rfl (Nat.le_of_ble_eq_true rfl) ha) (fun v => rfl) rfl hr (fun r1 h1 => t_Md_number _ _ _ _ _ h1) (fun x9 h8 hr => ?_)
      refine j_istore_n (pc := 66) (ls' := [(2, v0), (0, x3), (0, x5), (0, x9), (9, 0)]) d_Md_readRule_66 rfl ?_
      refine j_aload_n (pc := 67) d_Md_readRule_67 rfl ?_
      refine j_ldcS (pc := 68) (tx := "to") (k := 6) d_Md_readRule_68 (by decide +kernel) ?_
      obtain ⟨ha, hr⟩ := chk_some hr
      refine j_callG (pc := 70) (stk := [(2, (-(((6 : Nat) : Int) + 2))), (2, v0)]) (as := [(2, v0), (2, (-(((6 : Nat) : Int) + 2)))]) (P := (fun v9 => [])) (tg := 3) (My := M_Md_must) (mRunV (as := [(2, (-(((6 : Nat) : Int) + 2)))]) (st := []) d_Md_readRule_70 (mc_Md_must (by decide)) rfl (mv_Md_must tb_ml_Md_166) rfl (Nat.le_of_ble_eq_true rfl) ha) (fun v => rfl) rfl hr (fun r1 h1 => t_Md_must _ _ _ _ h1) (fun x11 h10 hr => ?_)
      refine j_aload_n (pc := 73) d_Md_readRule_73 rfl ?_
      refine j_getf (pc := 74) d_Md_readRule_74 (fd_Md_118 rfl) hr (fun hr => ?_)
      refine j_if_ne (pc := 77) (tgt := 113) d_Md_readRule_77 hr (fun hr => ?_) (fun hr => ?_)
      · exact mJ_weak (ls' := [(2, v0), (0, x3), (0, x5), (0, x9), (9, 0)]) (mwk_s (mwk_s (mwk_s (mwk_s (mwk_s mwk_n))))) (t_Md_readRule_J113  hr)
      · refine j_aload_n (pc := 80) d_Md_readRule_80 rfl ?_
        refine j_getf (pc := 81) d_Md_readRule_81 (fd_Md_101 rfl) hr (fun hr => ?_)
        refine j_iconst (pc := 84) d_Md_readRule_84 ?_
        refine j_icmp_ne (pc := 85) (tgt := 113) d_Md_readRule_85 hr (fun hr => ?_) (fun hr => ?_)
        · exact mJ_weak (ls' := [(2, v0), (0, x3), (0, x5), (0, x9), (9, 0)]) (mwk_s (mwk_s (mwk_s (mwk_s (mwk_s mwk_n))))) (t_Md_readRule_J113  hr)
        · refine j_aload_n (pc := 88) d_Md_readRule_88 rfl ?_
          refine j_getf (pc := 89) d_Md_readRule_89 (fd_Md_115 rfl) hr (fun hr => ?_)
          refine j_iload_n (pc := 92) d_Md_readRule_92 rfl ?_
          refine j_iconst (pc := 93) d_Md_readRule_93 ?_
          refine j_isub (pc := 94) d_Md_readRule_94 ?_
          refine j_icmp_eq (pc := 95) (tgt := 113) d_Md_readRule_95 hr (fun hr => ?_) (fun hr => ?_)
          · exact mJ_weak (ls' := [(2, v0), (0, x3), (0, x5), (0, x9), (9, 0)]) (mwk_s (mwk_s (mwk_s (mwk_s (mwk_s mwk_n))))) (t_Md_readRule_J113  hr)
          · refine j_aload_n (pc := 98) d_Md_readRule_98 rfl ?_
            refine j_getf (pc := 99) d_Md_readRule_99 (fd_Md_115 rfl) hr (fun hr => ?_)
            refine j_iload_n (pc := 102) d_Md_readRule_102 rfl ?_
            refine j_iconst (pc := 103) d_Md_readRule_103 ?_
            refine j_iadd (pc := 104) d_Md_readRule_104 ?_
            refine j_icmp_eq (pc := 105) (tgt := 113) d_Md_readRule_105 hr (fun hr => ?_) (fun hr => ?_)
            · exact mJ_weak (ls' := [(2, v0), (0, x3), (0, x5), (0, x9), (9, 0)]) (mwk_s (mwk_s (mwk_s (mwk_s (mwk_s mwk_n))))) (t_Md_readRule_J113  hr)
            · refine j_aload_n (pc := 108) d_Md_readRule_108 rfl ?_
              refine j_iconst (pc := 109) d_Md_readRule_109 ?_
              obtain ⟨ha, hr⟩ := chk_some hr
              refine j_callG (pc := 110) (stk := [(0, 3), (2, v0)]) (as := [(2, v0), (0, 3)]) (P := (fun v9 => [])) (tg := 3) (My := M_Md_blames) (mRunV (as := [(0, 3)]) (st := []) d_Md_readRule_110 (mc_Md_blames (by decide)) rfl (mv_Md_blames tb_ml_Md_143) rfl (Nat.le_of_ble_eq_true rfl) ha) (fun v => rfl) rfl hr (fun r1 h1 => t_Md_blames _ _ _ _ h1) (fun x13 h12 hr => ?_)
              exact mJ_weak (ls' := [(2, v0), (0, x3), (0, x5), (0, x9), (9, 0)]) (mwk_s (mwk_s (mwk_s (mwk_s (mwk_s mwk_n))))) (t_Md_readRule_J113  hr)
    · exact j_vret (pc := 53) d_Md_readRule_53 rfl hr
  · exact j_vret (pc := 23) d_Md_readRule_23 rfl hr
theorem t_Md_readRule {G : mG} (h : mH) (v0 : Int) (r : mR) (hr : f_Md_readRule h v0 = some r) : mJM G M_Md_readRule [(2, v0)] h r := by
  refine mJM_of (L := [(2, v0), (9, 0), (9, 0), (9, 0), (9, 0)]) rfl rfl rfl (Nat.le_of_ble_eq_true rfl) ?_
  unfold f_Md_readRule at hr
  refine j_aload_n (pc := 0) d_Md_readRule_0 rfl ?_
  refine j_getf (pc := 1) d_Md_readRule_1 (fd_Md_13 rfl) hr (fun hr => ?_)
  refine j_iconst (pc := 4) d_Md_readRule_4 ?_
  refine j_iaload (pc := 5) d_Md_readRule_5 hr (fun hr => ?_)
  refine j_bipush (pc := 6) d_Md_readRule_6 ?_
  refine j_icmp_ne (pc := 8) (tgt := 16) d_Md_readRule_8 hr (fun hr => ?_) (fun hr => ?_)
  · exact mJ_weak (ls' := [(2, v0), (9, 0), (9, 0), (9, 0), (9, 0)]) (mwk_s (mwk_s (mwk_s (mwk_s (mwk_s mwk_n))))) (t_Md_readRule_J16  hr)
  · refine j_aload_n (pc := 11) d_Md_readRule_11 rfl ?_
    refine j_iconst (pc := 12) d_Md_readRule_12 ?_
    obtain ⟨ha, hr⟩ := chk_some hr
    refine j_callG (pc := 13) (stk := [(0, 4), (2, v0)]) (as := [(2, v0), (0, 4)]) (P := (fun v9 => [])) (tg := 3) (My := M_Md_blames) (mRunV (as := [(0, 4)]) (st := []) d_Md_readRule_13 (mc_Md_blames (by decide)) rfl (mv_Md_blames tb_ml_Md_143) rfl (Nat.le_of_ble_eq_true rfl) ha) (fun v => rfl) rfl hr (fun r1 h1 => t_Md_blames _ _ _ _ h1) (fun x2 h1 hr => ?_)
    exact mJ_weak (ls' := [(2, v0), (9, 0), (9, 0), (9, 0), (9, 0)]) (mwk_s (mwk_s (mwk_s (mwk_s (mwk_s mwk_n))))) (t_Md_readRule_J16  hr)
