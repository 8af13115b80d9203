def M_Box_placesOf : mM := ("NineBars$Box", ⟨"NineBars$Box", "placesOf", "(I)I"⟩, prog_2_method_7_code, 2, some .int, [], 1)
theorem tb_co_Box_placesOf : mTB (Cond.code ⟨"NineBars$Box", "placesOf", "(I)I"⟩ prog_2_method_7_code 2 (some .int)) := tbq4 73 (by decide +kernel) rfl
theorem tb_in_NineBars_Box : mTB (Cond.initialized "NineBars$Box") := tbq1 3 (by decide +kernel) rfl
theorem mc_Box_placesOf {M : mM} (hd : 1 < mDp M) : mCal M M_Box_placesOf 1 := ⟨tb_co_Box_placesOf, tb_in_NineBars_Box, ⟨by decide +kernel, by decide +kernel⟩, by decide +kernel, hd, by decide⟩
theorem d_Box_placesOf_0 : decode prog_2_method_7_code 0 = .ok (.iload_n 1, 1) := by decide +kernel
theorem d_Box_placesOf_1 : decode prog_2_method_7_code 1 = .ok (.ifCond .lt 20, 3) := by decide +kernel
theorem d_Box_placesOf_21 : decode prog_2_method_7_code 21 = .ok (.iconst 0, 1) := by decide +kernel
theorem d_Box_placesOf_22 : decode prog_2_method_7_code 22 = .ok (.ireturn, 1) := by decide +kernel
theorem d_Box_placesOf_4 : decode prog_2_method_7_code 4 = .ok (.iload_n 1, 1) := by decide +kernel
theorem d_Box_placesOf_5 : decode prog_2_method_7_code 5 = .ok (.aload_n 0, 1) := by decide +kernel
theorem tb_fl_Box_52 : mTB (Cond.fieldLink "NineBars$Box" 52 "NineBars$Box" "bars" "I") := tbq1 81 (by decide +kernel) rfl
theorem fd_Box_52 {M : mM} (h : mO M = "NineBars$Box") : mFld M 52 0 2 0 := ⟨_, _, _, tyX0, rfl, by decide, by decide, rfl, uw_0, tyX0_ok, nmX0, by rw [h]; exact Or.inl tb_fl_Box_52⟩
theorem d_Box_placesOf_6 : decode prog_2_method_7_code 6 = .ok (.getfield 52, 3) := by decide +kernel
theorem d_Box_placesOf_9 : decode prog_2_method_7_code 9 = .ok (.if_icmp .ge 12, 3) := by decide +kernel
theorem d_Box_placesOf_12 : decode prog_2_method_7_code 12 = .ok (.aload_n 0, 1) := by decide +kernel
theorem tb_fl_Box_9 : mTB (Cond.fieldLink "NineBars$Box" 9 "NineBars$Box" "places" "[I") := tbq1 96 (by decide +kernel) rfl
theorem fd_Box_9 {M : mM} (h : mO M = "NineBars$Box") : mFld M 9 0 6 2 := ⟨_, _, _, tyX0, rfl, by decide, by decide, rfl, uw_0, tyX0_ok, nmX0, by rw [h]; exact Or.inl tb_fl_Box_9⟩
theorem d_Box_placesOf_13 : decode prog_2_method_7_code 13 = .ok (.getfield 9, 3) := by decide +kernel
theorem d_Box_placesOf_16 : decode prog_2_method_7_code 16 = .ok (.iload_n 1, 1) := by decide +kernel
theorem d_Box_placesOf_17 : decode prog_2_method_7_code 17 = .ok (.iaload, 1) := by decide +kernel
theorem d_Box_placesOf_18 : decode prog_2_method_7_code 18 = .ok (.goto 4, 3) := by decide +kernel
def M_Box_rulesOf : mM := ("NineBars$Box", ⟨"NineBars$Box", "rulesOf", "(I)I"⟩, prog_2_method_8_code, 4, some .int, [], 1)
theorem tb_co_Box_rulesOf : mTB (Cond.code ⟨"NineBars$Box", "rulesOf", "(I)I"⟩ prog_2_method_8_code 4 (some .int)) := tbq4 135 (by decide +kernel) rfl
theorem mc_Box_rulesOf {M : mM} (hd : 1 < mDp M) : mCal M M_Box_rulesOf 1 := ⟨tb_co_Box_rulesOf, tb_in_NineBars_Box, ⟨by decide +kernel, by decide +kernel⟩, by decide +kernel, hd, by decide⟩
theorem d_Box_rulesOf_0 : decode prog_2_method_8_code 0 = .ok (.iconst 0, 1) := by decide +kernel
theorem d_Box_rulesOf_1 : decode prog_2_method_8_code 1 = .ok (.istore_n 2, 1) := by decide +kernel
theorem d_Box_rulesOf_2 : decode prog_2_method_8_code 2 = .ok (.iconst 0, 1) := by decide +kernel
theorem d_Box_rulesOf_3 : decode prog_2_method_8_code 3 = .ok (.istore_n 3, 1) := by decide +kernel
theorem d_Box_rulesOf_4 : decode prog_2_method_8_code 4 = .ok (.iload_n 3, 1) := by decide +kernel
theorem d_Box_rulesOf_5 : decode prog_2_method_8_code 5 = .ok (.aload_n 0, 1) := by decide +kernel
theorem tb_fl_Box_55 : mTB (Cond.fieldLink "NineBars$Box" 55 "NineBars$Box" "rules" "I") := tbq1 87 (by decide +kernel) rfl
theorem fd_Box_55 {M : mM} (h : mO M = "NineBars$Box") : mFld M 55 0 3 0 := ⟨_, _, _, tyX0, rfl, by decide, by decide, rfl, uw_0, tyX0_ok, nmX0, by rw [h]; exact Or.inl tb_fl_Box_55⟩
theorem d_Box_rulesOf_6 : decode prog_2_method_8_code 6 = .ok (.getfield 55, 3) := by decide +kernel
theorem d_Box_rulesOf_9 : decode prog_2_method_8_code 9 = .ok (.if_icmp .ge 27, 3) := by decide +kernel
theorem d_Box_rulesOf_36 : decode prog_2_method_8_code 36 = .ok (.iload_n 2, 1) := by decide +kernel
theorem d_Box_rulesOf_37 : decode prog_2_method_8_code 37 = .ok (.ireturn, 1) := by decide +kernel
theorem d_Box_rulesOf_12 : decode prog_2_method_8_code 12 = .ok (.iload_n 2, 1) := by decide +kernel
theorem d_Box_rulesOf_13 : decode prog_2_method_8_code 13 = .ok (.aload_n 0, 1) := by decide +kernel
theorem tb_fl_Box_27 : mTB (Cond.fieldLink "NineBars$Box" 27 "NineBars$Box" "ruleBars" "[I") := tbq1 111 (by decide +kernel) rfl
theorem fd_Box_27 {M : mM} (h : mO M = "NineBars$Box") : mFld M 27 0 11 2 := ⟨_, _, _, tyX0, rfl, by decide, by decide, rfl, uw_0, tyX0_ok, nmX0, by rw [h]; exact Or.inl tb_fl_Box_27⟩
theorem d_Box_rulesOf_14 : decode prog_2_method_8_code 14 = .ok (.getfield 27, 3) := by decide +kernel
theorem d_Box_rulesOf_17 : decode prog_2_method_8_code 17 = .ok (.iload_n 3, 1) := by decide +kernel
theorem d_Box_rulesOf_18 : decode prog_2_method_8_code 18 = .ok (.iaload, 1) := by decide +kernel
theorem d_Box_rulesOf_19 : decode prog_2_method_8_code 19 = .ok (.iload_n 1, 1) := by decide +kernel
theorem d_Box_rulesOf_20 : decode prog_2_method_8_code 20 = .ok (.if_icmp .ne 7, 3) := by decide +kernel
theorem d_Box_rulesOf_27 : decode prog_2_method_8_code 27 = .ok (.iconst 0, 1) := by decide +kernel
theorem d_Box_rulesOf_28 : decode prog_2_method_8_code 28 = .ok (.iadd, 1) := by decide +kernel
theorem d_Box_rulesOf_29 : decode prog_2_method_8_code 29 = .ok (.istore_n 2, 1) := by decide +kernel
theorem d_Box_rulesOf_30 : decode prog_2_method_8_code 30 = .ok (.iinc 3 1, 3) := by decide +kernel
theorem d_Box_rulesOf_33 : decode prog_2_method_8_code 33 = .ok (.goto (-29), 3) := by decide +kernel
theorem d_Box_rulesOf_23 : decode prog_2_method_8_code 23 = .ok (.iconst 1, 1) := by decide +kernel
theorem d_Box_rulesOf_24 : decode prog_2_method_8_code 24 = .ok (.goto 4, 3) := by decide +kernel
def M_Box_standOf : mM := ("NineBars$Box", ⟨"NineBars$Box", "standOf", "([I)I"⟩, prog_2_method_12_code, 4, some .int, [], 1)
theorem tb_co_Box_standOf : mTB (Cond.code ⟨"NineBars$Box", "standOf", "([I)I"⟩ prog_2_method_12_code 4 (some .int)) := tbq3 2 (by decide +kernel) rfl
theorem mc_Box_standOf {M : mM} (hd : 1 < mDp M) : mCal M M_Box_standOf 1 := ⟨tb_co_Box_standOf, tb_in_NineBars_Box, ⟨by decide +kernel, by decide +kernel⟩, by decide +kernel, hd, by decide⟩
theorem d_Box_standOf_0 : decode prog_2_method_12_code 0 = .ok (.iconst 0, 1) := by decide +kernel
theorem d_Box_standOf_1 : decode prog_2_method_12_code 1 = .ok (.istore_n 2, 1) := by decide +kernel
theorem d_Box_standOf_2 : decode prog_2_method_12_code 2 = .ok (.aload_n 0, 1) := by decide +kernel
theorem d_Box_standOf_3 : decode prog_2_method_12_code 3 = .ok (.getfield 52, 3) := by decide +kernel
theorem d_Box_standOf_6 : decode prog_2_method_12_code 6 = .ok (.iconst 1, 1) := by decide +kernel
theorem d_Box_standOf_7 : decode prog_2_method_12_code 7 = .ok (.isub, 1) := by decide +kernel
theorem d_Box_standOf_8 : decode prog_2_method_12_code 8 = .ok (.istore_n 3, 1) := by decide +kernel
theorem d_Box_standOf_9 : decode prog_2_method_12_code 9 = .ok (.iload_n 3, 1) := by decide +kernel
theorem d_Box_standOf_10 : decode prog_2_method_12_code 10 = .ok (.ifCond .lt 22, 3) := by decide +kernel
theorem d_Box_standOf_32 : decode prog_2_method_12_code 32 = .ok (.iload_n 2, 1) := by decide +kernel
theorem d_Box_standOf_33 : decode prog_2_method_12_code 33 = .ok (.ireturn, 1) := by decide +kernel
theorem d_Box_standOf_13 : decode prog_2_method_12_code 13 = .ok (.iload_n 2, 1) := by decide +kernel
theorem d_Box_standOf_14 : decode prog_2_method_12_code 14 = .ok (.aload_n 0, 1) := by decide +kernel
theorem d_Box_standOf_15 : decode prog_2_method_12_code 15 = .ok (.getfield 9, 3) := by decide +kernel
theorem d_Box_standOf_18 : decode prog_2_method_12_code 18 = .ok (.iload_n 3, 1) := by decide +kernel
theorem d_Box_standOf_19 : decode prog_2_method_12_code 19 = .ok (.iaload, 1) := by decide +kernel
theorem d_Box_standOf_20 : decode prog_2_method_12_code 20 = .ok (.imul, 1) := by decide +kernel
theorem d_Box_standOf_21 : decode prog_2_method_12_code 21 = .ok (.aload_n 1, 1) := by decide +kernel
theorem d_Box_standOf_22 : decode prog_2_method_12_code 22 = .ok (.iload_n 3, 1) := by decide +kernel
theorem d_Box_standOf_23 : decode prog_2_method_12_code 23 = .ok (.iaload, 1) := by decide +kernel
theorem d_Box_standOf_24 : decode prog_2_method_12_code 24 = .ok (.iadd, 1) := by decide +kernel
theorem d_Box_standOf_25 : decode prog_2_method_12_code 25 = .ok (.istore_n 2, 1) := by decide +kernel
theorem d_Box_standOf_26 : decode prog_2_method_12_code 26 = .ok (.iinc 3 (-1), 3) := by decide +kernel
theorem d_Box_standOf_29 : decode prog_2_method_12_code 29 = .ok (.goto (-20), 3) := by decide +kernel
def f_Box_placesOf_J21 (h : mH) : Option mR := some ((0, 0), h)
theorem t_Box_placesOf_J21 {G : mG} {r : mR} {h : mH}  (hr : f_Box_placesOf_J21 h = some r) : mJ G M_Box_placesOf 21 [(9, 0), (9, 0)] [] h r := by
  unfold f_Box_placesOf_J21 at hr
  refine j_iconst (pc := 21) d_Box_placesOf_21 ?_
  exact j_iret (pc := 22) d_Box_placesOf_22 rfl hr
def f_Box_placesOf (h : mH) (v0 v1 : Int) : Option mR := (if v1 < 0 then f_Box_placesOf_J21 h else chk (hpT h v0 = 1) ((if hpV h v0 2 ≤ v1 then f_Box_placesOf_J21 h else chk (hpT h v0 = 1) (chk (hpT h (hpV h v0 6) = 21) (chk (0 ≤ v1 ∧ v1 < hpL h (hpV h v0 6)) (some ((0, hpV h (hpV h v0 6) v1), h)))))))
theorem t_Box_placesOf {G : mG} (h : mH) (v0 v1 : Int) (r : mR) (hr : f_Box_placesOf h v0 v1 = some r) : mJM G M_Box_placesOf [(2, v0), (0, v1)] h r := by
  refine mJM_of (L := [(2, v0), (0, v1)]) rfl rfl rfl (Nat.le_of_ble_eq_true rfl) ?_
  unfold f_Box_placesOf at hr
  refine j_iload_n (pc := 0) d_Box_placesOf_0 rfl ?_
  refine j_if_lt (pc := 1) (tgt := 21) d_Box_placesOf_1 hr (fun hr => ?_) (fun hr => ?_)
  · exact mJ_weak (ls' := [(9, 0), (9, 0)]) (mwk_d (mwk_d mwk_n)) (t_Box_placesOf_J21  hr)
  · refine j_iload_n (pc := 4) d_Box_placesOf_4 rfl ?_
    refine j_aload_n (pc := 5) d_Box_placesOf_5 rfl ?_
    refine j_getf (pc := 6) d_Box_placesOf_6 (fd_Box_52 rfl) hr (fun hr => ?_)
    refine j_icmp_ge (pc := 9) (tgt := 21) d_Box_placesOf_9 hr (fun hr => ?_) (fun hr => ?_)
    · exact mJ_weak (ls' := [(9, 0), (9, 0)]) (mwk_d (mwk_d mwk_n)) (t_Box_placesOf_J21  hr)
    · refine j_aload_n (pc := 12) d_Box_placesOf_12 rfl ?_
      refine j_getf (pc := 13) d_Box_placesOf_13 (fd_Box_9 rfl) hr (fun hr => ?_)
      refine j_iload_n (pc := 16) d_Box_placesOf_16 rfl ?_
      refine j_iaload (pc := 17) d_Box_placesOf_17 hr (fun hr => ?_)
      refine j_goto (pc := 18) (tgt := 22) d_Box_placesOf_18 ?_
      exact j_iret (pc := 22) d_Box_placesOf_22 rfl hr
def f_Box_rulesOf_J28 (R4 : mH → Int → Int → Option mR) (v3 : Int) (s0 s1 : Int) (h : mH) : Option mR := wtv (w32 (s0 + s1)) (fun x1 => wtv (w32 (v3 + 1)) (fun x2 => R4 h x1 x2))
theorem t_Box_rulesOf_J28 {G : mG} {r : mR} {v0 v1 v3 s0 s1 : Int} {h : mH} {R4 : mH → Int → Int → Option mR} (hR4 : ∀ (h : mH) (w2 w3 : Int) , R4 h w2 w3 = some r → mJ G M_Box_rulesOf 4 [(2, v0), (0, v1), (0, w2), (0, w3)] [] h r) (hr : f_Box_rulesOf_J28 R4 v3 s0 s1 h = some r) : mJ G M_Box_rulesOf 28 [(2, v0), (0, v1), (9, 0), (0, v3)] [(0, s1), (0, s0)] h r := by
  unfold f_Box_rulesOf_J28 at hr
  refine j_iadd (pc := 28) d_Box_rulesOf_28 ?_
  refine j_istoreW_n (pc := 29) (L := fun x1 => [(2, v0), (0, v1), (0, x1), (0, v3)]) d_Box_rulesOf_29 (fun _ => rfl) hr (fun x1 hr => ?_)
  refine j_iincW (pc := 30) (L := fun x2 => [(2, v0), (0, v1), (0, x1), (0, x2)]) d_Box_rulesOf_30 rfl (fun _ => rfl) hr (fun x2 hr => ?_)
  refine j_goto (pc := 33) (tgt := 4) d_Box_rulesOf_33 ?_
  exact mJ_weak (ls' := [(2, v0), (0, v1), (0, x1), (0, x2)]) (mwk_s (mwk_s (mwk_s (mwk_s mwk_n)))) (hR4 h _ _ hr)
def f_Box_rulesOf_L4 (v0 v1 : Int) : Nat → mH → Int → Int → Option mR
  | 0, _, _, _ => none
  | n + 1, h, v2, v3 => chk (hpT h v0 = 1) ((if hpV h v0 3 ≤ v3 then some ((0, v2), h) else chk (hpT h v0 = 1) (chk (hpT h (hpV h v0 11) = 21) (chk (0 ≤ v3 ∧ v3 < hpL h (hpV h v0 11)) ((if hpV h (hpV h v0 11) v3 = v1 then f_Box_rulesOf_J28 (f_Box_rulesOf_L4 v0 v1 n) v3 v2 1 h else f_Box_rulesOf_J28 (f_Box_rulesOf_L4 v0 v1 n) v3 v2 0 h))))))
theorem t_Box_rulesOf_L4 {G : mG} {r : mR} {v0 v1 : Int}  : ∀ (n : Nat) (h : mH) (v2 v3 : Int), f_Box_rulesOf_L4 v0 v1 n h v2 v3 = some r → mJ G M_Box_rulesOf 4 [(2, v0), (0, v1), (0, v2), (0, v3)] [] h r := by
  intro n
  induction n with
  | zero =>
    intro h v2 v3 hr
    rw [f_Box_rulesOf_L4] at hr
    cases hr
  | succ n hR4 =>
    intro h v2 v3 hr
    rw [f_Box_rulesOf_L4] at hr
    refine j_iload_n (pc := 4) d_Box_rulesOf_4 rfl ?_
    refine j_aload_n (pc := 5) d_Box_rulesOf_5 rfl ?_
    refine j_getf (pc := 6) d_Box_rulesOf_6 (fd_Box_55 rfl) hr (fun hr => ?_)
    refine j_icmp_ge (pc := 9) (tgt := 36) d_Box_rulesOf_9 hr (fun hr => ?_) (fun hr => ?_)
    · refine j_iload_n (pc := 36) d_Box_rulesOf_36 rfl ?_
      exact j_iret (pc := 37) d_Box_rulesOf_37 rfl hr
    · refine j_iload_n (pc := 12) d_Box_rulesOf_12 rfl ?_
      refine j_aload_n (pc := 13) d_Box_rulesOf_13 rfl ?_
      refine j_getf (pc := 14) d_Box_rulesOf_14 (fd_Box_27 rfl) hr (fun hr => ?_)
      refine j_iload_n (pc := 17) d_Box_rulesOf_17 rfl ?_
      refine j_iaload (pc := 18) d_Box_rulesOf_18 hr (fun hr => ?_)
      refine j_iload_n (pc := 19) d_Box_rulesOf_19 rfl ?_
      refine j_icmp_ne (pc := 20) (tgt := 27) d_Box_rulesOf_20 hr (fun hr => ?_) (fun hr => ?_)
      · refine j_iconst (pc := 27) d_Box_rulesOf_27 ?_
        exact mJ_weak (ls' := [(2, v0), (0, v1), (9, 0), (0, v3)]) (mwk_s (mwk_s (mwk_d (mwk_s mwk_n)))) (t_Box_rulesOf_J28 hR4 hr)
      · refine j_iconst (pc := 23) d_Box_rulesOf_23 ?_
        refine j_goto (pc := 24) (tgt := 28) d_Box_rulesOf_24 ?_
        exact mJ_weak (ls' := [(2, v0), (0, v1), (9, 0), (0, v3)]) (mwk_s (mwk_s (mwk_d (mwk_s mwk_n)))) (t_Box_rulesOf_J28 hR4 hr)
def f_Box_rulesOf (h : mH) (v0 v1 : Int) : Option mR := f_Box_rulesOf_L4 v0 v1 1000000 h 0 0
theorem t_Box_rulesOf {G : mG} (h : mH) (v0 v1 : Int) (r : mR) (hr : f_Box_rulesOf h v0 v1 = some r) : mJM G M_Box_rulesOf [(2, v0), (0, v1)] h r := by
  refine mJM_of (L := [(2, v0), (0, v1), (9, 0), (9, 0)]) rfl rfl rfl (Nat.le_of_ble_eq_true rfl) ?_
  unfold f_Box_rulesOf at hr
  refine j_iconst (pc := 0) d_Box_rulesOf_0 ?_
  refine j_istore_n (pc := 1) (ls' := [(2, v0), (0, v1), (0, 0), (9, 0)]) d_Box_rulesOf_1 rfl ?_
  refine j_iconst (pc := 2) d_Box_rulesOf_2 ?_
  refine j_istore_n (pc := 3) (ls' := [(2, v0), (0, v1), (0, 0), (0, 0)]) d_Box_rulesOf_3 rfl ?_
  refine mJ_weak (ls' := [(2, v0), (0, v1), (0, 0), (0, 0)]) (mwk_s (mwk_s (mwk_s (mwk_s mwk_n)))) (t_Box_rulesOf_L4  _ _ _ _ hr)
def f_Box_standOf_L9 (v0 v1 : Int) : Nat → mH → Int → Int → Option mR
  | 0, _, _, _ => none
  | n + 1, h, v2, v3 => (if v3 < 0 then some ((0, v2), h) else chk (hpT h v0 = 1) (chk (hpT h (hpV h v0 6) = 21) (chk (0 ≤ v3 ∧ v3 < hpL h (hpV h v0 6)) (chk (hpT h v1 = 21) (chk (0 ≤ v3 ∧ v3 < hpL h v1) (wtv (w32 ((w32 (v2 * (hpV h (hpV h v0 6) v3))) + (hpV h v1 v3))) (fun x1 => wtv (w32 (v3 + (-1))) (fun x2 => (f_Box_standOf_L9 v0 v1 n) h x1 x2))))))))
theorem t_Box_standOf_L9 {G : mG} {r : mR} {v0 v1 : Int}  : ∀ (n : Nat) (h : mH) (v2 v3 : Int), f_Box_standOf_L9 v0 v1 n h v2 v3 = some r → mJ G M_Box_standOf 9 [(2, v0), (2, v1), (0, v2), (0, v3)] [] h r := by
  intro n
  induction n with
  | zero =>
    intro h v2 v3 hr
    rw [f_Box_standOf_L9] at hr
    cases hr
  | succ n hR9 =>
    intro h v2 v3 hr
    rw [f_Box_standOf_L9] at hr
    refine j_iload_n (pc := 9) d_Box_standOf_9 rfl ?_
    refine j_if_lt (pc := 10) (tgt := 32) d_Box_standOf_10 hr (fun hr => ?_) (fun hr => ?_)
    · refine j_iload_n (pc := 32) d_Box_standOf_32 rfl ?_
      exact j_iret (pc := 33) d_Box_standOf_33 rfl hr
    · refine j_iload_n (pc := 13) d_Box_standOf_13 rfl ?_
      refine j_aload_n (pc := 14) d_Box_standOf_14 rfl ?_
      refine j_getf (pc := 15) d_Box_standOf_15 (fd_Box_9 rfl) hr (fun hr => ?_)
      refine j_iload_n (pc := 18) d_Box_standOf_18 rfl ?_
      refine j_iaload (pc := 19) d_Box_standOf_19 hr (fun hr => ?_)
      refine j_imul (pc := 20) d_Box_standOf_20 ?_
      refine j_aload_n (pc := 21) d_Box_standOf_21 rfl ?_
      refine j_iload_n (pc := 22) d_Box_standOf_22 rfl ?_
      refine j_iaload (pc := 23) d_Box_standOf_23 hr (fun hr => ?_)
      refine j_iadd (pc := 24) d_Box_standOf_24 ?_
      refine j_istoreW_n (pc := 25) (L := fun x1 => [(2, v0), (2, v1), (0, x1), (0, v3)]) d_Box_standOf_25 (fun _ => rfl) hr (fun x1 hr => ?_)
      refine j_iincW (pc := 26) (L := fun x2 => [(2, v0), (2, v1), (0, x1), (0, x2)]) d_Box_standOf_26 rfl (fun _ => rfl) hr (fun x2 hr => ?_)
      refine j_goto (pc := 29) (tgt := 9) d_Box_standOf_29 ?_
      exact mJ_weak (ls' := [(2, v0), (2, v1), (0, x1), (0, x2)]) (mwk_s (mwk_s (mwk_s (mwk_s mwk_n)))) (hR9 h _ _ hr)
def f_Box_standOf (h : mH) (v0 v1 : Int) : Option mR := chk (hpT h v0 = 1) (wtv (w32 ((hpV h v0 2) - 1)) (fun x1 => f_Box_standOf_L9 v0 v1 1000000 h 0 x1))
theorem t_Box_standOf {G : mG} (h : mH) (v0 v1 : Int) (r : mR) (hr : f_Box_standOf h v0 v1 = some r) : mJM G M_Box_standOf [(2, v0), (2, v1)] h r := by
  refine mJM_of (L := [(2, v0), (2, v1), (9, 0), (9, 0)]) rfl rfl rfl (Nat.le_of_ble_eq_true rfl) ?_
  unfold f_Box_standOf at hr
  refine j_iconst (pc := 0) d_Box_standOf_0 ?_
  refine j_istore_n (pc := 1) (ls' := [(2, v0), (2, v1), (0, 0), (9, 0)]) d_Box_standOf_1 rfl ?_
  refine j_aload_n (pc := 2) d_Box_standOf_2 rfl ?_
  refine j_getf (pc := 3) d_Box_standOf_3 (fd_Box_52 rfl) hr (fun hr => ?_)
  refine j_iconst (pc := 6) d_Box_standOf_6 ?_
  refine j_isub (pc := 7) d_Box_standOf_7 ?_
  refine j_istoreW_n (pc := 8) (L := fun x1 => [(2, v0), (2, v1), (0, 0), (0, x1)]) d_Box_standOf_8 (fun _ => rfl) hr (fun x1 hr => ?_)
  refine mJ_weak (ls' := [(2, v0), (2, v1), (0, 0), (0, x1)]) (mwk_s (mwk_s (mwk_s (mwk_s mwk_n)))) (t_Box_standOf_L9  _ _ _ _ hr)
