def M_Nb_mustStands : mM := ("NineBars", ⟨"NineBars", "mustStands", "(LNineBars$Paths;LNineBars$Paths;I)I"⟩, prog_1_method_60_code, 10, some .int, [], 3)
theorem tb_co_Nb_mustStands : mTB (Cond.code ⟨"NineBars", "mustStands", "(LNineBars$Paths;LNineBars$Paths;I)I"⟩ prog_1_method_60_code 10 (some .int)) := tbq5 135 (by decide +kernel) rfl
theorem mc_Nb_mustStands {M : mM} (hd : 3 < mDp M) : mCal M M_Nb_mustStands 3 := ⟨tb_co_Nb_mustStands, tb_in_NineBars, ⟨by decide +kernel, by decide +kernel⟩, by decide +kernel, hd, by decide⟩
theorem d_Nb_mustStands_0 : decode prog_1_method_60_code 0 = .ok (.aload_n 1, 1) := by decide +kernel
theorem d_Nb_mustStands_1 : decode prog_1_method_60_code 1 = .ok (.aload_n 0, 1) := by decide +kernel
theorem d_Nb_mustStands_2 : decode prog_1_method_60_code 2 = .ok (.getfield 48, 3) := by decide +kernel
theorem d_Nb_mustStands_5 : decode prog_1_method_60_code 5 = .ok (.getfield 387, 3) := by decide +kernel
theorem d_Nb_mustStands_8 : decode prog_1_method_60_code 8 = .ok (.invokevirtual 263, 3) := by decide +kernel
theorem d_Nb_mustStands_11 : decode prog_1_method_60_code 11 = .ok (.istore 4, 2) := by decide +kernel
theorem d_Nb_mustStands_13 : decode prog_1_method_60_code 13 = .ok (.iconst 0, 1) := by decide +kernel
theorem d_Nb_mustStands_14 : decode prog_1_method_60_code 14 = .ok (.istore 5, 2) := by decide +kernel
theorem d_Nb_mustStands_16 : decode prog_1_method_60_code 16 = .ok (.iconst 0, 1) := by decide +kernel
theorem d_Nb_mustStands_17 : decode prog_1_method_60_code 17 = .ok (.istore 6, 2) := by decide +kernel
theorem d_Nb_mustStands_19 : decode prog_1_method_60_code 19 = .ok (.iconst 0, 1) := by decide +kernel
theorem d_Nb_mustStands_20 : decode prog_1_method_60_code 20 = .ok (.istore 7, 2) := by decide +kernel
theorem d_Nb_mustStands_22 : decode prog_1_method_60_code 22 = .ok (.iload 7, 2) := by decide +kernel
theorem d_Nb_mustStands_24 : decode prog_1_method_60_code 24 = .ok (.iload 4, 2) := by decide +kernel
theorem d_Nb_mustStands_26 : decode prog_1_method_60_code 26 = .ok (.if_icmp .gt 95, 3) := by decide +kernel
theorem d_Nb_mustStands_29 : decode prog_1_method_60_code 29 = .ok (.iconst 0, 1) := by decide +kernel
theorem d_Nb_mustStands_30 : decode prog_1_method_60_code 30 = .ok (.istore 8, 2) := by decide +kernel
theorem d_Nb_mustStands_32 : decode prog_1_method_60_code 32 = .ok (.iconst (-1), 1) := by decide +kernel
theorem d_Nb_mustStands_33 : decode prog_1_method_60_code 33 = .ok (.istore 9, 2) := by decide +kernel
theorem d_Nb_mustStands_35 : decode prog_1_method_60_code 35 = .ok (.iload 6, 2) := by decide +kernel
theorem d_Nb_mustStands_37 : decode prog_1_method_60_code 37 = .ok (.aload_n 1, 1) := by decide +kernel
theorem d_Nb_mustStands_38 : decode prog_1_method_60_code 38 = .ok (.getfield 259, 3) := by decide +kernel
theorem d_Nb_mustStands_41 : decode prog_1_method_60_code 41 = .ok (.if_icmp .ge 56, 3) := by decide +kernel
theorem d_Nb_mustStands_44 : decode prog_1_method_60_code 44 = .ok (.aload_n 1, 1) := by decide +kernel
theorem d_Nb_mustStands_45 : decode prog_1_method_60_code 45 = .ok (.aload_n 1, 1) := by decide +kernel
theorem d_Nb_mustStands_46 : decode prog_1_method_60_code 46 = .ok (.getfield 295, 3) := by decide +kernel
theorem d_Nb_mustStands_49 : decode prog_1_method_60_code 49 = .ok (.iload 6, 2) := by decide +kernel
theorem d_Nb_mustStands_51 : decode prog_1_method_60_code 51 = .ok (.iaload, 1) := by decide +kernel
theorem d_Nb_mustStands_52 : decode prog_1_method_60_code 52 = .ok (.invokevirtual 263, 3) := by decide +kernel
theorem d_Nb_mustStands_55 : decode prog_1_method_60_code 55 = .ok (.iload 7, 2) := by decide +kernel
theorem d_Nb_mustStands_57 : decode prog_1_method_60_code 57 = .ok (.if_icmp .ne 40, 3) := by decide +kernel
theorem d_Nb_mustStands_60 : decode prog_1_method_60_code 60 = .ok (.aload_n 2, 1) := by decide +kernel
theorem d_Nb_mustStands_61 : decode prog_1_method_60_code 61 = .ok (.aload_n 1, 1) := by decide +kernel
theorem d_Nb_mustStands_62 : decode prog_1_method_60_code 62 = .ok (.getfield 295, 3) := by decide +kernel
theorem d_Nb_mustStands_65 : decode prog_1_method_60_code 65 = .ok (.iload 6, 2) := by decide +kernel
theorem d_Nb_mustStands_67 : decode prog_1_method_60_code 67 = .ok (.iaload, 1) := by decide +kernel
theorem d_Nb_mustStands_68 : decode prog_1_method_60_code 68 = .ok (.invokevirtual 263, 3) := by decide +kernel
theorem d_Nb_mustStands_71 : decode prog_1_method_60_code 71 = .ok (.iload 4, 2) := by decide +kernel
theorem d_Nb_mustStands_73 : decode prog_1_method_60_code 73 = .ok (.iload 7, 2) := by decide +kernel
theorem d_Nb_mustStands_75 : decode prog_1_method_60_code 75 = .ok (.isub, 1) := by decide +kernel
theorem d_Nb_mustStands_76 : decode prog_1_method_60_code 76 = .ok (.if_icmp .ne 15, 3) := by decide +kernel
theorem d_Nb_mustStands_91 : decode prog_1_method_60_code 91 = .ok (.iinc 6 1, 3) := by decide +kernel
theorem d_Nb_mustStands_94 : decode prog_1_method_60_code 94 = .ok (.goto (-59), 3) := by decide +kernel
theorem d_Nb_mustStands_79 : decode prog_1_method_60_code 79 = .ok (.iinc 8 1, 3) := by decide +kernel
theorem d_Nb_mustStands_82 : decode prog_1_method_60_code 82 = .ok (.aload_n 1, 1) := by decide +kernel
theorem d_Nb_mustStands_83 : decode prog_1_method_60_code 83 = .ok (.getfield 295, 3) := by decide +kernel
theorem d_Nb_mustStands_86 : decode prog_1_method_60_code 86 = .ok (.iload 6, 2) := by decide +kernel
theorem d_Nb_mustStands_88 : decode prog_1_method_60_code 88 = .ok (.iaload, 1) := by decide +kernel
theorem d_Nb_mustStands_89 : decode prog_1_method_60_code 89 = .ok (.istore 9, 2) := by decide +kernel
theorem d_Nb_mustStands_97 : decode prog_1_method_60_code 97 = .ok (.iload 8, 2) := by decide +kernel
theorem d_Nb_mustStands_99 : decode prog_1_method_60_code 99 = .ok (.iconst 1, 1) := by decide +kernel
theorem d_Nb_mustStands_100 : decode prog_1_method_60_code 100 = .ok (.if_icmp .ne 15, 3) := by decide +kernel
theorem d_Nb_mustStands_115 : decode prog_1_method_60_code 115 = .ok (.iinc 7 1, 3) := by decide +kernel
theorem d_Nb_mustStands_118 : decode prog_1_method_60_code 118 = .ok (.goto (-96), 3) := by decide +kernel
theorem d_Nb_mustStands_103 : decode prog_1_method_60_code 103 = .ok (.iload 5, 2) := by decide +kernel
theorem d_Nb_mustStands_105 : decode prog_1_method_60_code 105 = .ok (.iload_n 3, 1) := by decide +kernel
theorem d_Nb_mustStands_106 : decode prog_1_method_60_code 106 = .ok (.if_icmp .ne 6, 3) := by decide +kernel
theorem d_Nb_mustStands_112 : decode prog_1_method_60_code 112 = .ok (.iinc 5 1, 3) := by decide +kernel
theorem d_Nb_mustStands_109 : decode prog_1_method_60_code 109 = .ok (.iload 9, 2) := by decide +kernel
theorem d_Nb_mustStands_111 : decode prog_1_method_60_code 111 = .ok (.ireturn, 1) := by decide +kernel
theorem d_Nb_mustStands_121 : decode prog_1_method_60_code 121 = .ok (.iload_n 3, 1) := by decide +kernel
theorem d_Nb_mustStands_122 : decode prog_1_method_60_code 122 = .ok (.iconst (-1), 1) := by decide +kernel
theorem d_Nb_mustStands_123 : decode prog_1_method_60_code 123 = .ok (.if_icmp .ne 8, 3) := by decide +kernel
theorem d_Nb_mustStands_131 : decode prog_1_method_60_code 131 = .ok (.iconst (-1), 1) := by decide +kernel
theorem d_Nb_mustStands_132 : decode prog_1_method_60_code 132 = .ok (.ireturn, 1) := by decide +kernel
theorem d_Nb_mustStands_126 : decode prog_1_method_60_code 126 = .ok (.iload 5, 2) := by decide +kernel
theorem d_Nb_mustStands_128 : decode prog_1_method_60_code 128 = .ok (.goto 4, 3) := by decide +kernel
theorem t_Nb_mustStands_J91 {G : mG} {r : mR} {v1 v2 v3 v4 v5 v6 v7 v8 v9 : Int} {h : mH} {R35 : mH → Int → Int → Int → Option mR} (hR35 : ∀ (h : mH) (w6 w8 w9 : Int) , R35 h w6 w8 w9 = some r → mJ G M_Nb_mustStands 35 [(9, 0), (2, v1), (2, v2), (0, v3), (0, v4), (0, v5), (0, w6), (0, v7), (0, w8), (0, w9)] [] h r) (hr : f_Nb_mustStands_J91 R35 v6 v8 v9 h = some r) : mJ G M_Nb_mustStands 91 [(9, 0), (2, v1), (2, v2), (0, v3), (0, v4), (0, v5), (0, v6), (0, v7), (0, v8), (0, v9)] [] h r := by
  unfold f_Nb_mustStands_J91 at hr
  refine j_iincW (pc := 91) (L := fun x1 => [(9, 0), (2, v1), (2, v2), (0, v3), (0, v4), (0, v5), (0, x1), (0, v7), (0, v8), (0, v9)]) d_Nb_mustStands_91 rfl (fun _ => rfl) hr (fun x1 hr => ?_)
  refine j_goto (pc := 94) (tgt := 35) d_Nb_mustStands_94 ?_
  exact mJ_weak (ls' := [(9, 0), (2, v1), (2, v2), (0, v3), (0, v4), (0, v5), (0, x1), (0, v7), (0, v8), (0, v9)]) (mwk_s (mwk_s (mwk_s (mwk_s (mwk_s (mwk_s (mwk_s (mwk_s (mwk_s (mwk_s mwk_n)))))))))) (hR35 h _ _ _ hr)
theorem t_Nb_mustStands_L35 {G : mG} {r : mR} {v1 v2 v3 v4 v5 v7 : Int} {K97 : mH → Int → Int → Int → Option mR} (hK97 : ∀ (h : mH) (w6 w8 w9 : Int) , K97 h w6 w8 w9 = some r → mJ G M_Nb_mustStands 97 [(9, 0), (2, v1), (2, v2), (0, v3), (0, v4), (0, v5), (0, w6), (0, v7), (0, w8), (0, w9)] [] h r) : ∀ (n : Nat) (h : mH) (v6 v8 v9 : Int), f_Nb_mustStands_L35 K97 v1 v2 v4 v7 n h v6 v8 v9 = some r → mJ G M_Nb_mustStands 35 [(9, 0), (2, v1), (2, v2), (0, v3), (0, v4), (0, v5), (0, v6), (0, v7), (0, v8), (0, v9)] [] h r := by
  intro n
  induction n with
  | zero =>
    intro h v6 v8 v9 hr
    rw [f_Nb_mustStands_L35] at hr
    cases hr
  | succ n hR35 =>
    intro h v6 v8 v9 hr
    rw [f_Nb_mustStands_L35] at hr
    refine j_iload (pc := 35) d_Nb_mustStands_35 rfl ?_
    refine j_aload_n (pc := 37) d_Nb_mustStands_37 rfl ?_
    refine j_getf (pc := 38) d_Nb_mustStands_38 (fd_Nb_259 rfl) hr (fun hr => ?_)
    refine j_icmp_ge (pc := 41) (tgt := 97) d_Nb_mustStands_41 hr (fun hr => ?_) (fun hr => ?_)
    · exact mJ_weak (ls' := [(9, 0), (2, v1), (2, v2), (0, v3), (0, v4), (0, v5), (0, v6), (0, v7), (0, v8), (0, v9)]) (mwk_s (mwk_s (mwk_s (mwk_s (mwk_s (mwk_s (mwk_s (mwk_s (mwk_s (mwk_s mwk_n)))))))))) (hK97 h _ _ _ hr)
    · refine j_aload_n (pc := 44) d_Nb_mustStands_44 rfl ?_
      refine j_aload_n (pc := 45) d_Nb_mustStands_45 rfl ?_
      refine j_getf (pc := 46) d_Nb_mustStands_46 (fd_Nb_295 rfl) hr (fun hr => ?_)
      refine j_iload (pc := 49) d_Nb_mustStands_49 rfl ?_
      refine j_iaload (pc := 51) d_Nb_mustStands_51 hr (fun hr => ?_)
      obtain ⟨ha, hr⟩ := chk_some hr
      refine j_callG (pc := 52) (stk := [(0, hpV h (hpV h v1 6) v6), (2, v1)]) (as := [(2, v1), (0, hpV h (hpV h v1 6) v6)]) (P := (fun v9 => ((0 : Nat), v9) :: [])) (tg := 0) (My := M_Paths_farOf) (mRunV (as := [(0, hpV h (hpV h v1 6) v6)]) (st := []) d_Nb_mustStands_52 (mc_Paths_farOf (by decide)) rfl (mv_Paths_farOf tb_ml_Nb_263) rfl (Nat.le_of_ble_eq_true rfl) ha) (fun v => rfl) rfl hr (fun r1 h1 => t_Paths_farOf _ _ _ _ h1) (fun x2 h1 hr => ?_)
      refine j_iload (pc := 55) d_Nb_mustStands_55 rfl ?_
      refine j_icmp_ne (pc := 57) (tgt := 97) d_Nb_mustStands_57 hr (fun hr => ?_) (fun hr => ?_)
      · exact mJ_weak (ls' := [(9, 0), (2, v1), (2, v2), (0, v3), (0, v4), (0, v5), (0, v6), (0, v7), (0, v8), (0, v9)]) (mwk_s (mwk_s (mwk_s (mwk_s (mwk_s (mwk_s (mwk_s (mwk_s (mwk_s (mwk_s mwk_n)))))))))) (hK97 h1 _ _ _ hr)
      · refine j_aload_n (pc := 60) d_Nb_mustStands_60 rfl ?_
        refine j_aload_n (pc := 61) d_Nb_mustStands_61 rfl ?_
        refine j_getf (pc := 62) d_Nb_mustStands_62 (fd_Nb_295 rfl) hr (fun hr => ?_)
        refine j_iload (pc := 65) d_Nb_mustStands_65 rfl ?_
        refine j_iaload (pc := 67) d_Nb_mustStands_67 hr (fun hr => ?_)
        obtain ⟨ha, hr⟩ := chk_some hr
        refine j_callG (pc := 68) (stk := [(0, hpV h1 (hpV h1 v1 6) v6), (2, v2)]) (as := [(2, v2), (0, hpV h1 (hpV h1 v1 6) v6)]) (P := (fun v9 => ((0 : Nat), v9) :: [])) (tg := 0) (My := M_Paths_farOf) (mRunV (as := [(0, hpV h1 (hpV h1 v1 6) v6)]) (st := []) d_Nb_mustStands_68 (mc_Paths_farOf (by decide)) rfl (mv_Paths_farOf tb_ml_Nb_263) rfl (Nat.le_of_ble_eq_true rfl) ha) (fun v => rfl) rfl hr (fun r1 h1 => t_Paths_farOf _ _ _ _ h1) (fun x4 h3 hr => ?_)
        refine j_iload (pc := 71) d_Nb_mustStands_71 rfl ?_
        refine j_iload (pc := 73) d_Nb_mustStands_73 rfl ?_
        refine j_isub (pc := 75) d_Nb_mustStands_75 ?_
        refine j_icmp_ne (pc := 76) (tgt := 91) d_Nb_mustStands_76 hr (fun hr => ?_) (fun hr => ?_)
        · exact mJ_weak (ls' := [(9, 0), (2, v1), (2, v2), (0, v3), (0, v4), (0, v5), (0, v6), (0, v7), (0, v8), (0, v9)]) (mwk_s (mwk_s (mwk_s (mwk_s (mwk_s (mwk_s (mwk_s (mwk_s (mwk_s (mwk_s mwk_n)))))))))) (t_Nb_mustStands_J91 hR35 hr)
        · refine j_iincW (pc := 79) (L := fun x5 => [(9, 0), (2, v1), (2, v2), (0, v3), (0, v4), (0, v5), (0, v6), (0, v7), (0, x5), (0, v9)]) d_Nb_mustStands_79 rfl (fun _ => rfl) hr (fun x5 hr => ?_)
          refine j_aload_n (pc := 82) d_Nb_mustStands_82 rfl ?_
          refine j_getf (pc := 83) d_Nb_mustStands_83 (fd_Nb_295 rfl) hr (fun hr => ?_)
          refine j_iload (pc := 86) d_Nb_mustStands_86 rfl ?_
          refine j_iaload (pc := 88) d_Nb_mustStands_88 hr (fun hr => ?_)
          refine j_istoreW (pc := 89) (L := fun x6 => [(9, 0), (2, v1), (2, v2), (0, v3), (0, v4), (0, v5), (0, v6), (0, v7), (0, x5), (0, x6)]) d_Nb_mustStands_89 (fun _ => rfl) hr (fun x6 hr => ?_)
          exact mJ_weak (ls' := [(9, 0), (2, v1), (2, v2), (0, v3), (0, v4), (0, v5), (0, v6), (0, v7), (0, x5), (0, x6)]) (mwk_s (mwk_s (mwk_s (mwk_s (mwk_s (mwk_s (mwk_s (mwk_s (mwk_s (mwk_s mwk_n)))))))))) (t_Nb_mustStands_J91 hR35 hr)
theorem t_Nb_mustStands_J115 {G : mG} {r : mR} {v1 v2 v3 v4 v5 v6 v7 : Int} {h : mH} {R22 : mH → Int → Int → Int → Option mR} (hR22 : ∀ (h : mH) (w5 w6 w7 : Int) , R22 h w5 w6 w7 = some r → mJ G M_Nb_mustStands 22 [(9, 0), (2, v1), (2, v2), (0, v3), (0, v4), (0, w5), (0, w6), (0, w7), (9, 0), (9, 0)] [] h r) (hr : f_Nb_mustStands_J115 R22 v5 v6 v7 h = some r) : mJ G M_Nb_mustStands 115 [(9, 0), (2, v1), (2, v2), (0, v3), (0, v4), (0, v5), (0, v6), (0, v7), (9, 0), (9, 0)] [] h r := by
  unfold f_Nb_mustStands_J115 at hr
  refine j_iincW (pc := 115) (L := fun x1 => [(9, 0), (2, v1), (2, v2), (0, v3), (0, v4), (0, v5), (0, v6), (0, x1), (9, 0), (9, 0)]) d_Nb_mustStands_115 rfl (fun _ => rfl) hr (fun x1 hr => ?_)
  refine j_goto (pc := 118) (tgt := 22) d_Nb_mustStands_118 ?_
  exact mJ_weak (ls' := [(9, 0), (2, v1), (2, v2), (0, v3), (0, v4), (0, v5), (0, v6), (0, x1), (9, 0), (9, 0)]) (mwk_s (mwk_s (mwk_s (mwk_s (mwk_s (mwk_s (mwk_s (mwk_s (mwk_s (mwk_s mwk_n)))))))))) (hR22 h _ _ _ hr)
theorem t_Nb_mustStands_J97 {G : mG} {r : mR} {v1 v2 v3 v4 v5 v6 v7 v8 v9 : Int} {h : mH} {R22 : mH → Int → Int → Int → Option mR} (hR22 : ∀ (h : mH) (w5 w6 w7 : Int) , R22 h w5 w6 w7 = some r → mJ G M_Nb_mustStands 22 [(9, 0), (2, v1), (2, v2), (0, v3), (0, v4), (0, w5), (0, w6), (0, w7), (9, 0), (9, 0)] [] h r) (hr : f_Nb_mustStands_J97 R22 v3 v5 v6 v7 v8 v9 h = some r) : mJ G M_Nb_mustStands 97 [(9, 0), (2, v1), (2, v2), (0, v3), (0, v4), (0, v5), (0, v6), (0, v7), (0, v8), (0, v9)] [] h r := by
  unfold f_Nb_mustStands_J97 at hr
  refine j_iload (pc := 97) d_Nb_mustStands_97 rfl ?_
  refine j_iconst (pc := 99) d_Nb_mustStands_99 ?_
  refine j_icmp_ne (pc := 100) (tgt := 115) d_Nb_mustStands_100 hr (fun hr => ?_) (fun hr => ?_)
  · exact mJ_weak (ls' := [(9, 0), (2, v1), (2, v2), (0, v3), (0, v4), (0, v5), (0, v6), (0, v7), (9, 0), (9, 0)]) (mwk_s (mwk_s (mwk_s (mwk_s (mwk_s (mwk_s (mwk_s (mwk_s (mwk_d (mwk_d mwk_n)))))))))) (t_Nb_mustStands_J115 hR22 hr)
  · refine j_iload (pc := 103) d_Nb_mustStands_103 rfl ?_
    refine j_iload_n (pc := 105) d_Nb_mustStands_105 rfl ?_
    refine j_icmp_ne (pc := 106) (tgt := 112) d_Nb_mustStands_106 hr (fun hr => ?_) (fun hr => ?_)
    · refine j_iincW (pc := 112) (L := fun x1 => [(9, 0), (2, v1), (2, v2), (0, v3), (0, v4), (0, x1), (0, v6), (0, v7), (0, v8), (0, v9)]) d_Nb_mustStands_112 rfl (fun _ => rfl) hr (fun x1 hr => ?_)
      exact mJ_weak (ls' := [(9, 0), (2, v1), (2, v2), (0, v3), (0, v4), (0, x1), (0, v6), (0, v7), (9, 0), (9, 0)]) (mwk_s (mwk_s (mwk_s (mwk_s (mwk_s (mwk_s (mwk_s (mwk_s (mwk_d (mwk_d mwk_n)))))))))) (t_Nb_mustStands_J115 hR22 hr)
    · refine j_iload (pc := 109) d_Nb_mustStands_109 rfl ?_
      exact j_iret (pc := 111) d_Nb_mustStands_111 rfl hr
theorem t_Nb_mustStands_L22 {G : mG} {r : mR} {v1 v2 v3 v4 : Int} {K121 : mH → Int → Option mR} (hK121 : ∀ (h : mH) (w5 : Int) , K121 h w5 = some r → mJ G M_Nb_mustStands 121 [(9, 0), (9, 0), (9, 0), (0, v3), (9, 0), (0, w5), (9, 0), (9, 0), (9, 0), (9, 0)] [] h r) : ∀ (n : Nat) (h : mH) (v5 v6 v7 : Int), f_Nb_mustStands_L22 K121 v1 v2 v3 v4 n h v5 v6 v7 = some r → mJ G M_Nb_mustStands 22 [(9, 0), (2, v1), (2, v2), (0, v3), (0, v4), (0, v5), (0, v6), (0, v7), (9, 0), (9, 0)] [] h r := by
  intro n
  induction n with
  | zero =>
    intro h v5 v6 v7 hr
    rw [f_Nb_mustStands_L22] at hr
    cases hr
  | succ n hR22 =>
    intro h v5 v6 v7 hr
    rw [f_Nb_mustStands_L22] at hr
    refine j_iload (pc := 22) d_Nb_mustStands_22 rfl ?_
    refine j_iload (pc := 24) d_Nb_mustStands_24 rfl ?_
    refine j_icmp_gt (pc := 26) (tgt := 121) d_Nb_mustStands_26 hr (fun hr => ?_) (fun hr => ?_)
    · exact mJ_weak (ls' := [(9, 0), (9, 0), (9, 0), (0, v3), (9, 0), (0, v5), (9, 0), (9, 0), (9, 0), (9, 0)]) (mwk_s (mwk_d (mwk_d (mwk_s (mwk_d (mwk_s (mwk_d (mwk_d (mwk_s (mwk_s mwk_n)))))))))) (hK121 h _ hr)
    · refine j_iconst (pc := 29) d_Nb_mustStands_29 ?_
      refine j_istore (pc := 30) (ls' := [(9, 0), (2, v1), (2, v2), (0, v3), (0, v4), (0, v5), (0, v6), (0, v7), (0, 0), (9, 0)]) d_Nb_mustStands_30 rfl ?_
      refine j_iconst (pc := 32) d_Nb_mustStands_32 ?_
      refine j_istore (pc := 33) (ls' := [(9, 0), (2, v1), (2, v2), (0, v3), (0, v4), (0, v5), (0, v6), (0, v7), (0, 0), (0, (-1))]) d_Nb_mustStands_33 rfl ?_
      refine mJ_weak (ls' := [(9, 0), (2, v1), (2, v2), (0, v3), (0, v4), (0, v5), (0, v6), (0, v7), (0, 0), (0, (-1))]) (mwk_s (mwk_s (mwk_s (mwk_s (mwk_s (mwk_s (mwk_s (mwk_s (mwk_s (mwk_s mwk_n)))))))))) (t_Nb_mustStands_L35 (fun h1 x2 x3 x4 hr => ?_) _ _ _ _ _ hr)
      · exact mJ_weak (ls' := [(9, 0), (2, v1), (2, v2), (0, v3), (0, v4), (0, v5), (0, x2), (0, v7), (0, x3), (0, x4)]) (mwk_s (mwk_s (mwk_s (mwk_s (mwk_s (mwk_s (mwk_s (mwk_s (mwk_s (mwk_s mwk_n)))))))))) (t_Nb_mustStands_J97 hR22 hr)
theorem t_Nb_mustStands {G : mG} (h : mH) (v0 v1 v2 v3 : Int) (r : mR) (hr : f_Nb_mustStands h v0 v1 v2 v3 = some r) : mJM G M_Nb_mustStands [(2, v0), (2, v1), (2, v2), (0, v3)] h r := by
  refine mJM_of (L := [(2, v0), (2, v1), (2, v2), (0, v3), (9, 0), (9, 0), (9, 0), (9, 0), (9, 0), (9, 0)]) rfl rfl rfl (Nat.le_of_ble_eq_true rfl) ?_
  unfold f_Nb_mustStands at hr
  refine j_aload_n (pc := 0) d_Nb_mustStands_0 rfl ?_
  refine j_aload_n (pc := 1) d_Nb_mustStands_1 rfl ?_
  refine j_getf (pc := 2) d_Nb_mustStands_2 (fd_Nb_48 rfl) hr (fun hr => ?_)
  refine j_getf (pc := 5) d_Nb_mustStands_5 (fd_Nb_387 rfl) hr (fun hr => ?_)
  obtain ⟨ha, hr⟩ := chk_some hr
  refine j_callG (pc := 8) (stk := [(0, hpV h (hpV h v0 10) 4), (2, v1)]) (as := [(2, v1), (0, hpV h (hpV h v0 10) 4)]) (P := (fun v9 => ((0 : Nat), v9) :: [])) (tg := 0) (My := M_Paths_farOf) (mRunV (as := [(0, hpV h (hpV h v0 10) 4)]) (st := []) d_Nb_mustStands_8 (mc_Paths_farOf (by decide)) rfl (mv_Paths_farOf tb_ml_Nb_263) rfl (Nat.le_of_ble_eq_true rfl) ha) (fun v => rfl) rfl hr (fun r1 h1 => t_Paths_farOf _ _ _ _ h1) (fun x2 h1 hr => ?_)
  refine j_istore (pc := 11) (ls' := [(2, v0), (2, v1), (2, v2), (0, v3), (0, x2), (9, 0), (9, 0), (9, 0), (9, 0), (9, 0)]) d_Nb_mustStands_11 rfl ?_
  refine j_iconst (pc := 13) d_Nb_mustStands_13 ?_
  refine j_istore (pc := 14) (ls' := [(2, v0), (2, v1), (2, v2), (0, v3), (0, x2), (0, 0), (9, 0), (9, 0), (9, 0), (9, 0)]) d_Nb_mustStands_14 rfl ?_
  refine j_iconst (pc := 16) d_Nb_mustStands_16 ?_
  refine j_istore (pc := 17) (ls' := [(2, v0), (2, v1), (2, v2), (0, v3), (0, x2), (0, 0), (0, 0), (9, 0), (9, 0), (9, 0)]) d_Nb_mustStands_17 rfl ?_
  refine j_iconst (pc := 19) d_Nb_mustStands_19 ?_
  refine j_istore (pc := 20) (ls' := [(2, v0), (2, v1), (2, v2), (0, v3), (0, x2), (0, 0), (0, 0), (0, 0), (9, 0), (9, 0)]) d_Nb_mustStands_20 rfl ?_
  refine mJ_weak (ls' := [(9, 0), (2, v1), (2, v2), (0, v3), (0, x2), (0, 0), (0, 0), (0, 0), (9, 0), (9, 0)]) (mwk_d (mwk_s (mwk_s (mwk_s (mwk_s (mwk_s (mwk_s (mwk_s (mwk_s (mwk_s mwk_n)))))))))) (t_Nb_mustStands_L22 (fun h3 x4 hr => ?_) _ _ _ _ _ hr)
  · refine j_iload_n (pc := 121) d_Nb_mustStands_121 rfl ?_
    refine j_iconst (pc := 122) d_Nb_mustStands_122 ?_
    refine j_icmp_ne (pc := 123) (tgt := 131) d_Nb_mustStands_123 hr (fun hr => ?_) (fun hr => ?_)
    · refine j_iconst (pc := 131) d_Nb_mustStands_131 ?_
      exact j_iret (pc := 132) d_Nb_mustStands_132 rfl hr
    · refine j_iload (pc := 126) d_Nb_mustStands_126 rfl ?_
      refine j_goto (pc := 128) (tgt := 132) d_Nb_mustStands_128 ?_
      exact j_iret (pc := 132) d_Nb_mustStands_132 rfl hr
def M_Nb_musts : mM := ("NineBars", ⟨"NineBars", "musts", "(I)I"⟩, prog_1_method_27_code, 2, some .int, [], 13)
theorem tb_co_Nb_musts : mTB (Cond.code ⟨"NineBars", "musts", "(I)I"⟩ prog_1_method_27_code 2 (some .int)) := tbq5 130 (by decide +kernel) rfl
theorem mc_Nb_musts {M : mM} (hd : 13 < mDp M) : mCal M M_Nb_musts 1 := ⟨tb_co_Nb_musts, tb_in_NineBars, ⟨by decide +kernel, by decide +kernel⟩, by decide +kernel, hd, by decide⟩
theorem d_Nb_musts_0 : decode prog_1_method_27_code 0 = .ok (.aload_n 0, 1) := by decide +kernel
theorem d_Nb_musts_1 : decode prog_1_method_27_code 1 = .ok (.invokevirtual 260, 3) := by decide +kernel
theorem d_Nb_musts_4 : decode prog_1_method_27_code 4 = .ok (.iload_n 1, 1) := by decide +kernel
theorem d_Nb_musts_5 : decode prog_1_method_27_code 5 = .ok (.ifCond .eq 20, 3) := by decide +kernel
theorem d_Nb_musts_25 : decode prog_1_method_27_code 25 = .ok (.aload_n 0, 1) := by decide +kernel
theorem d_Nb_musts_26 : decode prog_1_method_27_code 26 = .ok (.aload_n 0, 1) := by decide +kernel
theorem d_Nb_musts_27 : decode prog_1_method_27_code 27 = .ok (.invokevirtual 255, 3) := by decide +kernel
theorem d_Nb_musts_30 : decode prog_1_method_27_code 30 = .ok (.aload_n 0, 1) := by decide +kernel
theorem d_Nb_musts_31 : decode prog_1_method_27_code 31 = .ok (.invokevirtual 274, 3) := by decide +kernel
theorem d_Nb_musts_34 : decode prog_1_method_27_code 34 = .ok (.iload_n 1, 1) := by decide +kernel
theorem d_Nb_musts_35 : decode prog_1_method_27_code 35 = .ok (.ifCond .ne 7, 3) := by decide +kernel
theorem d_Nb_musts_42 : decode prog_1_method_27_code 42 = .ok (.iload_n 1, 1) := by decide +kernel
theorem d_Nb_musts_43 : decode prog_1_method_27_code 43 = .ok (.bipush 10, 2) := by decide +kernel
theorem d_Nb_musts_45 : decode prog_1_method_27_code 45 = .ok (.isub, 1) := by decide +kernel
theorem d_Nb_musts_46 : decode prog_1_method_27_code 46 = .ok (.invokevirtual 306, 3) := by decide +kernel
theorem tb_ml_Nb_306 : mTB (Cond.methodLink "NineBars" 306 ⟨"NineBars", "mustStands", "(LNineBars$Paths;LNineBars$Paths;I)I"⟩) := tbq5 132 (by decide +kernel) rfl
theorem tb_im_Nb_mustStands : mTB (Cond.instanceMethod ⟨"NineBars", "mustStands", "(LNineBars$Paths;LNineBars$Paths;I)I"⟩) := tbq5 134 (by decide +kernel) rfl
theorem tb_se_Nb_mustStands : mTB (Cond.selects "NineBars" ⟨"NineBars", "mustStands", "(LNineBars$Paths;LNineBars$Paths;I)I"⟩ ⟨"NineBars", "mustStands", "(LNineBars$Paths;LNineBars$Paths;I)I"⟩) := tbqp 29 (by decide +kernel) rfl
theorem mv_Nb_mustStands {M : mM} {idx : Nat} (h : mTB (Cond.methodLink (mO M) idx ⟨"NineBars", "mustStands", "(LNineBars$Paths;LNineBars$Paths;I)I"⟩)) : mCaV M M_Nb_mustStands idx 10 := ⟨h, tb_im_Nb_mustStands, tb_se_Nb_mustStands, by decide, TX10, 19, rfl⟩
theorem d_Nb_musts_49 : decode prog_1_method_27_code 49 = .ok (.ireturn, 1) := by decide +kernel
theorem d_Nb_musts_38 : decode prog_1_method_27_code 38 = .ok (.iconst (-1), 1) := by decide +kernel
theorem d_Nb_musts_39 : decode prog_1_method_27_code 39 = .ok (.goto 7, 3) := by decide +kernel
theorem d_Nb_musts_8 : decode prog_1_method_27_code 8 = .ok (.iload_n 1, 1) := by decide +kernel
theorem d_Nb_musts_9 : decode prog_1_method_27_code 9 = .ok (.bipush 10, 2) := by decide +kernel
theorem d_Nb_musts_11 : decode prog_1_method_27_code 11 = .ok (.if_icmp .ge 14, 3) := by decide +kernel
theorem d_Nb_musts_14 : decode prog_1_method_27_code 14 = .ok (.new 109, 3) := by decide +kernel
theorem d_Nb_musts_17 : decode prog_1_method_27_code 17 = .ok (.dup, 1) := by decide +kernel
theorem d_Nb_musts_18 : decode prog_1_method_27_code 18 = .ok (.ldc_w 304, 3) := by decide +kernel
theorem d_Nb_musts_21 : decode prog_1_method_27_code 21 = .ok (.invokespecial 113, 3) := by decide +kernel
theorem d_Nb_musts_24 : decode prog_1_method_27_code 24 = .ok (.athrow, 1) := by decide +kernel
theorem t_Nb_musts_J25 {G : mG} {r : mR} {v0 v1 : Int} {h : mH}  (hr : f_Nb_musts_J25 v0 v1 h = some r) : mJ G M_Nb_musts 25 [(2, v0), (0, v1)] [] h r := by
  unfold f_Nb_musts_J25 at hr
  refine j_aload_n (pc := 25) d_Nb_musts_25 rfl ?_
  refine j_aload_n (pc := 26) d_Nb_musts_26 rfl ?_
  obtain ⟨ha, hr⟩ := chk_some hr
  refine j_callG (pc := 27) (stk := [(2, v0), (2, v0)]) (as := [(2, v0)]) (P := (fun v9 => ((2 : Nat), v9) :: [(2, v0)])) (tg := 2) (My := M_Nb_fromNow) (mRunV (as := []) (st := [(2, v0)]) d_Nb_musts_27 (mc_Nb_fromNow (by decide)) rfl (mv_Nb_fromNow tb_ml_Nb_255) rfl (Nat.le_of_ble_eq_true rfl) ha) (fun v => rfl) rfl hr (fun r1 h1 => t_Nb_fromNow _ _ _ h1) (fun x2 h1 hr => ?_)
  refine j_aload_n (pc := 30) d_Nb_musts_30 rfl ?_
  obtain ⟨ha, hr⟩ := chk_some hr
  refine j_callG (pc := 31) (stk := [(2, v0), (2, x2), (2, v0)]) (as := [(2, v0)]) (P := (fun v9 => ((2 : Nat), v9) :: [(2, x2), (2, v0)])) (tg := 2) (My := M_Nb_toOpen) (mRunV (as := []) (st := [(2, x2), (2, v0)]) d_Nb_musts_31 (mc_Nb_toOpen (by decide)) rfl (mv_Nb_toOpen tb_ml_Nb_274) rfl (Nat.le_of_ble_eq_true rfl) ha) (fun v => rfl) rfl hr (fun r1 h1 => t_Nb_toOpen _ _ _ h1) (fun x4 h3 hr => ?_)
  refine j_iload_n (pc := 34) d_Nb_musts_34 rfl ?_
  refine j_if_ne (pc := 35) (tgt := 42) d_Nb_musts_35 hr (fun hr => ?_) (fun hr => ?_)
  · refine j_iload_n (pc := 42) d_Nb_musts_42 rfl ?_
    refine j_bipush (pc := 43) d_Nb_musts_43 ?_
    refine j_isub (pc := 45) d_Nb_musts_45 ?_
    obtain ⟨ha, hr⟩ := chk_some hr
    refine j_callG (pc := 46) (stk := [(0, w32 (v1 - 10)), (2, x4), (2, x2), (2, v0)]) (as := [(2, v0), (2, x2), (2, x4), (0, w32 (v1 - 10))]) (P := (fun v9 => ((0 : Nat), v9) :: [])) (tg := 0) (My := M_Nb_mustStands) (mRunV (as := [(2, x2), (2, x4), (0, w32 (v1 - 10))]) (st := []) d_Nb_musts_46 (mc_Nb_mustStands (by decide)) rfl (mv_Nb_mustStands tb_ml_Nb_306) rfl (Nat.le_of_ble_eq_true rfl) ha) (fun v => rfl) rfl hr (fun r1 h1 => t_Nb_mustStands _ _ _ _ _ _ h1) (fun x6 h5 hr => ?_)
    exact j_iret (pc := 49) d_Nb_musts_49 rfl hr
  · refine j_iconst (pc := 38) d_Nb_musts_38 ?_
    refine j_goto (pc := 39) (tgt := 46) d_Nb_musts_39 ?_
    obtain ⟨ha, hr⟩ := chk_some hr
    refine j_callG (pc := 46) (stk := [(0, (-1)), (2, x4), (2, x2), (2, v0)]) (as := [(2, v0), (2, x2), (2, x4), (0, (-1))]) (P := (fun v9 => ((0 : Nat), v9) :: [])) (tg := 0) (My := M_Nb_mustStands) (mRunV (as := [(2, x2), (2, x4), (0, (-1))]) (st := []) d_Nb_musts_46 (mc_Nb_mustStands (by decide)) rfl (mv_Nb_mustStands tb_ml_Nb_306) rfl (Nat.le_of_ble_eq_true rfl) ha) (fun v => rfl) rfl hr (fun r1 h1 => t_Nb_mustStands _ _ _ _ _ _ h1) (fun x8 h7 hr => ?_)
    exact j_iret (pc := 49) d_Nb_musts_49 rfl hr
theorem t_Nb_musts {G : mG} (h : mH) (v0 v1 : Int) (r : mR) (hr : f_Nb_musts h v0 v1 = some r) : mJM G M_Nb_musts [(2, v0), (0, v1)] h r := by
  refine mJM_of (L := [(2, v0), (0, v1)]) rfl rfl rfl (Nat.le_of_ble_eq_true rfl) ?_
  unfold f_Nb_musts at hr
  refine j_aload_n (pc := 0) d_Nb_musts_0 rfl ?_
  obtain ⟨ha, hr⟩ := chk_some hr
  refine j_callG (pc := 1) (stk := [(2, v0)]) (as := [(2, v0)]) (P := (fun v9 => [])) (tg := 3) (My := M_Nb_needGraph) (mRunV (as := []) (st := []) d_Nb_musts_1 (mc_Nb_needGraph (by decide)) rfl (mv_Nb_needGraph tb_ml_Nb_260) rfl (Nat.le_of_ble_eq_true rfl) ha) (fun v => rfl) rfl hr (fun r1 h1 => t_Nb_needGraph _ _ _ h1) (fun x2 h1 hr => ?_)
  refine j_iload_n (pc := 4) d_Nb_musts_4 rfl ?_
  refine j_if_eq (pc := 5) (tgt := 25) d_Nb_musts_5 hr (fun hr => ?_) (fun hr => ?_)
  · exact mJ_weak (ls' := [(2, v0), (0, v1)]) (mwk_s (mwk_s mwk_n)) (t_Nb_musts_J25  hr)
  · refine j_iload_n (pc := 8) d_Nb_musts_8 rfl ?_
    refine j_bipush (pc := 9) d_Nb_musts_9 ?_
    refine j_icmp_ge (pc := 11) (tgt := 25) d_Nb_musts_11 hr (fun hr => ?_) (fun hr => ?_)
    · exact mJ_weak (ls' := [(2, v0), (0, v1)]) (mwk_s (mwk_s mwk_n)) (t_Nb_musts_J25  hr)
    · exact j_throwW (pc := 14) (x9 := 7) (text := "what is 0, or 10 and more") (k := 24) d_Nb_musts_14 d_Nb_musts_17 d_Nb_musts_18 d_Nb_musts_21 d_Nb_musts_24 rfl (by decide +kernel) tb_cl_Nb_109 tb_in_java_lang_IllegalArgumentException (by decide +kernel) rfl (Nat.le_of_ble_eq_true rfl) hr
def M_Nb_needHalves : mM := ("NineBars", ⟨"NineBars", "needHalves", "(II)V"⟩, prog_1_method_55_code, 2, none, [], 1)
theorem tb_co_Nb_needHalves : mTB (Cond.code ⟨"NineBars", "needHalves", "(II)V"⟩ prog_1_method_55_code 2 (none)) := tbq5 145 (by decide +kernel) rfl
theorem mc_Nb_needHalves {M : mM} (hd : 1 < mDp M) : mCal M M_Nb_needHalves 2 := ⟨tb_co_Nb_needHalves, tb_in_NineBars, ⟨by decide +kernel, by decide +kernel⟩, by decide +kernel, hd, by decide⟩
theorem d_Nb_needHalves_0 : decode prog_1_method_55_code 0 = .ok (.iload_n 0, 1) := by decide +kernel
theorem d_Nb_needHalves_1 : decode prog_1_method_55_code 1 = .ok (.iconst 1, 1) := by decide +kernel
theorem d_Nb_needHalves_2 : decode prog_1_method_55_code 2 = .ok (.if_icmp .lt 19, 3) := by decide +kernel
theorem d_Nb_needHalves_21 : decode prog_1_method_55_code 21 = .ok (.new 109, 3) := by decide +kernel
theorem d_Nb_needHalves_24 : decode prog_1_method_55_code 24 = .ok (.dup, 1) := by decide +kernel
theorem d_Nb_needHalves_25 : decode prog_1_method_55_code 25 = .ok (.ldc_w 452, 3) := by decide +kernel
theorem d_Nb_needHalves_28 : decode prog_1_method_55_code 28 = .ok (.invokespecial 113, 3) := by decide +kernel
theorem d_Nb_needHalves_31 : decode prog_1_method_55_code 31 = .ok (.athrow, 1) := by decide +kernel
theorem d_Nb_needHalves_5 : decode prog_1_method_55_code 5 = .ok (.iload_n 0, 1) := by decide +kernel
theorem d_Nb_needHalves_6 : decode prog_1_method_55_code 6 = .ok (.bipush 30, 2) := by decide +kernel
theorem d_Nb_needHalves_8 : decode prog_1_method_55_code 8 = .ok (.if_icmp .gt 13, 3) := by decide +kernel
theorem d_Nb_needHalves_11 : decode prog_1_method_55_code 11 = .ok (.iload_n 1, 1) := by decide +kernel
theorem d_Nb_needHalves_12 : decode prog_1_method_55_code 12 = .ok (.ifCond .lt 9, 3) := by decide +kernel
theorem d_Nb_needHalves_15 : decode prog_1_method_55_code 15 = .ok (.iload_n 1, 1) := by decide +kernel
theorem d_Nb_needHalves_16 : decode prog_1_method_55_code 16 = .ok (.iload_n 0, 1) := by decide +kernel
theorem d_Nb_needHalves_17 : decode prog_1_method_55_code 17 = .ok (.ishr, 1) := by decide +kernel
theorem d_Nb_needHalves_18 : decode prog_1_method_55_code 18 = .ok (.ifCond .eq 14, 3) := by decide +kernel
theorem d_Nb_needHalves_32 : decode prog_1_method_55_code 32 = .ok (.return_, 1) := by decide +kernel
theorem t_Nb_needHalves {G : mG} (h : mH) (v0 v1 : Int) (r : mR) (hr : f_Nb_needHalves h v0 v1 = some r) : mJM G M_Nb_needHalves [(0, v0), (0, v1)] h r := by
  refine mJM_of (L := [(0, v0), (0, v1)]) rfl rfl rfl (Nat.le_of_ble_eq_true rfl) ?_
  unfold f_Nb_needHalves at hr
  refine j_iload_n (pc := 0) d_Nb_needHalves_0 rfl ?_
  refine j_iconst (pc := 1) d_Nb_needHalves_1 ?_
  refine j_icmp_lt (pc := 2) (tgt := 21) d_Nb_needHalves_2 hr (fun hr => ?_) (fun hr => ?_)
  · exact j_throwW (pc := 21) (x9 := 7) (text := "n is 1 to 30, bits are of n") (k := 25) d_Nb_needHalves_21 d_Nb_needHalves_24 d_Nb_needHalves_25 d_Nb_needHalves_28 d_Nb_needHalves_31 rfl (by decide +kernel) tb_cl_Nb_109 tb_in_java_lang_IllegalArgumentException (by decide +kernel) rfl (Nat.le_of_ble_eq_true rfl) hr
  · refine j_iload_n (pc := 5) d_Nb_needHalves_5 rfl ?_
    refine j_bipush (pc := 6) d_Nb_needHalves_6 ?_
    refine j_icmp_gt (pc := 8) (tgt := 21) d_Nb_needHalves_8 hr (fun hr => ?_) (fun hr => ?_)
    · exact j_throwW (pc := 21) (x9 := 7) (text := "n is 1 to 30, bits are of n") (k := 25) d_Nb_needHalves_21 d_Nb_needHalves_24 d_Nb_needHalves_25 d_Nb_needHalves_28 d_Nb_needHalves_31 rfl (by decide +kernel) tb_cl_Nb_109 tb_in_java_lang_IllegalArgumentException (by decide +kernel) rfl (Nat.le_of_ble_eq_true rfl) hr
    · refine j_iload_n (pc := 11) d_Nb_needHalves_11 rfl ?_
      refine j_if_lt (pc := 12) (tgt := 21) d_Nb_needHalves_12 hr (fun hr => ?_) (fun hr => ?_)
      · exact j_throwW (pc := 21) (x9 := 7) (text := "n is 1 to 30, bits are of n") (k := 25) d_Nb_needHalves_21 d_Nb_needHalves_24 d_Nb_needHalves_25 d_Nb_needHalves_28 d_Nb_needHalves_31 rfl (by decide +kernel) tb_cl_Nb_109 tb_in_java_lang_IllegalArgumentException (by decide +kernel) rfl (Nat.le_of_ble_eq_true rfl) hr
      · refine j_iload_n (pc := 15) d_Nb_needHalves_15 rfl ?_
        refine j_iload_n (pc := 16) d_Nb_needHalves_16 rfl ?_
        refine j_ishr (pc := 17) d_Nb_needHalves_17 ?_
        refine j_if_eq (pc := 18) (tgt := 32) d_Nb_needHalves_18 hr (fun hr => ?_) (fun hr => ?_)
        · exact j_vret (pc := 32) d_Nb_needHalves_32 rfl hr
        · exact j_throwW (pc := 21) (x9 := 7) (text := "n is 1 to 30, bits are of n") (k := 25) d_Nb_needHalves_21 d_Nb_needHalves_24 d_Nb_needHalves_25 d_Nb_needHalves_28 d_Nb_needHalves_31 rfl (by decide +kernel) tb_cl_Nb_109 tb_in_java_lang_IllegalArgumentException (by decide +kernel) rfl (Nat.le_of_ble_eq_true rfl) hr
def M_Nb_stepsToNought : mM := ("NineBars", ⟨"NineBars", "stepsToNought", "(I)I"⟩, prog_1_method_59_code, 3, some .int, [], 1)
theorem tb_co_Nb_stepsToNought : mTB (Cond.code ⟨"NineBars", "stepsToNought", "(I)I"⟩ prog_1_method_59_code 3 (some .int)) := tbq5 149 (by decide +kernel) rfl
theorem mc_Nb_stepsToNought {M : mM} (hd : 1 < mDp M) : mCal M M_Nb_stepsToNought 1 := ⟨tb_co_Nb_stepsToNought, tb_in_NineBars, ⟨by decide +kernel, by decide +kernel⟩, by decide +kernel, hd, by decide⟩
theorem d_Nb_stepsToNought_0 : decode prog_1_method_59_code 0 = .ok (.iload_n 0, 1) := by decide +kernel
theorem d_Nb_stepsToNought_1 : decode prog_1_method_59_code 1 = .ok (.istore_n 1, 1) := by decide +kernel
theorem d_Nb_stepsToNought_2 : decode prog_1_method_59_code 2 = .ok (.bipush 16, 2) := by decide +kernel
theorem d_Nb_stepsToNought_4 : decode prog_1_method_59_code 4 = .ok (.istore_n 2, 1) := by decide +kernel
theorem d_Nb_stepsToNought_5 : decode prog_1_method_59_code 5 = .ok (.iload_n 2, 1) := by decide +kernel
theorem d_Nb_stepsToNought_6 : decode prog_1_method_59_code 6 = .ok (.ifCond .le 16, 3) := by decide +kernel
theorem d_Nb_stepsToNought_22 : decode prog_1_method_59_code 22 = .ok (.iload_n 1, 1) := by decide +kernel
theorem d_Nb_stepsToNought_23 : decode prog_1_method_59_code 23 = .ok (.ireturn, 1) := by decide +kernel
theorem d_Nb_stepsToNought_9 : decode prog_1_method_59_code 9 = .ok (.iload_n 1, 1) := by decide +kernel
theorem d_Nb_stepsToNought_10 : decode prog_1_method_59_code 10 = .ok (.iload_n 1, 1) := by decide +kernel
theorem d_Nb_stepsToNought_11 : decode prog_1_method_59_code 11 = .ok (.iload_n 2, 1) := by decide +kernel
theorem d_Nb_stepsToNought_12 : decode prog_1_method_59_code 12 = .ok (.iushr, 1) := by decide +kernel
theorem d_Nb_stepsToNought_13 : decode prog_1_method_59_code 13 = .ok (.ixor, 1) := by decide +kernel
theorem d_Nb_stepsToNought_14 : decode prog_1_method_59_code 14 = .ok (.istore_n 1, 1) := by decide +kernel
theorem d_Nb_stepsToNought_15 : decode prog_1_method_59_code 15 = .ok (.iload_n 2, 1) := by decide +kernel
theorem d_Nb_stepsToNought_16 : decode prog_1_method_59_code 16 = .ok (.iconst 1, 1) := by decide +kernel
theorem d_Nb_stepsToNought_17 : decode prog_1_method_59_code 17 = .ok (.ishr, 1) := by decide +kernel
theorem d_Nb_stepsToNought_18 : decode prog_1_method_59_code 18 = .ok (.istore_n 2, 1) := by decide +kernel
theorem d_Nb_stepsToNought_19 : decode prog_1_method_59_code 19 = .ok (.goto (-14), 3) := by decide +kernel
theorem t_Nb_stepsToNought_L5 {G : mG} {r : mR}  : ∀ (n : Nat) (h : mH) (v1 v2 : Int), f_Nb_stepsToNought_L5 n h v1 v2 = some r → mJ G M_Nb_stepsToNought 5 [(9, 0), (0, v1), (0, v2)] [] h r := by
  intro n
  induction n with
  | zero =>
    intro h v1 v2 hr
    rw [f_Nb_stepsToNought_L5] at hr
    cases hr
  | succ n hR5 =>
    intro h v1 v2 hr
    rw [f_Nb_stepsToNought_L5] at hr
    refine j_iload_n (pc := 5) d_Nb_stepsToNought_5 rfl ?_
    refine j_if_le (pc := 6) (tgt := 22) d_Nb_stepsToNought_6 hr (fun hr => ?_) (fun hr => ?_)
    · refine j_iload_n (pc := 22) d_Nb_stepsToNought_22 rfl ?_
      exact j_iret (pc := 23) d_Nb_stepsToNought_23 rfl hr
    · refine j_iload_n (pc := 9) d_Nb_stepsToNought_9 rfl ?_
      refine j_iload_n (pc := 10) d_Nb_stepsToNought_10 rfl ?_
      refine j_iload_n (pc := 11) d_Nb_stepsToNought_11 rfl ?_
      refine j_iushr (pc := 12) d_Nb_stepsToNought_12 ?_
      refine j_ixor (pc := 13) d_Nb_stepsToNought_13 ?_
      refine j_istoreW_n (pc := 14) (L := fun x1 => [(9, 0), (0, x1), (0, v2)]) d_Nb_stepsToNought_14 (fun _ => rfl) hr (fun x1 hr => ?_)
      refine j_iload_n (pc := 15) d_Nb_stepsToNought_15 rfl ?_
      refine j_iconst (pc := 16) d_Nb_stepsToNought_16 ?_
      refine j_ishr (pc := 17) d_Nb_stepsToNought_17 ?_
      refine j_istoreW_n (pc := 18) (L := fun x2 => [(9, 0), (0, x1), (0, x2)]) d_Nb_stepsToNought_18 (fun _ => rfl) hr (fun x2 hr => ?_)
      refine j_goto (pc := 19) (tgt := 5) d_Nb_stepsToNought_19 ?_
      exact mJ_weak (ls' := [(9, 0), (0, x1), (0, x2)]) (mwk_s (mwk_s (mwk_s mwk_n))) (hR5 h _ _ hr)
theorem t_Nb_stepsToNought {G : mG} (h : mH) (v0 : Int) (r : mR) (hr : f_Nb_stepsToNought h v0 = some r) : mJM G M_Nb_stepsToNought [(0, v0)] h r := by
  refine mJM_of (L := [(0, v0), (9, 0), (9, 0)]) rfl rfl rfl (Nat.le_of_ble_eq_true rfl) ?_
  unfold f_Nb_stepsToNought at hr
  refine j_iload_n (pc := 0) d_Nb_stepsToNought_0 rfl ?_
  refine j_istore_n (pc := 1) (ls' := [(0, v0), (0, v0), (9, 0)]) d_Nb_stepsToNought_1 rfl ?_
  refine j_bipush (pc := 2) d_Nb_stepsToNought_2 ?_
  refine j_istore_n (pc := 4) (ls' := [(0, v0), (0, v0), (0, 16)]) d_Nb_stepsToNought_4 rfl ?_
  refine mJ_weak (ls' := [(9, 0), (0, v0), (0, 16)]) (mwk_d (mwk_s (mwk_s mwk_n))) (t_Nb_stepsToNought_L5  _ _ _ _ hr)
def M_Nb_halves : mM := ("NineBars", ⟨"NineBars", "halves", "(II)I"⟩, prog_1_method_28_code, 3, some .int, [], 3)
theorem tb_co_Nb_halves : mTB (Cond.code ⟨"NineBars", "halves", "(II)I"⟩ prog_1_method_28_code 3 (some .int)) := tbq5 142 (by decide +kernel) rfl
theorem mc_Nb_halves {M : mM} (hd : 3 < mDp M) : mCal M M_Nb_halves 2 := ⟨tb_co_Nb_halves, tb_in_NineBars, ⟨by decide +kernel, by decide +kernel⟩, by decide +kernel, hd, by decide⟩
theorem d_Nb_halves_0 : decode prog_1_method_28_code 0 = .ok (.iload_n 1, 1) := by decide +kernel
theorem d_Nb_halves_1 : decode prog_1_method_28_code 1 = .ok (.iload_n 2, 1) := by decide +kernel
theorem d_Nb_halves_2 : decode prog_1_method_28_code 2 = .ok (.invokestatic 310, 3) := by decide +kernel
theorem tb_ml_Nb_310 : mTB (Cond.methodLink "NineBars" 310 ⟨"NineBars", "needHalves", "(II)V"⟩) := tbq5 143 (by decide +kernel) rfl
theorem tb_sm_Nb_needHalves : mTB (Cond.static ⟨"NineBars", "needHalves", "(II)V"⟩) := tbq5 144 (by decide +kernel) rfl
theorem d_Nb_halves_5 : decode prog_1_method_28_code 5 = .ok (.iload_n 2, 1) := by decide +kernel
theorem d_Nb_halves_6 : decode prog_1_method_28_code 6 = .ok (.invokestatic 314, 3) := by decide +kernel
theorem tb_ml_Nb_314 : mTB (Cond.methodLink "NineBars" 314 ⟨"NineBars", "stepsToNought", "(I)I"⟩) := tbq5 147 (by decide +kernel) rfl
theorem tb_sm_Nb_stepsToNought : mTB (Cond.static ⟨"NineBars", "stepsToNought", "(I)I"⟩) := tbq5 148 (by decide +kernel) rfl
theorem d_Nb_halves_9 : decode prog_1_method_28_code 9 = .ok (.ireturn, 1) := by decide +kernel
theorem t_Nb_halves {G : mG} (h : mH) (v0 v1 v2 : Int) (r : mR) (hr : f_Nb_halves h v0 v1 v2 = some r) : mJM G M_Nb_halves [(2, v0), (0, v1), (0, v2)] h r := by
  refine mJM_of (L := [(2, v0), (0, v1), (0, v2)]) rfl rfl rfl (Nat.le_of_ble_eq_true rfl) ?_
  unfold f_Nb_halves at hr
  refine j_iload_n (pc := 0) d_Nb_halves_0 rfl ?_
  refine j_iload_n (pc := 1) d_Nb_halves_1 rfl ?_
  refine j_callG (pc := 2) (stk := [(0, v2), (0, v1)]) (as := [(0, v1), (0, v2)]) (P := (fun v9 => [])) (tg := 3) (My := M_Nb_needHalves) (mRunS (as := [(0, v1), (0, v2)]) (st := []) d_Nb_halves_2 (mc_Nb_needHalves (by decide)) rfl ⟨tb_ml_Nb_310, tb_sm_Nb_needHalves⟩ rfl (Nat.le_of_ble_eq_true rfl)) (fun v => rfl) rfl hr (fun r1 h1 => t_Nb_needHalves _ _ _ _ h1) (fun x2 h1 hr => ?_)
  refine j_iload_n (pc := 5) d_Nb_halves_5 rfl ?_
  refine j_callG (pc := 6) (stk := [(0, v2)]) (as := [(0, v2)]) (P := (fun v9 => ((0 : Nat), v9) :: [])) (tg := 0) (My := M_Nb_stepsToNought) (mRunS (as := [(0, v2)]) (st := []) d_Nb_halves_6 (mc_Nb_stepsToNought (by decide)) rfl ⟨tb_ml_Nb_314, tb_sm_Nb_stepsToNought⟩ rfl (Nat.le_of_ble_eq_true rfl)) (fun v => rfl) rfl hr (fun r1 h1 => t_Nb_stepsToNought _ _ _ h1) (fun x4 h3 hr => ?_)
  exact j_iret (pc := 9) d_Nb_halves_9 rfl hr
def M_Ig_numberOfTrailingZeros : mM := ("java/lang/Integer", ⟨"java/lang/Integer", "numberOfTrailingZeros", "(I)I"⟩, prog_21_method_48_code, 2, some .int, [], 1)
theorem tb_co_Ig_numberOfTrailingZeros : mTB (Cond.code ⟨"java/lang/Integer", "numberOfTrailingZeros", "(I)I"⟩ prog_21_method_48_code 2 (some .int)) := tbq5 159 (by decide +kernel) rfl
theorem tb_in_java_lang_Integer : mTB (Cond.initialized "java/lang/Integer") := tbq1 25 (by decide +kernel) rfl
theorem mc_Ig_numberOfTrailingZeros {M : mM} (hd : 1 < mDp M) : mCal M M_Ig_numberOfTrailingZeros 1 := ⟨tb_co_Ig_numberOfTrailingZeros, tb_in_java_lang_Integer, ⟨by decide +kernel, by decide +kernel⟩, by decide +kernel, hd, by decide⟩
theorem d_Ig_numberOfTrailingZeros_0 : decode prog_21_method_48_code 0 = .ok (.iload_n 0, 1) := by decide +kernel
theorem d_Ig_numberOfTrailingZeros_1 : decode prog_21_method_48_code 1 = .ok (.iconst (-1), 1) := by decide +kernel
theorem d_Ig_numberOfTrailingZeros_2 : decode prog_21_method_48_code 2 = .ok (.ixor, 1) := by decide +kernel
theorem d_Ig_numberOfTrailingZeros_3 : decode prog_21_method_48_code 3 = .ok (.iload_n 0, 1) := by decide +kernel
theorem d_Ig_numberOfTrailingZeros_4 : decode prog_21_method_48_code 4 = .ok (.iconst 1, 1) := by decide +kernel
theorem d_Ig_numberOfTrailingZeros_5 : decode prog_21_method_48_code 5 = .ok (.isub, 1) := by decide +kernel
theorem d_Ig_numberOfTrailingZeros_6 : decode prog_21_method_48_code 6 = .ok (.iand, 1) := by decide +kernel
theorem d_Ig_numberOfTrailingZeros_7 : decode prog_21_method_48_code 7 = .ok (.istore_n 0, 1) := by decide +kernel
theorem d_Ig_numberOfTrailingZeros_8 : decode prog_21_method_48_code 8 = .ok (.iload_n 0, 1) := by decide +kernel
theorem d_Ig_numberOfTrailingZeros_9 : decode prog_21_method_48_code 9 = .ok (.ifCond .gt 8, 3) := by decide +kernel
theorem d_Ig_numberOfTrailingZeros_17 : decode prog_21_method_48_code 17 = .ok (.iconst 1, 1) := by decide +kernel
theorem d_Ig_numberOfTrailingZeros_18 : decode prog_21_method_48_code 18 = .ok (.istore_n 1, 1) := by decide +kernel
theorem d_Ig_numberOfTrailingZeros_19 : decode prog_21_method_48_code 19 = .ok (.iload_n 0, 1) := by decide +kernel
theorem tb_ci_Ig_264 : mTB (Cond.constant "java/lang/Integer" 264 65536) := tbq5 160 (by decide +kernel) rfl
theorem d_Ig_numberOfTrailingZeros_20 : decode prog_21_method_48_code 20 = .ok (.ldc_w 264, 3) := by decide +kernel
theorem d_Ig_numberOfTrailingZeros_23 : decode prog_21_method_48_code 23 = .ok (.if_icmp .le 11, 3) := by decide +kernel
theorem d_Ig_numberOfTrailingZeros_34 : decode prog_21_method_48_code 34 = .ok (.iload_n 0, 1) := by decide +kernel
theorem d_Ig_numberOfTrailingZeros_35 : decode prog_21_method_48_code 35 = .ok (.sipush 256, 3) := by decide +kernel
theorem d_Ig_numberOfTrailingZeros_38 : decode prog_21_method_48_code 38 = .ok (.if_icmp .le 11, 3) := by decide +kernel
theorem d_Ig_numberOfTrailingZeros_49 : decode prog_21_method_48_code 49 = .ok (.iload_n 0, 1) := by decide +kernel
theorem d_Ig_numberOfTrailingZeros_50 : decode prog_21_method_48_code 50 = .ok (.bipush 16, 2) := by decide +kernel
theorem d_Ig_numberOfTrailingZeros_52 : decode prog_21_method_48_code 52 = .ok (.if_icmp .le 10, 3) := by decide +kernel
theorem d_Ig_numberOfTrailingZeros_62 : decode prog_21_method_48_code 62 = .ok (.iload_n 0, 1) := by decide +kernel
theorem d_Ig_numberOfTrailingZeros_63 : decode prog_21_method_48_code 63 = .ok (.iconst 4, 1) := by decide +kernel
theorem d_Ig_numberOfTrailingZeros_64 : decode prog_21_method_48_code 64 = .ok (.if_icmp .le 10, 3) := by decide +kernel
theorem d_Ig_numberOfTrailingZeros_74 : decode prog_21_method_48_code 74 = .ok (.iload_n 1, 1) := by decide +kernel
theorem d_Ig_numberOfTrailingZeros_75 : decode prog_21_method_48_code 75 = .ok (.iload_n 0, 1) := by decide +kernel
theorem d_Ig_numberOfTrailingZeros_76 : decode prog_21_method_48_code 76 = .ok (.iconst 1, 1) := by decide +kernel
theorem d_Ig_numberOfTrailingZeros_77 : decode prog_21_method_48_code 77 = .ok (.iushr, 1) := by decide +kernel
theorem d_Ig_numberOfTrailingZeros_78 : decode prog_21_method_48_code 78 = .ok (.iadd, 1) := by decide +kernel
theorem d_Ig_numberOfTrailingZeros_79 : decode prog_21_method_48_code 79 = .ok (.ireturn, 1) := by decide +kernel
theorem d_Ig_numberOfTrailingZeros_67 : decode prog_21_method_48_code 67 = .ok (.iinc 1 2, 3) := by decide +kernel
theorem d_Ig_numberOfTrailingZeros_70 : decode prog_21_method_48_code 70 = .ok (.iload_n 0, 1) := by decide +kernel
theorem d_Ig_numberOfTrailingZeros_71 : decode prog_21_method_48_code 71 = .ok (.iconst 2, 1) := by decide +kernel
theorem d_Ig_numberOfTrailingZeros_72 : decode prog_21_method_48_code 72 = .ok (.iushr, 1) := by decide +kernel
theorem d_Ig_numberOfTrailingZeros_73 : decode prog_21_method_48_code 73 = .ok (.istore_n 0, 1) := by decide +kernel
theorem d_Ig_numberOfTrailingZeros_55 : decode prog_21_method_48_code 55 = .ok (.iinc 1 4, 3) := by decide +kernel
theorem d_Ig_numberOfTrailingZeros_58 : decode prog_21_method_48_code 58 = .ok (.iload_n 0, 1) := by decide +kernel
theorem d_Ig_numberOfTrailingZeros_59 : decode prog_21_method_48_code 59 = .ok (.iconst 4, 1) := by decide +kernel
theorem d_Ig_numberOfTrailingZeros_60 : decode prog_21_method_48_code 60 = .ok (.iushr, 1) := by decide +kernel
theorem d_Ig_numberOfTrailingZeros_61 : decode prog_21_method_48_code 61 = .ok (.istore_n 0, 1) := by decide +kernel
theorem d_Ig_numberOfTrailingZeros_41 : decode prog_21_method_48_code 41 = .ok (.iinc 1 8, 3) := by decide +kernel
theorem d_Ig_numberOfTrailingZeros_44 : decode prog_21_method_48_code 44 = .ok (.iload_n 0, 1) := by decide +kernel
theorem d_Ig_numberOfTrailingZeros_45 : decode prog_21_method_48_code 45 = .ok (.bipush 8, 2) := by decide +kernel
theorem d_Ig_numberOfTrailingZeros_47 : decode prog_21_method_48_code 47 = .ok (.iushr, 1) := by decide +kernel
theorem d_Ig_numberOfTrailingZeros_48 : decode prog_21_method_48_code 48 = .ok (.istore_n 0, 1) := by decide +kernel
theorem d_Ig_numberOfTrailingZeros_26 : decode prog_21_method_48_code 26 = .ok (.iinc 1 16, 3) := by decide +kernel
theorem d_Ig_numberOfTrailingZeros_29 : decode prog_21_method_48_code 29 = .ok (.iload_n 0, 1) := by decide +kernel
theorem d_Ig_numberOfTrailingZeros_30 : decode prog_21_method_48_code 30 = .ok (.bipush 16, 2) := by decide +kernel
theorem d_Ig_numberOfTrailingZeros_32 : decode prog_21_method_48_code 32 = .ok (.iushr, 1) := by decide +kernel
theorem d_Ig_numberOfTrailingZeros_33 : decode prog_21_method_48_code 33 = .ok (.istore_n 0, 1) := by decide +kernel
theorem d_Ig_numberOfTrailingZeros_12 : decode prog_21_method_48_code 12 = .ok (.iload_n 0, 1) := by decide +kernel
theorem d_Ig_numberOfTrailingZeros_13 : decode prog_21_method_48_code 13 = .ok (.bipush 32, 2) := by decide +kernel
theorem d_Ig_numberOfTrailingZeros_15 : decode prog_21_method_48_code 15 = .ok (.iand, 1) := by decide +kernel
theorem d_Ig_numberOfTrailingZeros_16 : decode prog_21_method_48_code 16 = .ok (.ireturn, 1) := by decide +kernel
theorem t_Ig_numberOfTrailingZeros_J74 {G : mG} {r : mR} {v0 v1 : Int} {h : mH}  (hr : f_Ig_numberOfTrailingZeros_J74 v0 v1 h = some r) : mJ G M_Ig_numberOfTrailingZeros 74 [(0, v0), (0, v1)] [] h r := by
  unfold f_Ig_numberOfTrailingZeros_J74 at hr
  refine j_iload_n (pc := 74) d_Ig_numberOfTrailingZeros_74 rfl ?_
  refine j_iload_n (pc := 75) d_Ig_numberOfTrailingZeros_75 rfl ?_
  refine j_iconst (pc := 76) d_Ig_numberOfTrailingZeros_76 ?_
  refine j_iushr (pc := 77) d_Ig_numberOfTrailingZeros_77 ?_
  refine j_iadd (pc := 78) d_Ig_numberOfTrailingZeros_78 ?_
  exact j_iret (pc := 79) d_Ig_numberOfTrailingZeros_79 rfl hr
theorem t_Ig_numberOfTrailingZeros_J62 {G : mG} {r : mR} {v0 v1 : Int} {h : mH}  (hr : f_Ig_numberOfTrailingZeros_J62 v0 v1 h = some r) : mJ G M_Ig_numberOfTrailingZeros 62 [(0, v0), (0, v1)] [] h r := by
  unfold f_Ig_numberOfTrailingZeros_J62 at hr
  refine j_iload_n (pc := 62) d_Ig_numberOfTrailingZeros_62 rfl ?_
  refine j_iconst (pc := 63) d_Ig_numberOfTrailingZeros_63 ?_
  refine j_icmp_le (pc := 64) (tgt := 74) d_Ig_numberOfTrailingZeros_64 hr (fun hr => ?_) (fun hr => ?_)
  · exact mJ_weak (ls' := [(0, v0), (0, v1)]) (mwk_s (mwk_s mwk_n)) (t_Ig_numberOfTrailingZeros_J74  hr)
  · refine j_iincW (pc := 67) (L := fun x1 => [(0, v0), (0, x1)]) d_Ig_numberOfTrailingZeros_67 rfl (fun _ => rfl) hr (fun x1 hr => ?_)
    refine j_iload_n (pc := 70) d_Ig_numberOfTrailingZeros_70 rfl ?_
    refine j_iconst (pc := 71) d_Ig_numberOfTrailingZeros_71 ?_
    refine j_iushr (pc := 72) d_Ig_numberOfTrailingZeros_72 ?_
    refine j_istoreW_n (pc := 73) (L := fun x2 => [(0, x2), (0, x1)]) d_Ig_numberOfTrailingZeros_73 (fun _ => rfl) hr (fun x2 hr => ?_)
    exact mJ_weak (ls' := [(0, x2), (0, x1)]) (mwk_s (mwk_s mwk_n)) (t_Ig_numberOfTrailingZeros_J74  hr)
theorem t_Ig_numberOfTrailingZeros_J49 {G : mG} {r : mR} {v0 v1 : Int} {h : mH}  (hr : f_Ig_numberOfTrailingZeros_J49 v0 v1 h = some r) : mJ G M_Ig_numberOfTrailingZeros 49 [(0, v0), (0, v1)] [] h r := by
  unfold f_Ig_numberOfTrailingZeros_J49 at hr
  refine j_iload_n (pc := 49) d_Ig_numberOfTrailingZeros_49 rfl ?_
  refine j_bipush (pc := 50) d_Ig_numberOfTrailingZeros_50 ?_
  refine j_icmp_le (pc := 52) (tgt := 62) d_Ig_numberOfTrailingZeros_52 hr (fun hr => ?_) (fun hr => ?_)
  · exact mJ_weak (ls' := [(0, v0), (0, v1)]) (mwk_s (mwk_s mwk_n)) (t_Ig_numberOfTrailingZeros_J62  hr)
  · refine j_iincW (pc := 55) (L := fun x1 => [(0, v0), (0, x1)]) d_Ig_numberOfTrailingZeros_55 rfl (fun _ => rfl) hr (fun x1 hr => ?_)
    refine j_iload_n (pc := 58) d_Ig_numberOfTrailingZeros_58 rfl ?_
    refine j_iconst (pc := 59) d_Ig_numberOfTrailingZeros_59 ?_
    refine j_iushr (pc := 60) d_Ig_numberOfTrailingZeros_60 ?_
    refine j_istoreW_n (pc := 61) (L := fun x2 => [(0, x2), (0, x1)]) d_Ig_numberOfTrailingZeros_61 (fun _ => rfl) hr (fun x2 hr => ?_)
    exact mJ_weak (ls' := [(0, x2), (0, x1)]) (mwk_s (mwk_s mwk_n)) (t_Ig_numberOfTrailingZeros_J62  hr)
theorem t_Ig_numberOfTrailingZeros_J34 {G : mG} {r : mR} {v0 v1 : Int} {h : mH}  (hr : f_Ig_numberOfTrailingZeros_J34 v0 v1 h = some r) : mJ G M_Ig_numberOfTrailingZeros 34 [(0, v0), (0, v1)] [] h r := by
  unfold f_Ig_numberOfTrailingZeros_J34 at hr
  refine j_iload_n (pc := 34) d_Ig_numberOfTrailingZeros_34 rfl ?_
  refine j_sipush (pc := 35) d_Ig_numberOfTrailingZeros_35 ?_
  refine j_icmp_le (pc := 38) (tgt := 49) d_Ig_numberOfTrailingZeros_38 hr (fun hr => ?_) (fun hr => ?_)
  · exact mJ_weak (ls' := [(0, v0), (0, v1)]) (mwk_s (mwk_s mwk_n)) (t_Ig_numberOfTrailingZeros_J49  hr)
  · refine j_iincW (pc := 41) (L := fun x1 => [(0, v0), (0, x1)]) d_Ig_numberOfTrailingZeros_41 rfl (fun _ => rfl) hr (fun x1 hr => ?_)
    refine j_iload_n (pc := 44) d_Ig_numberOfTrailingZeros_44 rfl ?_
    refine j_bipush (pc := 45) d_Ig_numberOfTrailingZeros_45 ?_
    refine j_iushr (pc := 47) d_Ig_numberOfTrailingZeros_47 ?_
    refine j_istoreW_n (pc := 48) (L := fun x2 => [(0, x2), (0, x1)]) d_Ig_numberOfTrailingZeros_48 (fun _ => rfl) hr (fun x2 hr => ?_)
    exact mJ_weak (ls' := [(0, x2), (0, x1)]) (mwk_s (mwk_s mwk_n)) (t_Ig_numberOfTrailingZeros_J49  hr)
theorem t_Ig_numberOfTrailingZeros {G : mG} (h : mH) (v0 : Int) (r : mR) (hr : f_Ig_numberOfTrailingZeros h v0 = some r) : mJM G M_Ig_numberOfTrailingZeros [(0, v0)] h r := by
  refine mJM_of (L := [(0, v0), (9, 0)]) rfl rfl rfl (Nat.le_of_ble_eq_true rfl) ?_
  unfold f_Ig_numberOfTrailingZeros at hr
  refine j_iload_n (pc := 0) d_Ig_numberOfTrailingZeros_0 rfl ?_
  refine j_iconst (pc := 1) d_Ig_numberOfTrailingZeros_1 ?_
  refine j_ixor (pc := 2) d_Ig_numberOfTrailingZeros_2 ?_
  refine j_iload_n (pc := 3) d_Ig_numberOfTrailingZeros_3 rfl ?_
  refine j_iconst (pc := 4) d_Ig_numberOfTrailingZeros_4 ?_
  refine j_isub (pc := 5) d_Ig_numberOfTrailingZeros_5 ?_
  refine j_iand (pc := 6) d_Ig_numberOfTrailingZeros_6 ?_
  refine j_istoreW_n (pc := 7) (L := fun x1 => [(0, x1), (9, 0)]) d_Ig_numberOfTrailingZeros_7 (fun _ => rfl) hr (fun x1 hr => ?_)
  refine j_iload_n (pc := 8) d_Ig_numberOfTrailingZeros_8 rfl ?_
  refine j_if_gt (pc := 9) (tgt := 17) d_Ig_numberOfTrailingZeros_9 hr (fun hr => ?_) (fun hr => ?_)
  · refine j_iconst (pc := 17) d_Ig_numberOfTrailingZeros_17 ?_
    refine j_istore_n (pc := 18) (ls' := [(0, x1), (0, 1)]) d_Ig_numberOfTrailingZeros_18 rfl ?_
    refine j_iload_n (pc := 19) d_Ig_numberOfTrailingZeros_19 rfl ?_
    refine j_ldcw (pc := 20) (z := 65536) d_Ig_numberOfTrailingZeros_20 tb_ci_Ig_264 rfl ?_
    refine j_icmp_le (pc := 23) (tgt := 34) d_Ig_numberOfTrailingZeros_23 hr (fun hr => ?_) (fun hr => ?_)
    · exact mJ_weak (ls' := [(0, x1), (0, 1)]) (mwk_s (mwk_s mwk_n)) (t_Ig_numberOfTrailingZeros_J34  hr)
    · refine j_iincW (pc := 26) (L := fun x2 => [(0, x1), (0, x2)]) d_Ig_numberOfTrailingZeros_26 rfl (fun _ => rfl) hr (fun x2 hr => ?_)
      refine j_iload_n (pc := 29) d_Ig_numberOfTrailingZeros_29 rfl ?_
      refine j_bipush (pc := 30) d_Ig_numberOfTrailingZeros_30 ?_
      refine j_iushr (pc := 32) d_Ig_numberOfTrailingZeros_32 ?_
      refine j_istoreW_n (pc := 33) (L := fun x3 => [(0, x3), (0, x2)]) d_Ig_numberOfTrailingZeros_33 (fun _ => rfl) hr (fun x3 hr => ?_)
      exact mJ_weak (ls' := [(0, x3), (0, x2)]) (mwk_s (mwk_s mwk_n)) (t_Ig_numberOfTrailingZeros_J34  hr)
  · refine j_iload_n (pc := 12) d_Ig_numberOfTrailingZeros_12 rfl ?_
    refine j_bipush (pc := 13) d_Ig_numberOfTrailingZeros_13 ?_
    refine j_iand (pc := 15) d_Ig_numberOfTrailingZeros_15 ?_
    exact j_iret (pc := 16) d_Ig_numberOfTrailingZeros_16 rfl hr
def M_Nb_halvesFirst : mM := ("NineBars", ⟨"NineBars", "halvesFirst", "(II)I"⟩, prog_1_method_29_code, 3, some .int, [], 3)
theorem tb_co_Nb_halvesFirst : mTB (Cond.code ⟨"NineBars", "halvesFirst", "(II)I"⟩ prog_1_method_29_code 3 (some .int)) := tbq5 156 (by decide +kernel) rfl
theorem mc_Nb_halvesFirst {M : mM} (hd : 3 < mDp M) : mCal M M_Nb_halvesFirst 2 := ⟨tb_co_Nb_halvesFirst, tb_in_NineBars, ⟨by decide +kernel, by decide +kernel⟩, by decide +kernel, hd, by decide⟩
theorem d_Nb_halvesFirst_0 : decode prog_1_method_29_code 0 = .ok (.iload_n 1, 1) := by decide +kernel
theorem d_Nb_halvesFirst_1 : decode prog_1_method_29_code 1 = .ok (.iload_n 2, 1) := by decide +kernel
theorem d_Nb_halvesFirst_2 : decode prog_1_method_29_code 2 = .ok (.invokestatic 310, 3) := by decide +kernel
theorem d_Nb_halvesFirst_5 : decode prog_1_method_29_code 5 = .ok (.iload_n 2, 1) := by decide +kernel
theorem d_Nb_halvesFirst_6 : decode prog_1_method_29_code 6 = .ok (.ifCond .ne 7, 3) := by decide +kernel
theorem d_Nb_halvesFirst_13 : decode prog_1_method_29_code 13 = .ok (.iload_n 2, 1) := by decide +kernel
theorem d_Nb_halvesFirst_14 : decode prog_1_method_29_code 14 = .ok (.invokestatic 314, 3) := by decide +kernel
theorem d_Nb_halvesFirst_17 : decode prog_1_method_29_code 17 = .ok (.invokestatic 317, 3) := by decide +kernel
theorem tb_ml_Nb_317 : mTB (Cond.methodLink "NineBars" 317 ⟨"java/lang/Integer", "numberOfTrailingZeros", "(I)I"⟩) := tbq5 157 (by decide +kernel) rfl
theorem tb_sm_Ig_numberOfTrailingZeros : mTB (Cond.static ⟨"java/lang/Integer", "numberOfTrailingZeros", "(I)I"⟩) := tbq5 158 (by decide +kernel) rfl
theorem d_Nb_halvesFirst_20 : decode prog_1_method_29_code 20 = .ok (.ireturn, 1) := by decide +kernel
theorem d_Nb_halvesFirst_9 : decode prog_1_method_29_code 9 = .ok (.iconst (-1), 1) := by decide +kernel
theorem d_Nb_halvesFirst_10 : decode prog_1_method_29_code 10 = .ok (.goto 10, 3) := by decide +kernel
theorem t_Nb_halvesFirst {G : mG} (h : mH) (v0 v1 v2 : Int) (r : mR) (hr : f_Nb_halvesFirst h v0 v1 v2 = some r) : mJM G M_Nb_halvesFirst [(2, v0), (0, v1), (0, v2)] h r := by
  refine mJM_of (L := [(2, v0), (0, v1), (0, v2)]) rfl rfl rfl (Nat.le_of_ble_eq_true rfl) ?_
  unfold f_Nb_halvesFirst at hr
  refine j_iload_n (pc := 0) d_Nb_halvesFirst_0 rfl ?_
  refine j_iload_n (pc := 1) d_Nb_halvesFirst_1 rfl ?_
  refine j_callG (pc := 2) (stk := [(0, v2), (0, v1)]) (as := [(0, v1), (0, v2)]) (P := (fun v9 => [])) (tg := 3) (My := M_Nb_needHalves) (mRunS (as := [(0, v1), (0, v2)]) (st := []) d_Nb_halvesFirst_2 (mc_Nb_needHalves (by decide)) rfl ⟨tb_ml_Nb_310, tb_sm_Nb_needHalves⟩ rfl (Nat.le_of_ble_eq_true rfl)) (fun v => rfl) rfl hr (fun r1 h1 => t_Nb_needHalves _ _ _ _ h1) (fun x2 h1 hr => ?_)
  refine j_iload_n (pc := 5) d_Nb_halvesFirst_5 rfl ?_
  refine j_if_ne (pc := 6) (tgt := 13) d_Nb_halvesFirst_6 hr (fun hr => ?_) (fun hr => ?_)
  · refine j_iload_n (pc := 13) d_Nb_halvesFirst_13 rfl ?_
    refine j_callG (pc := 14) (stk := [(0, v2)]) (as := [(0, v2)]) (P := (fun v9 => ((0 : Nat), v9) :: [])) (tg := 0) (My := M_Nb_stepsToNought) (mRunS (as := [(0, v2)]) (st := []) d_Nb_halvesFirst_14 (mc_Nb_stepsToNought (by decide)) rfl ⟨tb_ml_Nb_314, tb_sm_Nb_stepsToNought⟩ rfl (Nat.le_of_ble_eq_true rfl)) (fun v => rfl) rfl hr (fun r1 h1 => t_Nb_stepsToNought _ _ _ h1) (fun x4 h3 hr => ?_)
    refine j_callG (pc := 17) (stk := [(0, x4)]) (as := [(0, x4)]) (P := (fun v9 => ((0 : Nat), v9) :: [])) (tg := 0) (My := M_Ig_numberOfTrailingZeros) (mRunS (as := [(0, x4)]) (st := []) d_Nb_halvesFirst_17 (mc_Ig_numberOfTrailingZeros (by decide)) rfl ⟨tb_ml_Nb_317, tb_sm_Ig_numberOfTrailingZeros⟩ rfl (Nat.le_of_ble_eq_true rfl)) (fun v => rfl) rfl hr (fun r1 h1 => t_Ig_numberOfTrailingZeros _ _ _ h1) (fun x6 h5 hr => ?_)
    exact j_iret (pc := 20) d_Nb_halvesFirst_20 rfl hr
  · refine j_iconst (pc := 9) d_Nb_halvesFirst_9 ?_
    refine j_goto (pc := 10) (tgt := 20) d_Nb_halvesFirst_10 ?_
    exact j_iret (pc := 20) d_Nb_halvesFirst_20 rfl hr
def M_Graph_wearMore : mM := ("NineBars$Graph", ⟨"NineBars$Graph", "wearMore", "(I)V"⟩, prog_6_method_5_code, 2, none, [], 3)
theorem tb_co_Graph_wearMore : mTB (Cond.code ⟨"NineBars$Graph", "wearMore", "(I)V"⟩ prog_6_method_5_code 2 (none)) := tbq5 175 (by decide +kernel) rfl
theorem mc_Graph_wearMore {M : mM} (hd : 3 < mDp M) : mCal M M_Graph_wearMore 1 := ⟨tb_co_Graph_wearMore, tb_in_NineBars_Graph, ⟨by decide +kernel, by decide +kernel⟩, by decide +kernel, hd, by decide⟩
theorem d_Graph_wearMore_0 : decode prog_6_method_5_code 0 = .ok (.aload_n 0, 1) := by decide +kernel
theorem d_Graph_wearMore_1 : decode prog_6_method_5_code 1 = .ok (.aload_n 0, 1) := by decide +kernel
theorem d_Graph_wearMore_2 : decode prog_6_method_5_code 2 = .ok (.getfield 34, 3) := by decide +kernel
theorem d_Graph_wearMore_5 : decode prog_6_method_5_code 5 = .ok (.aload_n 0, 1) := by decide +kernel
theorem d_Graph_wearMore_6 : decode prog_6_method_5_code 6 = .ok (.getfield 40, 3) := by decide +kernel
theorem d_Graph_wearMore_9 : decode prog_6_method_5_code 9 = .ok (.sipush 20000, 3) := by decide +kernel
theorem d_Graph_wearMore_12 : decode prog_6_method_5_code 12 = .ok (.invokestatic 50, 3) := by decide +kernel
theorem d_Graph_wearMore_15 : decode prog_6_method_5_code 15 = .ok (.putfield 34, 3) := by decide +kernel
theorem d_Graph_wearMore_18 : decode prog_6_method_5_code 18 = .ok (.aload_n 0, 1) := by decide +kernel
theorem d_Graph_wearMore_19 : decode prog_6_method_5_code 19 = .ok (.aload_n 0, 1) := by decide +kernel
theorem d_Graph_wearMore_20 : decode prog_6_method_5_code 20 = .ok (.getfield 34, 3) := by decide +kernel
theorem d_Graph_wearMore_23 : decode prog_6_method_5_code 23 = .ok (.aload_n 0, 1) := by decide +kernel
theorem d_Graph_wearMore_24 : decode prog_6_method_5_code 24 = .ok (.getfield 15, 3) := by decide +kernel
theorem d_Graph_wearMore_27 : decode prog_6_method_5_code 27 = .ok (.iload_n 1, 1) := by decide +kernel
theorem d_Graph_wearMore_28 : decode prog_6_method_5_code 28 = .ok (.ior, 1) := by decide +kernel
theorem d_Graph_wearMore_29 : decode prog_6_method_5_code 29 = .ok (.invokevirtual 54, 3) := by decide +kernel
theorem d_Graph_wearMore_32 : decode prog_6_method_5_code 32 = .ok (.return_, 1) := by decide +kernel
theorem t_Graph_wearMore {G : mG} (h : mH) (v0 v1 : Int) (r : mR) (hr : f_Graph_wearMore h v0 v1 = some r) : mJM G M_Graph_wearMore [(2, v0), (0, v1)] h r := by
  refine mJM_of (L := [(2, v0), (0, v1)]) rfl rfl rfl (Nat.le_of_ble_eq_true rfl) ?_
  unfold f_Graph_wearMore at hr
  refine j_aload_n (pc := 0) d_Graph_wearMore_0 rfl ?_
  refine j_aload_n (pc := 1) d_Graph_wearMore_1 rfl ?_
  refine j_getf (pc := 2) d_Graph_wearMore_2 (fd_Graph_34 rfl) hr (fun hr => ?_)
  refine j_aload_n (pc := 5) d_Graph_wearMore_5 rfl ?_
  refine j_getf (pc := 6) d_Graph_wearMore_6 (fd_Graph_40 rfl) hr (fun hr => ?_)
  refine j_sipush (pc := 9) d_Graph_wearMore_9 ?_
  refine j_callR (pc := 12) (stk := [(0, 20000), (0, hpV h v0 2), (2, hpV h v0 10), (2, v0)]) (as := [(2, hpV h v0 10), (0, hpV h v0 2), (0, 20000)]) (P := (fun v9 => ((2 : Nat), v9) :: [(2, v0)])) (tg := 2) (My := M_Nb_grown) (by decide) (mRunN (as := [(2, hpV h v0 10), (0, hpV h v0 2), (0, 20000)]) (st := [(2, v0)]) d_Graph_wearMore_12 (mc_Nb_grown (by decide)) rfl ⟨⟨_, tb_mn_Graph_50⟩, tb_sm_Nb_grown⟩ rfl (Nat.le_of_ble_eq_true rfl)) (fun v => rfl) hr (fun r1 h1 => t_Nb_grown _ _ _ _ _ h1) (fun x2 h1 hr => ?_)
  refine j_puta (pc := 15) d_Graph_wearMore_15 (fd_Graph_34 rfl) (⟨_, _, _, rfl, Or.inl rfl, rfl⟩ : mFldW M_Graph_wearMore 34 4 10 (.array .int)) (Or.inr ⟨_, rfl⟩) hr (fun h3 hr => ?_)
  refine j_aload_n (pc := 18) d_Graph_wearMore_18 rfl ?_
  refine j_aload_n (pc := 19) d_Graph_wearMore_19 rfl ?_
  refine j_getf (pc := 20) d_Graph_wearMore_20 (fd_Graph_34 rfl) hr (fun hr => ?_)
  refine j_aload_n (pc := 23) d_Graph_wearMore_23 rfl ?_
  refine j_getf (pc := 24) d_Graph_wearMore_24 (fd_Graph_15 rfl) hr (fun hr => ?_)
  refine j_iload_n (pc := 27) d_Graph_wearMore_27 rfl ?_
  refine j_ior (pc := 28) d_Graph_wearMore_28 ?_
  obtain ⟨ha, hr⟩ := chk_some hr
  refine j_callG (pc := 29) (stk := [(0, qor (hpV h3 v0 1) v1), (2, hpV h3 v0 10), (2, v0)]) (as := [(2, v0), (2, hpV h3 v0 10), (0, qor (hpV h3 v0 1) v1)]) (P := (fun v9 => [])) (tg := 3) (My := M_Graph_fill) (mRunV (as := [(2, hpV h3 v0 10), (0, qor (hpV h3 v0 1) v1)]) (st := []) d_Graph_wearMore_29 (mc_Graph_fill (by decide)) rfl (mv_Graph_fill tb_ml_Graph_54) rfl (Nat.le_of_ble_eq_true rfl) ha) (fun v => rfl) rfl hr (fun r1 h1 => t_Graph_fill _ _ _ _ _ h1) (fun x5 h4 hr => ?_)
  exact j_vret (pc := 32) d_Graph_wearMore_32 rfl hr
def M_Nb_openingIfWorn : mM := ("NineBars", ⟨"NineBars", "openingIfWorn", "(I)I"⟩, prog_1_method_58_code, 2, some .int, [], 7)
theorem tb_co_Nb_openingIfWorn : mTB (Cond.code ⟨"NineBars", "openingIfWorn", "(I)I"⟩ prog_1_method_58_code 2 (some .int)) := tbq5 171 (by decide +kernel) rfl
theorem mc_Nb_openingIfWorn {M : mM} (hd : 7 < mDp M) : mCal M M_Nb_openingIfWorn 1 := ⟨tb_co_Nb_openingIfWorn, tb_in_NineBars, ⟨by decide +kernel, by decide +kernel⟩, by decide +kernel, hd, by decide⟩
theorem d_Nb_openingIfWorn_0 : decode prog_1_method_58_code 0 = .ok (.aload_n 0, 1) := by decide +kernel
theorem d_Nb_openingIfWorn_1 : decode prog_1_method_58_code 1 = .ok (.getfield 48, 3) := by decide +kernel
theorem d_Nb_openingIfWorn_4 : decode prog_1_method_58_code 4 = .ok (.iconst 3, 1) := by decide +kernel
theorem d_Nb_openingIfWorn_5 : decode prog_1_method_58_code 5 = .ok (.iconst 2, 1) := by decide +kernel
theorem d_Nb_openingIfWorn_6 : decode prog_1_method_58_code 6 = .ok (.iload_n 1, 1) := by decide +kernel
theorem d_Nb_openingIfWorn_7 : decode prog_1_method_58_code 7 = .ok (.imul, 1) := by decide +kernel
theorem d_Nb_openingIfWorn_8 : decode prog_1_method_58_code 8 = .ok (.ishl, 1) := by decide +kernel
theorem d_Nb_openingIfWorn_9 : decode prog_1_method_58_code 9 = .ok (.invokevirtual 454, 3) := by decide +kernel
theorem tb_ml_Nb_454 : mTB (Cond.methodLink "NineBars" 454 ⟨"NineBars$Graph", "wearMore", "(I)V"⟩) := tbq5 172 (by decide +kernel) rfl
theorem tb_im_Graph_wearMore : mTB (Cond.instanceMethod ⟨"NineBars$Graph", "wearMore", "(I)V"⟩) := tbq5 173 (by decide +kernel) rfl
theorem tb_se_Graph_wearMore : mTB (Cond.selects "NineBars$Graph" ⟨"NineBars$Graph", "wearMore", "(I)V"⟩ ⟨"NineBars$Graph", "wearMore", "(I)V"⟩) := tbq5 174 (by decide +kernel) rfl
theorem mv_Graph_wearMore {M : mM} {idx : Nat} (h : mTB (Cond.methodLink (mO M) idx ⟨"NineBars$Graph", "wearMore", "(I)V"⟩)) : mCaV M M_Graph_wearMore idx 4 := ⟨h, tb_im_Graph_wearMore, tb_se_Graph_wearMore, by decide, TX4, 11, rfl⟩
theorem d_Nb_openingIfWorn_12 : decode prog_1_method_58_code 12 = .ok (.aload_n 0, 1) := by decide +kernel
theorem d_Nb_openingIfWorn_13 : decode prog_1_method_58_code 13 = .ok (.getfield 64, 3) := by decide +kernel
theorem d_Nb_openingIfWorn_16 : decode prog_1_method_58_code 16 = .ok (.aload_n 0, 1) := by decide +kernel
theorem d_Nb_openingIfWorn_17 : decode prog_1_method_58_code 17 = .ok (.getfield 48, 3) := by decide +kernel
theorem d_Nb_openingIfWorn_20 : decode prog_1_method_58_code 20 = .ok (.aload_n 0, 1) := by decide +kernel
theorem d_Nb_openingIfWorn_21 : decode prog_1_method_58_code 21 = .ok (.getfield 48, 3) := by decide +kernel
theorem tb_fl_Nb_457 : mTN (Cond.fieldLinkNest "NineBars" 457 "NineBars$Graph" "tried" "[I" "NineBars") := tbqn1 222 (by decide +kernel) rfl
theorem fd_Nb_457 {M : mM} (h : mO M = "NineBars") : mFld M 457 4 10 2 := ⟨_, _, _, tyX4, rfl, by decide, by decide, rfl, uw_4, tyX4_ok, nmX4, by rw [h]; exact Or.inr ⟨_, tb_fl_Nb_457⟩⟩
theorem d_Nb_openingIfWorn_24 : decode prog_1_method_58_code 24 = .ok (.getfield 457, 3) := by decide +kernel
theorem d_Nb_openingIfWorn_27 : decode prog_1_method_58_code 27 = .ok (.aload_n 0, 1) := by decide +kernel
theorem d_Nb_openingIfWorn_28 : decode prog_1_method_58_code 28 = .ok (.getfield 27, 3) := by decide +kernel
theorem d_Nb_openingIfWorn_31 : decode prog_1_method_58_code 31 = .ok (.aload_n 0, 1) := by decide +kernel
theorem d_Nb_openingIfWorn_32 : decode prog_1_method_58_code 32 = .ok (.getfield 27, 3) := by decide +kernel
theorem d_Nb_openingIfWorn_35 : decode prog_1_method_58_code 35 = .ok (.getfield 149, 3) := by decide +kernel
theorem d_Nb_openingIfWorn_38 : decode prog_1_method_58_code 38 = .ok (.invokevirtual 198, 3) := by decide +kernel
theorem d_Nb_openingIfWorn_41 : decode prog_1_method_58_code 41 = .ok (.aload_n 0, 1) := by decide +kernel
theorem d_Nb_openingIfWorn_42 : decode prog_1_method_58_code 42 = .ok (.getfield 48, 3) := by decide +kernel
theorem d_Nb_openingIfWorn_45 : decode prog_1_method_58_code 45 = .ok (.getfield 387, 3) := by decide +kernel
theorem d_Nb_openingIfWorn_48 : decode prog_1_method_58_code 48 = .ok (.invokevirtual 460, 3) := by decide +kernel
theorem tb_ml_Nb_460 : mTB (Cond.methodLink "NineBars" 460 ⟨"NineBars$Paths", "spread", "(LNineBars$Graph;[III)V"⟩) := tbq5 176 (by decide +kernel) rfl
theorem d_Nb_openingIfWorn_51 : decode prog_1_method_58_code 51 = .ok (.aload_n 0, 1) := by decide +kernel
theorem d_Nb_openingIfWorn_52 : decode prog_1_method_58_code 52 = .ok (.getfield 64, 3) := by decide +kernel
theorem d_Nb_openingIfWorn_55 : decode prog_1_method_58_code 55 = .ok (.aload_n 0, 1) := by decide +kernel
theorem d_Nb_openingIfWorn_56 : decode prog_1_method_58_code 56 = .ok (.getfield 48, 3) := by decide +kernel
theorem d_Nb_openingIfWorn_59 : decode prog_1_method_58_code 59 = .ok (.getfield 387, 3) := by decide +kernel
theorem d_Nb_openingIfWorn_62 : decode prog_1_method_58_code 62 = .ok (.invokevirtual 263, 3) := by decide +kernel
theorem d_Nb_openingIfWorn_65 : decode prog_1_method_58_code 65 = .ok (.ireturn, 1) := by decide +kernel
theorem t_Nb_openingIfWorn {G : mG} (h : mH) (v0 v1 : Int) (r : mR) (hr : f_Nb_openingIfWorn h v0 v1 = some r) : mJM G M_Nb_openingIfWorn [(2, v0), (0, v1)] h r := by
  refine mJM_of (L := [(2, v0), (0, v1)]) rfl rfl rfl (Nat.le_of_ble_eq_true rfl) ?_
  unfold f_Nb_openingIfWorn at hr
  refine j_aload_n (pc := 0) d_Nb_openingIfWorn_0 rfl ?_
  refine j_getf (pc := 1) d_Nb_openingIfWorn_1 (fd_Nb_48 rfl) hr (fun hr => ?_)
  refine j_iconst (pc := 4) d_Nb_openingIfWorn_4 ?_
  refine j_iconst (pc := 5) d_Nb_openingIfWorn_5 ?_
  refine j_iload_n (pc := 6) d_Nb_openingIfWorn_6 rfl ?_
  refine j_imul (pc := 7) d_Nb_openingIfWorn_7 ?_
  refine j_ishl (pc := 8) d_Nb_openingIfWorn_8 ?_
  obtain ⟨ha, hr⟩ := chk_some hr
  refine j_callG (pc := 9) (stk := [(0, qshl 3 (w32 (2 * v1))), (2, hpV h v0 10)]) (as := [(2, hpV h v0 10), (0, qshl 3 (w32 (2 * v1)))]) (P := (fun v9 => [])) (tg := 3) (My := M_Graph_wearMore) (mRunV (as := [(0, qshl 3 (w32 (2 * v1)))]) (st := []) d_Nb_openingIfWorn_9 (mc_Graph_wearMore (by decide)) rfl (mv_Graph_wearMore tb_ml_Nb_454) rfl (Nat.le_of_ble_eq_true rfl) ha) (fun v => rfl) rfl hr (fun r1 h1 => t_Graph_wearMore _ _ _ _ h1) (fun x2 h1 hr => ?_)
  refine j_aload_n (pc := 12) d_Nb_openingIfWorn_12 rfl ?_
  refine j_getf (pc := 13) d_Nb_openingIfWorn_13 (fd_Nb_64 rfl) hr (fun hr => ?_)
  refine j_aload_n (pc := 16) d_Nb_openingIfWorn_16 rfl ?_
  refine j_getf (pc := 17) d_Nb_openingIfWorn_17 (fd_Nb_48 rfl) hr (fun hr => ?_)
  refine j_aload_n (pc := 20) d_Nb_openingIfWorn_20 rfl ?_
  refine j_getf (pc := 21) d_Nb_openingIfWorn_21 (fd_Nb_48 rfl) hr (fun hr => ?_)
  refine j_getf (pc := 24) d_Nb_openingIfWorn_24 (fd_Nb_457 rfl) hr (fun hr => ?_)
  refine j_aload_n (pc := 27) d_Nb_openingIfWorn_27 rfl ?_
  refine j_getf (pc := 28) d_Nb_openingIfWorn_28 (fd_Nb_27 rfl) hr (fun hr => ?_)
  refine j_aload_n (pc := 31) d_Nb_openingIfWorn_31 rfl ?_
  refine j_getf (pc := 32) d_Nb_openingIfWorn_32 (fd_Nb_27 rfl) hr (fun hr => ?_)
  refine j_getf (pc := 35) d_Nb_openingIfWorn_35 (fd_Nb_149 rfl) hr (fun hr => ?_)
  obtain ⟨ha, hr⟩ := chk_some hr
  refine j_callG (pc := 38) (stk := [(2, hpV h1 (hpV h1 v0 6) 9), (2, hpV h1 v0 6), (2, hpV h1 (hpV h1 v0 10) 10), (2, hpV h1 v0 10), (2, hpV h1 v0 13)]) (as := [(2, hpV h1 v0 6), (2, hpV h1 (hpV h1 v0 6) 9)]) (P := (fun v9 => ((0 : Nat), v9) :: [(2, hpV h1 (hpV h1 v0 10) 10), (2, hpV h1 v0 10), (2, hpV h1 v0 13)])) (tg := 0) (My := M_Box_standOf) (mRunV (as := [(2, hpV h1 (hpV h1 v0 6) 9)]) (st := [(2, hpV h1 (hpV h1 v0 10) 10), (2, hpV h1 v0 10), (2, hpV h1 v0 13)]) d_Nb_openingIfWorn_38 (mc_Box_standOf (by decide)) rfl (mv_Box_standOf tb_ml_Nb_198) rfl (Nat.le_of_ble_eq_true rfl) ha) (fun v => rfl) rfl hr (fun r1 h1 => t_Box_standOf _ _ _ _ h1) (fun x4 h3 hr => ?_)
  refine j_aload_n (pc := 41) d_Nb_openingIfWorn_41 rfl ?_
  refine j_getf (pc := 42) d_Nb_openingIfWorn_42 (fd_Nb_48 rfl) hr (fun hr => ?_)
  refine j_getf (pc := 45) d_Nb_openingIfWorn_45 (fd_Nb_387 rfl) hr (fun hr => ?_)
  obtain ⟨ha, hr⟩ := chk_some hr
  refine j_callG (pc := 48) (stk := [(0, hpV h3 (hpV h3 v0 10) 4), (0, x4), (2, hpV h1 (hpV h1 v0 10) 10), (2, hpV h1 v0 10), (2, hpV h1 v0 13)]) (as := [(2, hpV h1 v0 13), (2, hpV h1 v0 10), (2, hpV h1 (hpV h1 v0 10) 10), (0, x4), (0, hpV h3 (hpV h3 v0 10) 4)]) (P := (fun v9 => [])) (tg := 3) (My := M_Paths_spread) (mRunV (as := [(2, hpV h1 v0 10), (2, hpV h1 (hpV h1 v0 10) 10), (0, x4), (0, hpV h3 (hpV h3 v0 10) 4)]) (st := []) d_Nb_openingIfWorn_48 (mc_Paths_spread (by decide)) rfl (mv_Paths_spread tb_ml_Nb_460) rfl (Nat.le_of_ble_eq_true rfl) ha) (fun v => rfl) rfl hr (fun r1 h1 => t_Paths_spread _ _ _ _ _ _ _ h1) (fun x6 h5 hr => ?_)
  refine j_aload_n (pc := 51) d_Nb_openingIfWorn_51 rfl ?_
  refine j_getf (pc := 52) d_Nb_openingIfWorn_52 (fd_Nb_64 rfl) hr (fun hr => ?_)
  refine j_aload_n (pc := 55) d_Nb_openingIfWorn_55 rfl ?_
  refine j_getf (pc := 56) d_Nb_openingIfWorn_56 (fd_Nb_48 rfl) hr (fun hr => ?_)
  refine j_getf (pc := 59) d_Nb_openingIfWorn_59 (fd_Nb_387 rfl) hr (fun hr => ?_)
  obtain ⟨ha, hr⟩ := chk_some hr
  refine j_callG (pc := 62) (stk := [(0, hpV h5 (hpV h5 v0 10) 4), (2, hpV h5 v0 13)]) (as := [(2, hpV h5 v0 13), (0, hpV h5 (hpV h5 v0 10) 4)]) (P := (fun v9 => ((0 : Nat), v9) :: [])) (tg := 0) (My := M_Paths_farOf) (mRunV (as := [(0, hpV h5 (hpV h5 v0 10) 4)]) (st := []) d_Nb_openingIfWorn_62 (mc_Paths_farOf (by decide)) rfl (mv_Paths_farOf tb_ml_Nb_263) rfl (Nat.le_of_ble_eq_true rfl) ha) (fun v => rfl) rfl hr (fun r1 h1 => t_Paths_farOf _ _ _ _ h1) (fun x8 h7 hr => ?_)
  exact j_iret (pc := 65) d_Nb_openingIfWorn_65 rfl hr
def M_Nb_ifWorn : mM := ("NineBars", ⟨"NineBars", "ifWorn", "(I)I"⟩, prog_1_method_30_code, 2, some .int, [], 13)
theorem tb_co_Nb_ifWorn : mTB (Cond.code ⟨"NineBars", "ifWorn", "(I)I"⟩ prog_1_method_30_code 2 (some .int)) := tbq5 167 (by decide +kernel) rfl
theorem mc_Nb_ifWorn {M : mM} (hd : 13 < mDp M) : mCal M M_Nb_ifWorn 1 := ⟨tb_co_Nb_ifWorn, tb_in_NineBars, ⟨by decide +kernel, by decide +kernel⟩, by decide +kernel, hd, by decide⟩
theorem d_Nb_ifWorn_0 : decode prog_1_method_30_code 0 = .ok (.aload_n 0, 1) := by decide +kernel
theorem d_Nb_ifWorn_1 : decode prog_1_method_30_code 1 = .ok (.iload_n 1, 1) := by decide +kernel
theorem d_Nb_ifWorn_2 : decode prog_1_method_30_code 2 = .ok (.invokevirtual 142, 3) := by decide +kernel
theorem d_Nb_ifWorn_5 : decode prog_1_method_30_code 5 = .ok (.aload_n 0, 1) := by decide +kernel
theorem d_Nb_ifWorn_6 : decode prog_1_method_30_code 6 = .ok (.invokevirtual 260, 3) := by decide +kernel
theorem d_Nb_ifWorn_9 : decode prog_1_method_30_code 9 = .ok (.aload_n 0, 1) := by decide +kernel
theorem d_Nb_ifWorn_10 : decode prog_1_method_30_code 10 = .ok (.iload_n 1, 1) := by decide +kernel
theorem d_Nb_ifWorn_11 : decode prog_1_method_30_code 11 = .ok (.invokevirtual 322, 3) := by decide +kernel
theorem tb_ml_Nb_322 : mTB (Cond.methodLink "NineBars" 322 ⟨"NineBars", "openingIfWorn", "(I)I"⟩) := tbq5 168 (by decide +kernel) rfl
theorem tb_im_Nb_openingIfWorn : mTB (Cond.instanceMethod ⟨"NineBars", "openingIfWorn", "(I)I"⟩) := tbq5 170 (by decide +kernel) rfl
theorem tb_se_Nb_openingIfWorn : mTB (Cond.selects "NineBars" ⟨"NineBars", "openingIfWorn", "(I)I"⟩ ⟨"NineBars", "openingIfWorn", "(I)I"⟩) := tbqp 30 (by decide +kernel) rfl
theorem mv_Nb_openingIfWorn {M : mM} {idx : Nat} (h : mTB (Cond.methodLink (mO M) idx ⟨"NineBars", "openingIfWorn", "(I)I"⟩)) : mCaV M M_Nb_openingIfWorn idx 10 := ⟨h, tb_im_Nb_openingIfWorn, tb_se_Nb_openingIfWorn, by decide, TX10, 19, rfl⟩
theorem d_Nb_ifWorn_14 : decode prog_1_method_30_code 14 = .ok (.ireturn, 1) := by decide +kernel
theorem t_Nb_ifWorn {G : mG} (h : mH) (v0 v1 : Int) (r : mR) (hr : f_Nb_ifWorn h v0 v1 = some r) : mJM G M_Nb_ifWorn [(2, v0), (0, v1)] h r := by
  refine mJM_of (L := [(2, v0), (0, v1)]) rfl rfl rfl (Nat.le_of_ble_eq_true rfl) ?_
  unfold f_Nb_ifWorn at hr
  refine j_aload_n (pc := 0) d_Nb_ifWorn_0 rfl ?_
  refine j_iload_n (pc := 1) d_Nb_ifWorn_1 rfl ?_
  obtain ⟨ha, hr⟩ := chk_some hr
  refine j_callG (pc := 2) (stk := [(0, v1), (2, v0)]) (as := [(2, v0), (0, v1)]) (P := (fun v9 => [])) (tg := 3) (My := M_Nb_needBar) (mRunV (as := [(0, v1)]) (st := []) d_Nb_ifWorn_2 (mc_Nb_needBar (by decide)) rfl (mv_Nb_needBar tb_ml_Nb_142) rfl (Nat.le_of_ble_eq_true rfl) ha) (fun v => rfl) rfl hr (fun r1 h1 => t_Nb_needBar _ _ _ _ h1) (fun x2 h1 hr => ?_)
  refine j_aload_n (pc := 5) d_Nb_ifWorn_5 rfl ?_
  obtain ⟨ha, hr⟩ := chk_some hr
  refine j_callG (pc := 6) (stk := [(2, v0)]) (as := [(2, v0)]) (P := (fun v9 => [])) (tg := 3) (My := M_Nb_needGraph) (mRunV (as := []) (st := []) d_Nb_ifWorn_6 (mc_Nb_needGraph (by decide)) rfl (mv_Nb_needGraph tb_ml_Nb_260) rfl (Nat.le_of_ble_eq_true rfl) ha) (fun v => rfl) rfl hr (fun r1 h1 => t_Nb_needGraph _ _ _ h1) (fun x4 h3 hr => ?_)
  refine j_aload_n (pc := 9) d_Nb_ifWorn_9 rfl ?_
  refine j_iload_n (pc := 10) d_Nb_ifWorn_10 rfl ?_
  obtain ⟨ha, hr⟩ := chk_some hr
  refine j_callG (pc := 11) (stk := [(0, v1), (2, v0)]) (as := [(2, v0), (0, v1)]) (P := (fun v9 => ((0 : Nat), v9) :: [])) (tg := 0) (My := M_Nb_openingIfWorn) (mRunV (as := [(0, v1)]) (st := []) d_Nb_ifWorn_11 (mc_Nb_openingIfWorn (by decide)) rfl (mv_Nb_openingIfWorn tb_ml_Nb_322) rfl (Nat.le_of_ble_eq_true rfl) ha) (fun v => rfl) rfl hr (fun r1 h1 => t_Nb_openingIfWorn _ _ _ _ h1) (fun x6 h5 hr => ?_)
  exact j_iret (pc := 14) d_Nb_ifWorn_14 rfl hr
def M_Nb_weakest : mM := ("NineBars", ⟨"NineBars", "weakest", "()I"⟩, prog_1_method_31_code, 5, some .int, [], 13)
theorem tb_co_Nb_weakest : mTB (Cond.code ⟨"NineBars", "weakest", "()I"⟩ prog_1_method_31_code 5 (some .int)) := tbq5 183 (by decide +kernel) rfl
theorem mc_Nb_weakest {M : mM} (hd : 13 < mDp M) : mCal M M_Nb_weakest 0 := ⟨tb_co_Nb_weakest, tb_in_NineBars, ⟨by decide +kernel, by decide +kernel⟩, by decide +kernel, hd, by decide⟩
theorem d_Nb_weakest_0 : decode prog_1_method_31_code 0 = .ok (.aload_n 0, 1) := by decide +kernel
theorem d_Nb_weakest_1 : decode prog_1_method_31_code 1 = .ok (.invokevirtual 260, 3) := by decide +kernel
theorem d_Nb_weakest_4 : decode prog_1_method_31_code 4 = .ok (.iconst (-1), 1) := by decide +kernel
theorem d_Nb_weakest_5 : decode prog_1_method_31_code 5 = .ok (.istore_n 1, 1) := by decide +kernel
theorem d_Nb_weakest_6 : decode prog_1_method_31_code 6 = .ok (.iconst (-1), 1) := by decide +kernel
theorem d_Nb_weakest_7 : decode prog_1_method_31_code 7 = .ok (.istore_n 2, 1) := by decide +kernel
theorem d_Nb_weakest_8 : decode prog_1_method_31_code 8 = .ok (.iconst 0, 1) := by decide +kernel
theorem d_Nb_weakest_9 : decode prog_1_method_31_code 9 = .ok (.istore_n 3, 1) := by decide +kernel
theorem d_Nb_weakest_10 : decode prog_1_method_31_code 10 = .ok (.iload_n 3, 1) := by decide +kernel
theorem d_Nb_weakest_11 : decode prog_1_method_31_code 11 = .ok (.aload_n 0, 1) := by decide +kernel
theorem d_Nb_weakest_12 : decode prog_1_method_31_code 12 = .ok (.getfield 27, 3) := by decide +kernel
theorem d_Nb_weakest_15 : decode prog_1_method_31_code 15 = .ok (.getfield 222, 3) := by decide +kernel
theorem d_Nb_weakest_18 : decode prog_1_method_31_code 18 = .ok (.if_icmp .ge 38, 3) := by decide +kernel
theorem d_Nb_weakest_56 : decode prog_1_method_31_code 56 = .ok (.iload_n 1, 1) := by decide +kernel
theorem d_Nb_weakest_57 : decode prog_1_method_31_code 57 = .ok (.ireturn, 1) := by decide +kernel
theorem d_Nb_weakest_21 : decode prog_1_method_31_code 21 = .ok (.aload_n 0, 1) := by decide +kernel
theorem d_Nb_weakest_22 : decode prog_1_method_31_code 22 = .ok (.iload_n 3, 1) := by decide +kernel
theorem d_Nb_weakest_23 : decode prog_1_method_31_code 23 = .ok (.invokevirtual 322, 3) := by decide +kernel
theorem d_Nb_weakest_26 : decode prog_1_method_31_code 26 = .ok (.istore 4, 2) := by decide +kernel
theorem d_Nb_weakest_28 : decode prog_1_method_31_code 28 = .ok (.iload 4, 2) := by decide +kernel
theorem d_Nb_weakest_30 : decode prog_1_method_31_code 30 = .ok (.iconst (-1), 1) := by decide +kernel
theorem d_Nb_weakest_31 : decode prog_1_method_31_code 31 = .ok (.if_icmp .eq 19, 3) := by decide +kernel
theorem d_Nb_weakest_50 : decode prog_1_method_31_code 50 = .ok (.iinc 3 1, 3) := by decide +kernel
theorem d_Nb_weakest_53 : decode prog_1_method_31_code 53 = .ok (.goto (-43), 3) := by decide +kernel
theorem d_Nb_weakest_34 : decode prog_1_method_31_code 34 = .ok (.iload_n 1, 1) := by decide +kernel
theorem d_Nb_weakest_35 : decode prog_1_method_31_code 35 = .ok (.iconst (-1), 1) := by decide +kernel
theorem d_Nb_weakest_36 : decode prog_1_method_31_code 36 = .ok (.if_icmp .eq 9, 3) := by decide +kernel
theorem d_Nb_weakest_45 : decode prog_1_method_31_code 45 = .ok (.iload_n 3, 1) := by decide +kernel
theorem d_Nb_weakest_46 : decode prog_1_method_31_code 46 = .ok (.istore_n 1, 1) := by decide +kernel
theorem d_Nb_weakest_47 : decode prog_1_method_31_code 47 = .ok (.iload 4, 2) := by decide +kernel
theorem d_Nb_weakest_49 : decode prog_1_method_31_code 49 = .ok (.istore_n 2, 1) := by decide +kernel
theorem d_Nb_weakest_39 : decode prog_1_method_31_code 39 = .ok (.iload 4, 2) := by decide +kernel
theorem d_Nb_weakest_41 : decode prog_1_method_31_code 41 = .ok (.iload_n 2, 1) := by decide +kernel
theorem d_Nb_weakest_42 : decode prog_1_method_31_code 42 = .ok (.if_icmp .ge 8, 3) := by decide +kernel
theorem t_Nb_weakest_J50 {G : mG} {r : mR} {v0 v1 v2 v3 : Int} {h : mH} {R10 : mH → Int → Int → Int → Option mR} (hR10 : ∀ (h : mH) (w1 w2 w3 : Int) , R10 h w1 w2 w3 = some r → mJ G M_Nb_weakest 10 [(2, v0), (0, w1), (0, w2), (0, w3), (9, 0)] [] h r) (hr : f_Nb_weakest_J50 R10 v1 v2 v3 h = some r) : mJ G M_Nb_weakest 50 [(2, v0), (0, v1), (0, v2), (0, v3), (9, 0)] [] h r := by
  unfold f_Nb_weakest_J50 at hr
  refine j_iincW (pc := 50) (L := fun x1 => [(2, v0), (0, v1), (0, v2), (0, x1), (9, 0)]) d_Nb_weakest_50 rfl (fun _ => rfl) hr (fun x1 hr => ?_)
  refine j_goto (pc := 53) (tgt := 10) d_Nb_weakest_53 ?_
  exact mJ_weak (ls' := [(2, v0), (0, v1), (0, v2), (0, x1), (9, 0)]) (mwk_s (mwk_s (mwk_s (mwk_s (mwk_s mwk_n))))) (hR10 h _ _ _ hr)
theorem t_Nb_weakest_J45 {G : mG} {r : mR} {v0 v3 v4 : Int} {h : mH} {R10 : mH → Int → Int → Int → Option mR} (hR10 : ∀ (h : mH) (w1 w2 w3 : Int) , R10 h w1 w2 w3 = some r → mJ G M_Nb_weakest 10 [(2, v0), (0, w1), (0, w2), (0, w3), (9, 0)] [] h r) (hr : f_Nb_weakest_J45 R10 v3 v4 h = some r) : mJ G M_Nb_weakest 45 [(2, v0), (9, 0), (9, 0), (0, v3), (0, v4)] [] h r := by
  unfold f_Nb_weakest_J45 at hr
  refine j_iload_n (pc := 45) d_Nb_weakest_45 rfl ?_
  refine j_istore_n (pc := 46) (ls' := [(2, v0), (0, v3), (9, 0), (0, v3), (0, v4)]) d_Nb_weakest_46 rfl ?_
  refine j_iload (pc := 47) d_Nb_weakest_47 rfl ?_
  refine j_istore_n (pc := 49) (ls' := [(2, v0), (0, v3), (0, v4), (0, v3), (0, v4)]) d_Nb_weakest_49 rfl ?_
  exact mJ_weak (ls' := [(2, v0), (0, v3), (0, v4), (0, v3), (9, 0)]) (mwk_s (mwk_s (mwk_s (mwk_s (mwk_d mwk_n))))) (t_Nb_weakest_J50 hR10 hr)
theorem t_Nb_weakest_L10 {G : mG} {r : mR} {v0 : Int}  : ∀ (n : Nat) (h : mH) (v1 v2 v3 : Int), f_Nb_weakest_L10 v0 n h v1 v2 v3 = some r → mJ G M_Nb_weakest 10 [(2, v0), (0, v1), (0, v2), (0, v3), (9, 0)] [] h r := by
  intro n
  induction n with
  | zero =>
    intro h v1 v2 v3 hr
    rw [f_Nb_weakest_L10] at hr
    cases hr
  | succ n hR10 =>
    intro h v1 v2 v3 hr
    rw [f_Nb_weakest_L10] at hr
    refine j_iload_n (pc := 10) d_Nb_weakest_10 rfl ?_
    refine j_aload_n (pc := 11) d_Nb_weakest_11 rfl ?_
    refine j_getf (pc := 12) d_Nb_weakest_12 (fd_Nb_27 rfl) hr (fun hr => ?_)
    refine j_getf (pc := 15) d_Nb_weakest_15 (fd_Nb_222 rfl) hr (fun hr => ?_)
    refine j_icmp_ge (pc := 18) (tgt := 56) d_Nb_weakest_18 hr (fun hr => ?_) (fun hr => ?_)
    · refine j_iload_n (pc := 56) d_Nb_weakest_56 rfl ?_
      exact j_iret (pc := 57) d_Nb_weakest_57 rfl hr
    · refine j_aload_n (pc := 21) d_Nb_weakest_21 rfl ?_
      refine j_iload_n (pc := 22) d_Nb_weakest_22 rfl ?_
      obtain ⟨ha, hr⟩ := chk_some hr
      refine j_callG (pc := 23) (stk := [(0, v3), (2, v0)]) (as := [(2, v0), (0, v3)]) (P := (fun v9 => ((0 : Nat), v9) :: [])) (tg := 0) (My := M_Nb_openingIfWorn) (mRunV (as := [(0, v3)]) (st := []) d_Nb_weakest_23 (mc_Nb_openingIfWorn (by decide)) rfl (mv_Nb_openingIfWorn tb_ml_Nb_322) rfl (Nat.le_of_ble_eq_true rfl) ha) (fun v => rfl) rfl hr (fun r1 h1 => t_Nb_openingIfWorn _ _ _ _ h1) (fun x2 h1 hr => ?_)
      refine j_istore (pc := 26) (ls' := [(2, v0), (0, v1), (0, v2), (0, v3), (0, x2)]) d_Nb_weakest_26 rfl ?_
      refine j_iload (pc := 28) d_Nb_weakest_28 rfl ?_
      refine j_iconst (pc := 30) d_Nb_weakest_30 ?_
      refine j_icmp_eq (pc := 31) (tgt := 50) d_Nb_weakest_31 hr (fun hr => ?_) (fun hr => ?_)
      · exact mJ_weak (ls' := [(2, v0), (0, v1), (0, v2), (0, v3), (9, 0)]) (mwk_s (mwk_s (mwk_s (mwk_s (mwk_d mwk_n))))) (t_Nb_weakest_J50 hR10 hr)
      · refine j_iload_n (pc := 34) d_Nb_weakest_34 rfl ?_
        refine j_iconst (pc := 35) d_Nb_weakest_35 ?_
        refine j_icmp_eq (pc := 36) (tgt := 45) d_Nb_weakest_36 hr (fun hr => ?_) (fun hr => ?_)
        · exact mJ_weak (ls' := [(2, v0), (9, 0), (9, 0), (0, v3), (0, x2)]) (mwk_s (mwk_d (mwk_d (mwk_s (mwk_s mwk_n))))) (t_Nb_weakest_J45 hR10 hr)
        · refine j_iload (pc := 39) d_Nb_weakest_39 rfl ?_
          refine j_iload_n (pc := 41) d_Nb_weakest_41 rfl ?_
          refine j_icmp_ge (pc := 42) (tgt := 50) d_Nb_weakest_42 hr (fun hr => ?_) (fun hr => ?_)
          · exact mJ_weak (ls' := [(2, v0), (0, v1), (0, v2), (0, v3), (9, 0)]) (mwk_s (mwk_s (mwk_s (mwk_s (mwk_d mwk_n))))) (t_Nb_weakest_J50 hR10 hr)
          · exact mJ_weak (ls' := [(2, v0), (9, 0), (9, 0), (0, v3), (0, x2)]) (mwk_s (mwk_d (mwk_d (mwk_s (mwk_s mwk_n))))) (t_Nb_weakest_J45 hR10 hr)
theorem t_Nb_weakest {G : mG} (h : mH) (v0 : Int) (r : mR) (hr : f_Nb_weakest h v0 = some r) : mJM G M_Nb_weakest [(2, v0)] h r := by
  refine mJM_of (L := [(2, v0), (9, 0), (9, 0), (9, 0), (9, 0)]) rfl rfl rfl (Nat.le_of_ble_eq_true rfl) ?_
  unfold f_Nb_weakest at hr
  refine j_aload_n (pc := 0) d_Nb_weakest_0 rfl ?_
  obtain ⟨ha, hr⟩ := chk_some hr
  refine j_callG (pc := 1) (stk := [(2, v0)]) (as := [(2, v0)]) (P := (fun v9 => [])) (tg := 3) (My := M_Nb_needGraph) (mRunV (as := []) (st := []) d_Nb_weakest_1 (mc_Nb_needGraph (by decide)) rfl (mv_Nb_needGraph tb_ml_Nb_260) rfl (Nat.le_of_ble_eq_true rfl) ha) (fun v => rfl) rfl hr (fun r1 h1 => t_Nb_needGraph _ _ _ h1) (fun x2 h1 hr => ?_)
  refine j_iconst (pc := 4) d_Nb_weakest_4 ?_
  refine j_istore_n (pc := 5) (ls' := [(2, v0), (0, (-1)), (9, 0), (9, 0), (9, 0)]) d_Nb_weakest_5 rfl ?_
  refine j_iconst (pc := 6) d_Nb_weakest_6 ?_
  refine j_istore_n (pc := 7) (ls' := [(2, v0), (0, (-1)), (0, (-1)), (9, 0), (9, 0)]) d_Nb_weakest_7 rfl ?_
  refine j_iconst (pc := 8) d_Nb_weakest_8 ?_
  refine j_istore_n (pc := 9) (ls' := [(2, v0), (0, (-1)), (0, (-1)), (0, 0), (9, 0)]) d_Nb_weakest_9 rfl ?_
  refine mJ_weak (ls' := [(2, v0), (0, (-1)), (0, (-1)), (0, 0), (9, 0)]) (mwk_s (mwk_s (mwk_s (mwk_s (mwk_s mwk_n))))) (t_Nb_weakest_L10  _ _ _ _ _ hr)
def M_Box_hasRule : mM := ("NineBars$Box", ⟨"NineBars$Box", "hasRule", "(III)Z"⟩, prog_2_method_9_code, 5, some .boolean, [], 1)
theorem tb_co_Box_hasRule : mTB (Cond.code ⟨"NineBars$Box", "hasRule", "(III)Z"⟩ prog_2_method_9_code 5 (some .boolean)) := tbq5 210 (by decide +kernel) rfl
theorem mc_Box_hasRule {M : mM} (hd : 1 < mDp M) : mCal M M_Box_hasRule 3 := ⟨tb_co_Box_hasRule, tb_in_NineBars_Box, ⟨by decide +kernel, by decide +kernel⟩, by decide +kernel, hd, by decide⟩
theorem d_Box_hasRule_0 : decode prog_2_method_9_code 0 = .ok (.iconst 0, 1) := by decide +kernel
theorem d_Box_hasRule_1 : decode prog_2_method_9_code 1 = .ok (.istore 4, 2) := by decide +kernel
theorem d_Box_hasRule_3 : decode prog_2_method_9_code 3 = .ok (.iload 4, 2) := by decide +kernel
theorem d_Box_hasRule_5 : decode prog_2_method_9_code 5 = .ok (.aload_n 0, 1) := by decide +kernel
theorem d_Box_hasRule_6 : decode prog_2_method_9_code 6 = .ok (.getfield 55, 3) := by decide +kernel
theorem d_Box_hasRule_9 : decode prog_2_method_9_code 9 = .ok (.if_icmp .ge 44, 3) := by decide +kernel
theorem d_Box_hasRule_53 : decode prog_2_method_9_code 53 = .ok (.iconst 0, 1) := by decide +kernel
theorem d_Box_hasRule_54 : decode prog_2_method_9_code 54 = .ok (.ireturn, 1) := by decide +kernel
theorem d_Box_hasRule_12 : decode prog_2_method_9_code 12 = .ok (.aload_n 0, 1) := by decide +kernel
theorem d_Box_hasRule_13 : decode prog_2_method_9_code 13 = .ok (.getfield 27, 3) := by decide +kernel
theorem d_Box_hasRule_16 : decode prog_2_method_9_code 16 = .ok (.iload 4, 2) := by decide +kernel
theorem d_Box_hasRule_18 : decode prog_2_method_9_code 18 = .ok (.iaload, 1) := by decide +kernel
theorem d_Box_hasRule_19 : decode prog_2_method_9_code 19 = .ok (.iload_n 1, 1) := by decide +kernel
theorem d_Box_hasRule_20 : decode prog_2_method_9_code 20 = .ok (.if_icmp .ne 27, 3) := by decide +kernel
theorem d_Box_hasRule_47 : decode prog_2_method_9_code 47 = .ok (.iinc 4 1, 3) := by decide +kernel
theorem d_Box_hasRule_50 : decode prog_2_method_9_code 50 = .ok (.goto (-47), 3) := by decide +kernel
theorem d_Box_hasRule_23 : decode prog_2_method_9_code 23 = .ok (.aload_n 0, 1) := by decide +kernel
theorem d_Box_hasRule_24 : decode prog_2_method_9_code 24 = .ok (.getfield 30, 3) := by decide +kernel
theorem d_Box_hasRule_27 : decode prog_2_method_9_code 27 = .ok (.iload 4, 2) := by decide +kernel
theorem d_Box_hasRule_29 : decode prog_2_method_9_code 29 = .ok (.iaload, 1) := by decide +kernel
theorem d_Box_hasRule_30 : decode prog_2_method_9_code 30 = .ok (.iload_n 2, 1) := by decide +kernel
theorem d_Box_hasRule_31 : decode prog_2_method_9_code 31 = .ok (.if_icmp .ne 16, 3) := by decide +kernel
theorem d_Box_hasRule_34 : decode prog_2_method_9_code 34 = .ok (.aload_n 0, 1) := by decide +kernel
theorem d_Box_hasRule_35 : decode prog_2_method_9_code 35 = .ok (.getfield 33, 3) := by decide +kernel
theorem d_Box_hasRule_38 : decode prog_2_method_9_code 38 = .ok (.iload 4, 2) := by decide +kernel
theorem d_Box_hasRule_40 : decode prog_2_method_9_code 40 = .ok (.iaload, 1) := by decide +kernel
theorem d_Box_hasRule_41 : decode prog_2_method_9_code 41 = .ok (.iload_n 3, 1) := by decide +kernel
theorem d_Box_hasRule_42 : decode prog_2_method_9_code 42 = .ok (.if_icmp .ne 5, 3) := by decide +kernel
theorem d_Box_hasRule_45 : decode prog_2_method_9_code 45 = .ok (.iconst 1, 1) := by decide +kernel
theorem d_Box_hasRule_46 : decode prog_2_method_9_code 46 = .ok (.ireturn, 1) := by decide +kernel
theorem t_Box_hasRule_J47 {G : mG} {r : mR} {v0 v1 v2 v3 v4 : Int} {h : mH} {R3 : mH → Int → Option mR} (hR3 : ∀ (h : mH) (w4 : Int) , R3 h w4 = some r → mJ G M_Box_hasRule 3 [(2, v0), (0, v1), (0, v2), (0, v3), (0, w4)] [] h r) (hr : f_Box_hasRule_J47 R3 v4 h = some r) : mJ G M_Box_hasRule 47 [(2, v0), (0, v1), (0, v2), (0, v3), (0, v4)] [] h r := by
  unfold f_Box_hasRule_J47 at hr
  refine j_iincW (pc := 47) (L := fun x1 => [(2, v0), (0, v1), (0, v2), (0, v3), (0, x1)]) d_Box_hasRule_47 rfl (fun _ => rfl) hr (fun x1 hr => ?_)
  refine j_goto (pc := 50) (tgt := 3) d_Box_hasRule_50 ?_
  exact mJ_weak (ls' := [(2, v0), (0, v1), (0, v2), (0, v3), (0, x1)]) (mwk_s (mwk_s (mwk_s (mwk_s (mwk_s mwk_n))))) (hR3 h _ hr)
theorem t_Box_hasRule_L3 {G : mG} {r : mR} {v0 v1 v2 v3 : Int}  : ∀ (n : Nat) (h : mH) (v4 : Int), f_Box_hasRule_L3 v0 v1 v2 v3 n h v4 = some r → mJ G M_Box_hasRule 3 [(2, v0), (0, v1), (0, v2), (0, v3), (0, v4)] [] h r := by
  intro n
  induction n with
  | zero =>
    intro h v4 hr
    rw [f_Box_hasRule_L3] at hr
    cases hr
  | succ n hR3 =>
    intro h v4 hr
    rw [f_Box_hasRule_L3] at hr
    refine j_iload (pc := 3) d_Box_hasRule_3 rfl ?_
    refine j_aload_n (pc := 5) d_Box_hasRule_5 rfl ?_
    refine j_getf (pc := 6) d_Box_hasRule_6 (fd_Box_55 rfl) hr (fun hr => ?_)
    refine j_icmp_ge (pc := 9) (tgt := 53) d_Box_hasRule_9 hr (fun hr => ?_) (fun hr => ?_)
    · refine j_iconst (pc := 53) d_Box_hasRule_53 ?_
      exact j_zret (pc := 54) d_Box_hasRule_54 rfl hr
    · refine j_aload_n (pc := 12) d_Box_hasRule_12 rfl ?_
      refine j_getf (pc := 13) d_Box_hasRule_13 (fd_Box_27 rfl) hr (fun hr => ?_)
      refine j_iload (pc := 16) d_Box_hasRule_16 rfl ?_
      refine j_iaload (pc := 18) d_Box_hasRule_18 hr (fun hr => ?_)
      refine j_iload_n (pc := 19) d_Box_hasRule_19 rfl ?_
      refine j_icmp_ne (pc := 20) (tgt := 47) d_Box_hasRule_20 hr (fun hr => ?_) (fun hr => ?_)
      · exact mJ_weak (ls' := [(2, v0), (0, v1), (0, v2), (0, v3), (0, v4)]) (mwk_s (mwk_s (mwk_s (mwk_s (mwk_s mwk_n))))) (t_Box_hasRule_J47 hR3 hr)
      · refine j_aload_n (pc := 23) d_Box_hasRule_23 rfl ?_
        refine j_getf (pc := 24) d_Box_hasRule_24 (fd_Box_30 rfl) hr (fun hr => ?_)
        refine j_iload (pc := 27) d_Box_hasRule_27 rfl ?_
        refine j_iaload (pc := 29) d_Box_hasRule_29 hr (fun hr => ?_)
        refine j_iload_n (pc := 30) d_Box_hasRule_30 rfl ?_
        refine j_icmp_ne (pc := 31) (tgt := 47) d_Box_hasRule_31 hr (fun hr => ?_) (fun hr => ?_)
        · exact mJ_weak (ls' := [(2, v0), (0, v1), (0, v2), (0, v3), (0, v4)]) (mwk_s (mwk_s (mwk_s (mwk_s (mwk_s mwk_n))))) (t_Box_hasRule_J47 hR3 hr)
        · refine j_aload_n (pc := 34) d_Box_hasRule_34 rfl ?_
          refine j_getf (pc := 35) d_Box_hasRule_35 (fd_Box_33 rfl) hr (fun hr => ?_)
          refine j_iload (pc := 38) d_Box_hasRule_38 rfl ?_
          refine j_iaload (pc := 40) d_Box_hasRule_40 hr (fun hr => ?_)
          refine j_iload_n (pc := 41) d_Box_hasRule_41 rfl ?_
          refine j_icmp_ne (pc := 42) (tgt := 47) d_Box_hasRule_42 hr (fun hr => ?_) (fun hr => ?_)
          · exact mJ_weak (ls' := [(2, v0), (0, v1), (0, v2), (0, v3), (0, v4)]) (mwk_s (mwk_s (mwk_s (mwk_s (mwk_s mwk_n))))) (t_Box_hasRule_J47 hR3 hr)
          · refine j_iconst (pc := 45) d_Box_hasRule_45 ?_
            exact j_zret (pc := 46) d_Box_hasRule_46 rfl hr
theorem t_Box_hasRule {G : mG} (h : mH) (v0 v1 v2 v3 : Int) (r : mR) (hr : f_Box_hasRule h v0 v1 v2 v3 = some r) : mJM G M_Box_hasRule [(2, v0), (0, v1), (0, v2), (0, v3)] h r := by
  refine mJM_of (L := [(2, v0), (0, v1), (0, v2), (0, v3), (9, 0)]) rfl rfl rfl (Nat.le_of_ble_eq_true rfl) ?_
  unfold f_Box_hasRule at hr
  refine j_iconst (pc := 0) d_Box_hasRule_0 ?_
  refine j_istore (pc := 1) (ls' := [(2, v0), (0, v1), (0, v2), (0, v3), (0, 0)]) d_Box_hasRule_1 rfl ?_
  refine mJ_weak (ls' := [(2, v0), (0, v1), (0, v2), (0, v3), (0, 0)]) (mwk_s (mwk_s (mwk_s (mwk_s (mwk_s mwk_n))))) (t_Box_hasRule_L3  _ _ _ hr)
def M_Graph_digit : mM := ("NineBars$Graph", ⟨"NineBars$Graph", "digit", "(LNineBars$Box;II)I"⟩, prog_6_method_7_code, 6, some .int, [], 1)
theorem tb_co_Graph_digit : mTB (Cond.code ⟨"NineBars$Graph", "digit", "(LNineBars$Box;II)I"⟩ prog_6_method_7_code 6 (some .int)) := tbq5 219 (by decide +kernel) rfl
theorem mc_Graph_digit {M : mM} (hd : 1 < mDp M) : mCal M M_Graph_digit 3 := ⟨tb_co_Graph_digit, tb_in_NineBars_Graph, ⟨by decide +kernel, by decide +kernel⟩, by decide +kernel, hd, by decide⟩
theorem d_Graph_digit_0 : decode prog_6_method_7_code 0 = .ok (.aload_n 0, 1) := by decide +kernel
theorem d_Graph_digit_1 : decode prog_6_method_7_code 1 = .ok (.getfield 18, 3) := by decide +kernel
theorem d_Graph_digit_4 : decode prog_6_method_7_code 4 = .ok (.iconst 2, 1) := by decide +kernel
theorem d_Graph_digit_5 : decode prog_6_method_7_code 5 = .ok (.iload_n 3, 1) := by decide +kernel
theorem d_Graph_digit_6 : decode prog_6_method_7_code 6 = .ok (.imul, 1) := by decide +kernel
theorem d_Graph_digit_7 : decode prog_6_method_7_code 7 = .ok (.iconst 1, 1) := by decide +kernel
theorem d_Graph_digit_8 : decode prog_6_method_7_code 8 = .ok (.iadd, 1) := by decide +kernel
theorem d_Graph_digit_9 : decode prog_6_method_7_code 9 = .ok (.iaload, 1) := by decide +kernel
theorem d_Graph_digit_10 : decode prog_6_method_7_code 10 = .ok (.istore 4, 2) := by decide +kernel
theorem d_Graph_digit_12 : decode prog_6_method_7_code 12 = .ok (.aload_n 1, 1) := by decide +kernel
theorem d_Graph_digit_13 : decode prog_6_method_7_code 13 = .ok (.getfield 83, 3) := by decide +kernel
theorem d_Graph_digit_16 : decode prog_6_method_7_code 16 = .ok (.iload_n 3, 1) := by decide +kernel
theorem d_Graph_digit_17 : decode prog_6_method_7_code 17 = .ok (.iaload, 1) := by decide +kernel
theorem d_Graph_digit_18 : decode prog_6_method_7_code 18 = .ok (.istore 5, 2) := by decide +kernel
theorem d_Graph_digit_20 : decode prog_6_method_7_code 20 = .ok (.iload 4, 2) := by decide +kernel
theorem d_Graph_digit_22 : decode prog_6_method_7_code 22 = .ok (.ifCond .le 18, 3) := by decide +kernel
theorem d_Graph_digit_40 : decode prog_6_method_7_code 40 = .ok (.iconst 0, 1) := by decide +kernel
theorem d_Graph_digit_41 : decode prog_6_method_7_code 41 = .ok (.ireturn, 1) := by decide +kernel
theorem d_Graph_digit_25 : decode prog_6_method_7_code 25 = .ok (.iload 5, 2) := by decide +kernel
theorem d_Graph_digit_27 : decode prog_6_method_7_code 27 = .ok (.ifCond .le 13, 3) := by decide +kernel
theorem d_Graph_digit_30 : decode prog_6_method_7_code 30 = .ok (.iload_n 2, 1) := by decide +kernel
theorem d_Graph_digit_31 : decode prog_6_method_7_code 31 = .ok (.iload 4, 2) := by decide +kernel
theorem d_Graph_digit_33 : decode prog_6_method_7_code 33 = .ok (.idiv, 1) := by decide +kernel
theorem d_Graph_digit_34 : decode prog_6_method_7_code 34 = .ok (.iload 5, 2) := by decide +kernel
theorem d_Graph_digit_36 : decode prog_6_method_7_code 36 = .ok (.irem, 1) := by decide +kernel
theorem d_Graph_digit_37 : decode prog_6_method_7_code 37 = .ok (.goto 4, 3) := by decide +kernel
theorem t_Graph_digit_J40 {G : mG} {r : mR} {h : mH}  (hr : f_Graph_digit_J40 h = some r) : mJ G M_Graph_digit 40 [(9, 0), (9, 0), (9, 0), (9, 0), (9, 0), (9, 0)] [] h r := by
  unfold f_Graph_digit_J40 at hr
  refine j_iconst (pc := 40) d_Graph_digit_40 ?_
  exact j_iret (pc := 41) d_Graph_digit_41 rfl hr
theorem t_Graph_digit {G : mG} (h : mH) (v0 v1 v2 v3 : Int) (r : mR) (hr : f_Graph_digit h v0 v1 v2 v3 = some r) : mJM G M_Graph_digit [(2, v0), (2, v1), (0, v2), (0, v3)] h r := by
  refine mJM_of (L := [(2, v0), (2, v1), (0, v2), (0, v3), (9, 0), (9, 0)]) rfl rfl rfl (Nat.le_of_ble_eq_true rfl) ?_
  unfold f_Graph_digit at hr
  refine j_aload_n (pc := 0) d_Graph_digit_0 rfl ?_
  refine j_getf (pc := 1) d_Graph_digit_1 (fd_Graph_18 rfl) hr (fun hr => ?_)
  refine j_iconst (pc := 4) d_Graph_digit_4 ?_
  refine j_iload_n (pc := 5) d_Graph_digit_5 rfl ?_
  refine j_imul (pc := 6) d_Graph_digit_6 ?_
  refine j_iconst (pc := 7) d_Graph_digit_7 ?_
  refine j_iadd (pc := 8) d_Graph_digit_8 ?_
  refine j_iaload (pc := 9) d_Graph_digit_9 hr (fun hr => ?_)
  refine j_istoreW (pc := 10) (L := fun x1 => [(2, v0), (2, v1), (0, v2), (0, v3), (0, x1), (9, 0)]) d_Graph_digit_10 (fun _ => rfl) hr (fun x1 hr => ?_)
  refine j_aload_n (pc := 12) d_Graph_digit_12 rfl ?_
  refine j_getf (pc := 13) d_Graph_digit_13 (fd_Graph_83 rfl) hr (fun hr => ?_)
  refine j_iload_n (pc := 16) d_Graph_digit_16 rfl ?_
  refine j_iaload (pc := 17) d_Graph_digit_17 hr (fun hr => ?_)
  refine j_istoreW (pc := 18) (L := fun x2 => [(2, v0), (2, v1), (0, v2), (0, v3), (0, x1), (0, x2)]) d_Graph_digit_18 (fun _ => rfl) hr (fun x2 hr => ?_)
  refine j_iload (pc := 20) d_Graph_digit_20 rfl ?_
  refine j_if_le (pc := 22) (tgt := 40) d_Graph_digit_22 hr (fun hr => ?_) (fun hr => ?_)
  · exact mJ_weak (ls' := [(9, 0), (9, 0), (9, 0), (9, 0), (9, 0), (9, 0)]) (mwk_d (mwk_d (mwk_d (mwk_d (mwk_d (mwk_d mwk_n)))))) (t_Graph_digit_J40  hr)
  · refine j_iload (pc := 25) d_Graph_digit_25 rfl ?_
    refine j_if_le (pc := 27) (tgt := 40) d_Graph_digit_27 hr (fun hr => ?_) (fun hr => ?_)
    · exact mJ_weak (ls' := [(9, 0), (9, 0), (9, 0), (9, 0), (9, 0), (9, 0)]) (mwk_d (mwk_d (mwk_d (mwk_d (mwk_d (mwk_d mwk_n)))))) (t_Graph_digit_J40  hr)
    · refine j_iload_n (pc := 30) d_Graph_digit_30 rfl ?_
      refine j_iload (pc := 31) d_Graph_digit_31 rfl ?_
      refine j_idiv (pc := 33) d_Graph_digit_33 hr (fun hr => ?_)
      refine j_iload (pc := 34) d_Graph_digit_34 rfl ?_
      refine j_irem (pc := 36) d_Graph_digit_36 hr (fun hr => ?_)
      refine j_goto (pc := 37) (tgt := 41) d_Graph_digit_37 ?_
      exact j_iret (pc := 41) d_Graph_digit_41 rfl hr
def M_Graph_notchMore : mM := ("NineBars$Graph", ⟨"NineBars$Graph", "notchMore", "(LNineBars$Box;[IZ)V"⟩, prog_6_method_6_code, 7, none, [], 3)
theorem tb_co_Graph_notchMore : mTB (Cond.code ⟨"NineBars$Graph", "notchMore", "(LNineBars$Box;[IZ)V"⟩ prog_6_method_6_code 7 (none)) := tbq5 214 (by decide +kernel) rfl
theorem mc_Graph_notchMore {M : mM} (hd : 3 < mDp M) : mCal M M_Graph_notchMore 3 := ⟨tb_co_Graph_notchMore, tb_in_NineBars_Graph, ⟨by decide +kernel, by decide +kernel⟩, by decide +kernel, hd, by decide⟩
theorem d_Graph_notchMore_0 : decode prog_6_method_6_code 0 = .ok (.aload_n 0, 1) := by decide +kernel
theorem d_Graph_notchMore_1 : decode prog_6_method_6_code 1 = .ok (.aload_n 0, 1) := by decide +kernel
theorem d_Graph_notchMore_2 : decode prog_6_method_6_code 2 = .ok (.getfield 34, 3) := by decide +kernel
theorem d_Graph_notchMore_5 : decode prog_6_method_6_code 5 = .ok (.aload_n 0, 1) := by decide +kernel
theorem d_Graph_notchMore_6 : decode prog_6_method_6_code 6 = .ok (.getfield 40, 3) := by decide +kernel
theorem d_Graph_notchMore_9 : decode prog_6_method_6_code 9 = .ok (.sipush 20000, 3) := by decide +kernel
theorem d_Graph_notchMore_12 : decode prog_6_method_6_code 12 = .ok (.invokestatic 50, 3) := by decide +kernel
theorem d_Graph_notchMore_15 : decode prog_6_method_6_code 15 = .ok (.putfield 34, 3) := by decide +kernel
theorem d_Graph_notchMore_18 : decode prog_6_method_6_code 18 = .ok (.aload_n 0, 1) := by decide +kernel
theorem d_Graph_notchMore_19 : decode prog_6_method_6_code 19 = .ok (.getfield 31, 3) := by decide +kernel
theorem d_Graph_notchMore_22 : decode prog_6_method_6_code 22 = .ok (.iconst 0, 1) := by decide +kernel
theorem d_Graph_notchMore_23 : decode prog_6_method_6_code 23 = .ok (.aload_n 0, 1) := by decide +kernel
theorem d_Graph_notchMore_24 : decode prog_6_method_6_code 24 = .ok (.getfield 34, 3) := by decide +kernel
theorem d_Graph_notchMore_27 : decode prog_6_method_6_code 27 = .ok (.iconst 0, 1) := by decide +kernel
theorem d_Graph_notchMore_28 : decode prog_6_method_6_code 28 = .ok (.aload_n 0, 1) := by decide +kernel
theorem d_Graph_notchMore_29 : decode prog_6_method_6_code 29 = .ok (.getfield 40, 3) := by decide +kernel
theorem d_Graph_notchMore_32 : decode prog_6_method_6_code 32 = .ok (.invokestatic 96, 3) := by decide +kernel
theorem tb_ml_Graph_96 : mTB (Cond.methodLink "NineBars$Graph" 96 ⟨"java/lang/System", "arraycopy", "(Ljava/lang/Object;ILjava/lang/Object;II)V"⟩) := tbq5 215 (by decide +kernel) rfl
theorem d_Graph_notchMore_35 : decode prog_6_method_6_code 35 = .ok (.aload_n 2, 1) := by decide +kernel
theorem d_Graph_notchMore_36 : decode prog_6_method_6_code 36 = .ok (.iconst 3, 1) := by decide +kernel
theorem d_Graph_notchMore_37 : decode prog_6_method_6_code 37 = .ok (.iaload, 1) := by decide +kernel
theorem d_Graph_notchMore_38 : decode prog_6_method_6_code 38 = .ok (.aload_n 2, 1) := by decide +kernel
theorem d_Graph_notchMore_39 : decode prog_6_method_6_code 39 = .ok (.iconst 2, 1) := by decide +kernel
theorem d_Graph_notchMore_40 : decode prog_6_method_6_code 40 = .ok (.iaload, 1) := by decide +kernel
theorem d_Graph_notchMore_41 : decode prog_6_method_6_code 41 = .ok (.if_icmp .le 7, 3) := by decide +kernel
theorem d_Graph_notchMore_48 : decode prog_6_method_6_code 48 = .ok (.iconst 1, 1) := by decide +kernel
theorem d_Graph_notchMore_49 : decode prog_6_method_6_code 49 = .ok (.iconst 2, 1) := by decide +kernel
theorem d_Graph_notchMore_50 : decode prog_6_method_6_code 50 = .ok (.aload_n 2, 1) := by decide +kernel
theorem d_Graph_notchMore_51 : decode prog_6_method_6_code 51 = .ok (.iconst 1, 1) := by decide +kernel
theorem d_Graph_notchMore_52 : decode prog_6_method_6_code 52 = .ok (.iaload, 1) := by decide +kernel
theorem d_Graph_notchMore_53 : decode prog_6_method_6_code 53 = .ok (.imul, 1) := by decide +kernel
theorem d_Graph_notchMore_54 : decode prog_6_method_6_code 54 = .ok (.ishl, 1) := by decide +kernel
theorem d_Graph_notchMore_55 : decode prog_6_method_6_code 55 = .ok (.istore 4, 2) := by decide +kernel
theorem d_Graph_notchMore_57 : decode prog_6_method_6_code 57 = .ok (.aload_n 0, 1) := by decide +kernel
theorem d_Graph_notchMore_58 : decode prog_6_method_6_code 58 = .ok (.getfield 15, 3) := by decide +kernel
theorem d_Graph_notchMore_61 : decode prog_6_method_6_code 61 = .ok (.iload 4, 2) := by decide +kernel
theorem d_Graph_notchMore_63 : decode prog_6_method_6_code 63 = .ok (.iand, 1) := by decide +kernel
theorem d_Graph_notchMore_64 : decode prog_6_method_6_code 64 = .ok (.ifCond .eq 4, 3) := by decide +kernel
theorem d_Graph_notchMore_68 : decode prog_6_method_6_code 68 = .ok (.iconst 0, 1) := by decide +kernel
theorem d_Graph_notchMore_69 : decode prog_6_method_6_code 69 = .ok (.istore 5, 2) := by decide +kernel
theorem d_Graph_notchMore_71 : decode prog_6_method_6_code 71 = .ok (.iload 5, 2) := by decide +kernel
theorem d_Graph_notchMore_73 : decode prog_6_method_6_code 73 = .ok (.aload_n 0, 1) := by decide +kernel
theorem d_Graph_notchMore_74 : decode prog_6_method_6_code 74 = .ok (.getfield 40, 3) := by decide +kernel
theorem d_Graph_notchMore_77 : decode prog_6_method_6_code 77 = .ok (.if_icmp .ge 129, 3) := by decide +kernel
theorem d_Graph_notchMore_206 : decode prog_6_method_6_code 206 = .ok (.return_, 1) := by decide +kernel
theorem d_Graph_notchMore_80 : decode prog_6_method_6_code 80 = .ok (.aload_n 0, 1) := by decide +kernel
theorem d_Graph_notchMore_81 : decode prog_6_method_6_code 81 = .ok (.getfield 25, 3) := by decide +kernel
theorem d_Graph_notchMore_84 : decode prog_6_method_6_code 84 = .ok (.iload 5, 2) := by decide +kernel
theorem d_Graph_notchMore_86 : decode prog_6_method_6_code 86 = .ok (.iaload, 1) := by decide +kernel
theorem d_Graph_notchMore_87 : decode prog_6_method_6_code 87 = .ok (.iload 4, 2) := by decide +kernel
theorem d_Graph_notchMore_89 : decode prog_6_method_6_code 89 = .ok (.iand, 1) := by decide +kernel
theorem d_Graph_notchMore_90 : decode prog_6_method_6_code 90 = .ok (.ifCond .eq 110, 3) := by decide +kernel
theorem d_Graph_notchMore_200 : decode prog_6_method_6_code 200 = .ok (.iinc 5 1, 3) := by decide +kernel
theorem d_Graph_notchMore_203 : decode prog_6_method_6_code 203 = .ok (.goto (-132), 3) := by decide +kernel
theorem d_Graph_notchMore_93 : decode prog_6_method_6_code 93 = .ok (.aload_n 0, 1) := by decide +kernel
theorem d_Graph_notchMore_94 : decode prog_6_method_6_code 94 = .ok (.aload_n 1, 1) := by decide +kernel
theorem d_Graph_notchMore_95 : decode prog_6_method_6_code 95 = .ok (.iload 5, 2) := by decide +kernel
theorem d_Graph_notchMore_97 : decode prog_6_method_6_code 97 = .ok (.aload_n 2, 1) := by decide +kernel
theorem d_Graph_notchMore_98 : decode prog_6_method_6_code 98 = .ok (.iconst 1, 1) := by decide +kernel
theorem d_Graph_notchMore_99 : decode prog_6_method_6_code 99 = .ok (.iaload, 1) := by decide +kernel
theorem d_Graph_notchMore_100 : decode prog_6_method_6_code 100 = .ok (.invokevirtual 102, 3) := by decide +kernel
theorem tb_ml_Graph_102 : mTB (Cond.methodLink "NineBars$Graph" 102 ⟨"NineBars$Graph", "digit", "(LNineBars$Box;II)I"⟩) := tbq5 216 (by decide +kernel) rfl
theorem tb_im_Graph_digit : mTB (Cond.instanceMethod ⟨"NineBars$Graph", "digit", "(LNineBars$Box;II)I"⟩) := tbq5 218 (by decide +kernel) rfl
theorem tb_se_Graph_digit : mTB (Cond.selects "NineBars$Graph" ⟨"NineBars$Graph", "digit", "(LNineBars$Box;II)I"⟩ ⟨"NineBars$Graph", "digit", "(LNineBars$Box;II)I"⟩) := tbqp 33 (by decide +kernel) rfl
theorem mv_Graph_digit {M : mM} {idx : Nat} (h : mTB (Cond.methodLink (mO M) idx ⟨"NineBars$Graph", "digit", "(LNineBars$Box;II)I"⟩)) : mCaV M M_Graph_digit idx 4 := ⟨h, tb_im_Graph_digit, tb_se_Graph_digit, by decide, TX4, 11, rfl⟩
theorem d_Graph_notchMore_103 : decode prog_6_method_6_code 103 = .ok (.aload_n 2, 1) := by decide +kernel
theorem d_Graph_notchMore_104 : decode prog_6_method_6_code 104 = .ok (.iconst 2, 1) := by decide +kernel
theorem d_Graph_notchMore_105 : decode prog_6_method_6_code 105 = .ok (.iaload, 1) := by decide +kernel
theorem d_Graph_notchMore_106 : decode prog_6_method_6_code 106 = .ok (.if_icmp .ne 94, 3) := by decide +kernel
theorem d_Graph_notchMore_109 : decode prog_6_method_6_code 109 = .ok (.aload_n 0, 1) := by decide +kernel
theorem d_Graph_notchMore_110 : decode prog_6_method_6_code 110 = .ok (.aload_n 1, 1) := by decide +kernel
theorem d_Graph_notchMore_111 : decode prog_6_method_6_code 111 = .ok (.iload 5, 2) := by decide +kernel
theorem d_Graph_notchMore_113 : decode prog_6_method_6_code 113 = .ok (.aload_n 2, 1) := by decide +kernel
theorem d_Graph_notchMore_114 : decode prog_6_method_6_code 114 = .ok (.iconst 4, 1) := by decide +kernel
theorem d_Graph_notchMore_115 : decode prog_6_method_6_code 115 = .ok (.iaload, 1) := by decide +kernel
theorem d_Graph_notchMore_116 : decode prog_6_method_6_code 116 = .ok (.invokevirtual 102, 3) := by decide +kernel
theorem d_Graph_notchMore_119 : decode prog_6_method_6_code 119 = .ok (.aload_n 2, 1) := by decide +kernel
theorem d_Graph_notchMore_120 : decode prog_6_method_6_code 120 = .ok (.bipush 6, 2) := by decide +kernel
theorem d_Graph_notchMore_122 : decode prog_6_method_6_code 122 = .ok (.iaload, 1) := by decide +kernel
theorem d_Graph_notchMore_123 : decode prog_6_method_6_code 123 = .ok (.if_icmp .ne 7, 3) := by decide +kernel
theorem d_Graph_notchMore_130 : decode prog_6_method_6_code 130 = .ok (.iconst 0, 1) := by decide +kernel
theorem d_Graph_notchMore_131 : decode prog_6_method_6_code 131 = .ok (.aload_n 2, 1) := by decide +kernel
theorem d_Graph_notchMore_132 : decode prog_6_method_6_code 132 = .ok (.iconst 5, 1) := by decide +kernel
theorem d_Graph_notchMore_133 : decode prog_6_method_6_code 133 = .ok (.iaload, 1) := by decide +kernel
theorem d_Graph_notchMore_134 : decode prog_6_method_6_code 134 = .ok (.iconst 1, 1) := by decide +kernel
theorem d_Graph_notchMore_135 : decode prog_6_method_6_code 135 = .ok (.if_icmp .ne 7, 3) := by decide +kernel
theorem d_Graph_notchMore_142 : decode prog_6_method_6_code 142 = .ok (.iconst 0, 1) := by decide +kernel
theorem d_Graph_notchMore_143 : decode prog_6_method_6_code 143 = .ok (.if_icmp .eq 7, 3) := by decide +kernel
theorem d_Graph_notchMore_150 : decode prog_6_method_6_code 150 = .ok (.iconst 0, 1) := by decide +kernel
theorem d_Graph_notchMore_151 : decode prog_6_method_6_code 151 = .ok (.istore 6, 2) := by decide +kernel
theorem d_Graph_notchMore_153 : decode prog_6_method_6_code 153 = .ok (.iload 6, 2) := by decide +kernel
theorem d_Graph_notchMore_155 : decode prog_6_method_6_code 155 = .ok (.ifCond .eq 22, 3) := by decide +kernel
theorem d_Graph_notchMore_177 : decode prog_6_method_6_code 177 = .ok (.iload 6, 2) := by decide +kernel
theorem d_Graph_notchMore_179 : decode prog_6_method_6_code 179 = .ok (.ifCond .ne 21, 3) := by decide +kernel
theorem d_Graph_notchMore_182 : decode prog_6_method_6_code 182 = .ok (.iload_n 3, 1) := by decide +kernel
theorem d_Graph_notchMore_183 : decode prog_6_method_6_code 183 = .ok (.ifCond .ne 17, 3) := by decide +kernel
theorem d_Graph_notchMore_186 : decode prog_6_method_6_code 186 = .ok (.aload_n 0, 1) := by decide +kernel
theorem d_Graph_notchMore_187 : decode prog_6_method_6_code 187 = .ok (.getfield 34, 3) := by decide +kernel
theorem d_Graph_notchMore_190 : decode prog_6_method_6_code 190 = .ok (.iload 5, 2) := by decide +kernel
theorem d_Graph_notchMore_192 : decode prog_6_method_6_code 192 = .ok (.dup2, 1) := by decide +kernel
theorem d_Graph_notchMore_193 : decode prog_6_method_6_code 193 = .ok (.iaload, 1) := by decide +kernel
theorem d_Graph_notchMore_194 : decode prog_6_method_6_code 194 = .ok (.iload 4, 2) := by decide +kernel
theorem d_Graph_notchMore_196 : decode prog_6_method_6_code 196 = .ok (.iconst (-1), 1) := by decide +kernel
theorem d_Graph_notchMore_197 : decode prog_6_method_6_code 197 = .ok (.ixor, 1) := by decide +kernel
theorem d_Graph_notchMore_198 : decode prog_6_method_6_code 198 = .ok (.iand, 1) := by decide +kernel
theorem d_Graph_notchMore_199 : decode prog_6_method_6_code 199 = .ok (.iastore, 1) := by decide +kernel
theorem d_Graph_notchMore_158 : decode prog_6_method_6_code 158 = .ok (.iload_n 3, 1) := by decide +kernel
theorem d_Graph_notchMore_159 : decode prog_6_method_6_code 159 = .ok (.ifCond .eq 18, 3) := by decide +kernel
theorem d_Graph_notchMore_162 : decode prog_6_method_6_code 162 = .ok (.aload_n 0, 1) := by decide +kernel
theorem d_Graph_notchMore_163 : decode prog_6_method_6_code 163 = .ok (.getfield 34, 3) := by decide +kernel
theorem d_Graph_notchMore_166 : decode prog_6_method_6_code 166 = .ok (.iload 5, 2) := by decide +kernel
theorem d_Graph_notchMore_168 : decode prog_6_method_6_code 168 = .ok (.dup2, 1) := by decide +kernel
theorem d_Graph_notchMore_169 : decode prog_6_method_6_code 169 = .ok (.iaload, 1) := by decide +kernel
theorem d_Graph_notchMore_170 : decode prog_6_method_6_code 170 = .ok (.iload 4, 2) := by decide +kernel
theorem d_Graph_notchMore_172 : decode prog_6_method_6_code 172 = .ok (.ior, 1) := by decide +kernel
theorem d_Graph_notchMore_173 : decode prog_6_method_6_code 173 = .ok (.iastore, 1) := by decide +kernel
theorem d_Graph_notchMore_174 : decode prog_6_method_6_code 174 = .ok (.goto 26, 3) := by decide +kernel
theorem d_Graph_notchMore_146 : decode prog_6_method_6_code 146 = .ok (.iconst 1, 1) := by decide +kernel
theorem d_Graph_notchMore_147 : decode prog_6_method_6_code 147 = .ok (.goto 4, 3) := by decide +kernel
theorem d_Graph_notchMore_138 : decode prog_6_method_6_code 138 = .ok (.iconst 1, 1) := by decide +kernel
theorem d_Graph_notchMore_139 : decode prog_6_method_6_code 139 = .ok (.goto 4, 3) := by decide +kernel
theorem d_Graph_notchMore_126 : decode prog_6_method_6_code 126 = .ok (.iconst 1, 1) := by decide +kernel
theorem d_Graph_notchMore_127 : decode prog_6_method_6_code 127 = .ok (.goto 4, 3) := by decide +kernel
theorem d_Graph_notchMore_67 : decode prog_6_method_6_code 67 = .ok (.return_, 1) := by decide +kernel
theorem d_Graph_notchMore_44 : decode prog_6_method_6_code 44 = .ok (.iconst 2, 1) := by decide +kernel
theorem d_Graph_notchMore_45 : decode prog_6_method_6_code 45 = .ok (.goto 4, 3) := by decide +kernel
theorem t_Graph_notchMore_J200 {G : mG} {r : mR} {v0 v1 v2 v3 v4 v5 : Int} {h : mH} {R71 : mH → Int → Option mR} (hR71 : ∀ (h : mH) (w5 : Int) , R71 h w5 = some r → mJ G M_Graph_notchMore 71 [(2, v0), (2, v1), (2, v2), (0, v3), (0, v4), (0, w5), (9, 0)] [] h r) (hr : f_Graph_notchMore_J200 R71 v5 h = some r) : mJ G M_Graph_notchMore 200 [(2, v0), (2, v1), (2, v2), (0, v3), (0, v4), (0, v5), (9, 0)] [] h r := by
  unfold f_Graph_notchMore_J200 at hr
  refine j_iincW (pc := 200) (L := fun x1 => [(2, v0), (2, v1), (2, v2), (0, v3), (0, v4), (0, x1), (9, 0)]) d_Graph_notchMore_200 rfl (fun _ => rfl) hr (fun x1 hr => ?_)
  refine j_goto (pc := 203) (tgt := 71) d_Graph_notchMore_203 ?_
  exact mJ_weak (ls' := [(2, v0), (2, v1), (2, v2), (0, v3), (0, v4), (0, x1), (9, 0)]) (mwk_s (mwk_s (mwk_s (mwk_s (mwk_s (mwk_s (mwk_s mwk_n))))))) (hR71 h _ hr)
theorem t_Graph_notchMore_J177 {G : mG} {r : mR} {v0 v1 v2 v3 v4 v5 v6 : Int} {h : mH} {R71 : mH → Int → Option mR} (hR71 : ∀ (h : mH) (w5 : Int) , R71 h w5 = some r → mJ G M_Graph_notchMore 71 [(2, v0), (2, v1), (2, v2), (0, v3), (0, v4), (0, w5), (9, 0)] [] h r) (hr : f_Graph_notchMore_J177 R71 v0 v3 v4 v5 v6 h = some r) : mJ G M_Graph_notchMore 177 [(2, v0), (2, v1), (2, v2), (0, v3), (0, v4), (0, v5), (0, v6)] [] h r := by
  unfold f_Graph_notchMore_J177 at hr
  refine j_iload (pc := 177) d_Graph_notchMore_177 rfl ?_
  refine j_if_ne (pc := 179) (tgt := 200) d_Graph_notchMore_179 hr (fun hr => ?_) (fun hr => ?_)
  · exact mJ_weak (ls' := [(2, v0), (2, v1), (2, v2), (0, v3), (0, v4), (0, v5), (9, 0)]) (mwk_s (mwk_s (mwk_s (mwk_s (mwk_s (mwk_s (mwk_d mwk_n))))))) (t_Graph_notchMore_J200 hR71 hr)
  · refine j_iload_n (pc := 182) d_Graph_notchMore_182 rfl ?_
    refine j_if_ne (pc := 183) (tgt := 200) d_Graph_notchMore_183 hr (fun hr => ?_) (fun hr => ?_)
    · exact mJ_weak (ls' := [(2, v0), (2, v1), (2, v2), (0, v3), (0, v4), (0, v5), (9, 0)]) (mwk_s (mwk_s (mwk_s (mwk_s (mwk_s (mwk_s (mwk_d mwk_n))))))) (t_Graph_notchMore_J200 hR71 hr)
    · refine j_aload_n (pc := 186) d_Graph_notchMore_186 rfl ?_
      refine j_getf (pc := 187) d_Graph_notchMore_187 (fd_Graph_34 rfl) hr (fun hr => ?_)
      refine j_iload (pc := 190) d_Graph_notchMore_190 rfl ?_
      refine j_dup2 (pc := 192) d_Graph_notchMore_192 ?_
      refine j_iaload (pc := 193) d_Graph_notchMore_193 hr (fun hr => ?_)
      refine j_iload (pc := 194) d_Graph_notchMore_194 rfl ?_
      refine j_iconst (pc := 196) d_Graph_notchMore_196 ?_
      refine j_ixor (pc := 197) d_Graph_notchMore_197 ?_
      refine j_iand (pc := 198) d_Graph_notchMore_198 ?_
      refine j_iastore (pc := 199) d_Graph_notchMore_199 hr (fun h1 hr => ?_)
      exact mJ_weak (ls' := [(2, v0), (2, v1), (2, v2), (0, v3), (0, v4), (0, v5), (9, 0)]) (mwk_s (mwk_s (mwk_s (mwk_s (mwk_s (mwk_s (mwk_d mwk_n))))))) (t_Graph_notchMore_J200 hR71 hr)
theorem t_Graph_notchMore_J151 {G : mG} {r : mR} {v0 v1 v2 v3 v4 v5 s0 : Int} {h : mH} {R71 : mH → Int → Option mR} (hR71 : ∀ (h : mH) (w5 : Int) , R71 h w5 = some r → mJ G M_Graph_notchMore 71 [(2, v0), (2, v1), (2, v2), (0, v3), (0, v4), (0, w5), (9, 0)] [] h r) (hr : f_Graph_notchMore_J151 R71 v0 v3 v4 v5 s0 h = some r) : mJ G M_Graph_notchMore 151 [(2, v0), (2, v1), (2, v2), (0, v3), (0, v4), (0, v5), (9, 0)] [(0, s0)] h r := by
  unfold f_Graph_notchMore_J151 at hr
  refine j_istore (pc := 151) (ls' := [(2, v0), (2, v1), (2, v2), (0, v3), (0, v4), (0, v5), (0, s0)]) d_Graph_notchMore_151 rfl ?_
  refine j_iload (pc := 153) d_Graph_notchMore_153 rfl ?_
  refine j_if_eq (pc := 155) (tgt := 177) d_Graph_notchMore_155 hr (fun hr => ?_) (fun hr => ?_)
  · exact mJ_weak (ls' := [(2, v0), (2, v1), (2, v2), (0, v3), (0, v4), (0, v5), (0, s0)]) (mwk_s (mwk_s (mwk_s (mwk_s (mwk_s (mwk_s (mwk_s mwk_n))))))) (t_Graph_notchMore_J177 hR71 hr)
  · refine j_iload_n (pc := 158) d_Graph_notchMore_158 rfl ?_
    refine j_if_eq (pc := 159) (tgt := 177) d_Graph_notchMore_159 hr (fun hr => ?_) (fun hr => ?_)
    · exact mJ_weak (ls' := [(2, v0), (2, v1), (2, v2), (0, v3), (0, v4), (0, v5), (0, s0)]) (mwk_s (mwk_s (mwk_s (mwk_s (mwk_s (mwk_s (mwk_s mwk_n))))))) (t_Graph_notchMore_J177 hR71 hr)
    · refine j_aload_n (pc := 162) d_Graph_notchMore_162 rfl ?_
      refine j_getf (pc := 163) d_Graph_notchMore_163 (fd_Graph_34 rfl) hr (fun hr => ?_)
      refine j_iload (pc := 166) d_Graph_notchMore_166 rfl ?_
      refine j_dup2 (pc := 168) d_Graph_notchMore_168 ?_
      refine j_iaload (pc := 169) d_Graph_notchMore_169 hr (fun hr => ?_)
      refine j_iload (pc := 170) d_Graph_notchMore_170 rfl ?_
      refine j_ior (pc := 172) d_Graph_notchMore_172 ?_
      refine j_iastore (pc := 173) d_Graph_notchMore_173 hr (fun h1 hr => ?_)
      refine j_goto (pc := 174) (tgt := 200) d_Graph_notchMore_174 ?_
      exact mJ_weak (ls' := [(2, v0), (2, v1), (2, v2), (0, v3), (0, v4), (0, v5), (9, 0)]) (mwk_s (mwk_s (mwk_s (mwk_s (mwk_s (mwk_s (mwk_d mwk_n))))))) (t_Graph_notchMore_J200 hR71 hr)
theorem t_Graph_notchMore_J143 {G : mG} {r : mR} {v0 v1 v2 v3 v4 v5 s0 s1 : Int} {h : mH} {R71 : mH → Int → Option mR} (hR71 : ∀ (h : mH) (w5 : Int) , R71 h w5 = some r → mJ G M_Graph_notchMore 71 [(2, v0), (2, v1), (2, v2), (0, v3), (0, v4), (0, w5), (9, 0)] [] h r) (hr : f_Graph_notchMore_J143 R71 v0 v3 v4 v5 s0 s1 h = some r) : mJ G M_Graph_notchMore 143 [(2, v0), (2, v1), (2, v2), (0, v3), (0, v4), (0, v5), (9, 0)] [(0, s1), (0, s0)] h r := by
  unfold f_Graph_notchMore_J143 at hr
  refine j_icmp_eq (pc := 143) (tgt := 150) d_Graph_notchMore_143 hr (fun hr => ?_) (fun hr => ?_)
  · refine j_iconst (pc := 150) d_Graph_notchMore_150 ?_
    exact mJ_weak (ls' := [(2, v0), (2, v1), (2, v2), (0, v3), (0, v4), (0, v5), (9, 0)]) (mwk_s (mwk_s (mwk_s (mwk_s (mwk_s (mwk_s (mwk_s mwk_n))))))) (t_Graph_notchMore_J151 hR71 hr)
  · refine j_iconst (pc := 146) d_Graph_notchMore_146 ?_
    refine j_goto (pc := 147) (tgt := 151) d_Graph_notchMore_147 ?_
    exact mJ_weak (ls' := [(2, v0), (2, v1), (2, v2), (0, v3), (0, v4), (0, v5), (9, 0)]) (mwk_s (mwk_s (mwk_s (mwk_s (mwk_s (mwk_s (mwk_s mwk_n))))))) (t_Graph_notchMore_J151 hR71 hr)
theorem t_Graph_notchMore_J131 {G : mG} {r : mR} {v0 v1 v2 v3 v4 v5 s0 : Int} {h : mH} {R71 : mH → Int → Option mR} (hR71 : ∀ (h : mH) (w5 : Int) , R71 h w5 = some r → mJ G M_Graph_notchMore 71 [(2, v0), (2, v1), (2, v2), (0, v3), (0, v4), (0, w5), (9, 0)] [] h r) (hr : f_Graph_notchMore_J131 R71 v0 v2 v3 v4 v5 s0 h = some r) : mJ G M_Graph_notchMore 131 [(2, v0), (2, v1), (2, v2), (0, v3), (0, v4), (0, v5), (9, 0)] [(0, s0)] h r := by
  unfold f_Graph_notchMore_J131 at hr
  refine j_aload_n (pc := 131) d_Graph_notchMore_131 rfl ?_
  refine j_iconst (pc := 132) d_Graph_notchMore_132 ?_
  refine j_iaload (pc := 133) d_Graph_notchMore_133 hr (fun hr => ?_)
  refine j_iconst (pc := 134) d_Graph_notchMore_134 ?_
  refine j_icmp_ne (pc := 135) (tgt := 142) d_Graph_notchMore_135 hr (fun hr => ?_) (fun hr => ?_)
  · refine j_iconst (pc := 142) d_Graph_notchMore_142 ?_
    exact mJ_weak (ls' := [(2, v0), (2, v1), (2, v2), (0, v3), (0, v4), (0, v5), (9, 0)]) (mwk_s (mwk_s (mwk_s (mwk_s (mwk_s (mwk_s (mwk_s mwk_n))))))) (t_Graph_notchMore_J143 hR71 hr)
  · refine j_iconst (pc := 138) d_Graph_notchMore_138 ?_
    refine j_goto (pc := 139) (tgt := 143) d_Graph_notchMore_139 ?_
    exact mJ_weak (ls' := [(2, v0), (2, v1), (2, v2), (0, v3), (0, v4), (0, v5), (9, 0)]) (mwk_s (mwk_s (mwk_s (mwk_s (mwk_s (mwk_s (mwk_s mwk_n))))))) (t_Graph_notchMore_J143 hR71 hr)
theorem t_Graph_notchMore_L71 {G : mG} {r : mR} {v0 v1 v2 v3 v4 : Int}  : ∀ (n : Nat) (h : mH) (v5 : Int), f_Graph_notchMore_L71 v0 v1 v2 v3 v4 n h v5 = some r → mJ G M_Graph_notchMore 71 [(2, v0), (2, v1), (2, v2), (0, v3), (0, v4), (0, v5), (9, 0)] [] h r := by
  intro n
  induction n with
  | zero =>
    intro h v5 hr
    rw [f_Graph_notchMore_L71] at hr
    cases hr
  | succ n hR71 =>
    intro h v5 hr
    rw [f_Graph_notchMore_L71] at hr
    refine j_iload (pc := 71) d_Graph_notchMore_71 rfl ?_
    refine j_aload_n (pc := 73) d_Graph_notchMore_73 rfl ?_
    refine j_getf (pc := 74) d_Graph_notchMore_74 (fd_Graph_40 rfl) hr (fun hr => ?_)
    refine j_icmp_ge (pc := 77) (tgt := 206) d_Graph_notchMore_77 hr (fun hr => ?_) (fun hr => ?_)
    · exact j_vret (pc := 206) d_Graph_notchMore_206 rfl hr
    · refine j_aload_n (pc := 80) d_Graph_notchMore_80 rfl ?_
      refine j_getf (pc := 81) d_Graph_notchMore_81 (fd_Graph_25 rfl) hr (fun hr => ?_)
      refine j_iload (pc := 84) d_Graph_notchMore_84 rfl ?_
      refine j_iaload (pc := 86) d_Graph_notchMore_86 hr (fun hr => ?_)
      refine j_iload (pc := 87) d_Graph_notchMore_87 rfl ?_
      refine j_iand (pc := 89) d_Graph_notchMore_89 ?_
      refine j_if_eq (pc := 90) (tgt := 200) d_Graph_notchMore_90 hr (fun hr => ?_) (fun hr => ?_)
      · exact mJ_weak (ls' := [(2, v0), (2, v1), (2, v2), (0, v3), (0, v4), (0, v5), (9, 0)]) (mwk_s (mwk_s (mwk_s (mwk_s (mwk_s (mwk_s (mwk_s mwk_n))))))) (t_Graph_notchMore_J200 hR71 hr)
      · refine j_aload_n (pc := 93) d_Graph_notchMore_93 rfl ?_
        refine j_aload_n (pc := 94) d_Graph_notchMore_94 rfl ?_
        refine j_iload (pc := 95) d_Graph_notchMore_95 rfl ?_
        refine j_aload_n (pc := 97) d_Graph_notchMore_97 rfl ?_
        refine j_iconst (pc := 98) d_Graph_notchMore_98 ?_
        refine j_iaload (pc := 99) d_Graph_notchMore_99 hr (fun hr => ?_)
        obtain ⟨ha, hr⟩ := chk_some hr
        refine j_callG (pc := 100) (stk := [(0, hpV h v2 1), (0, v5), (2, v1), (2, v0)]) (as := [(2, v0), (2, v1), (0, v5), (0, hpV h v2 1)]) (P := (fun v9 => ((0 : Nat), v9) :: [])) (tg := 0) (My := M_Graph_digit) (mRunV (as := [(2, v1), (0, v5), (0, hpV h v2 1)]) (st := []) d_Graph_notchMore_100 (mc_Graph_digit (by decide)) rfl (mv_Graph_digit tb_ml_Graph_102) rfl (Nat.le_of_ble_eq_true rfl) ha) (fun v => rfl) rfl hr (fun r1 h1 => t_Graph_digit _ _ _ _ _ _ h1) (fun x2 h1 hr => ?_)
        refine j_aload_n (pc := 103) d_Graph_notchMore_103 rfl ?_
        refine j_iconst (pc := 104) d_Graph_notchMore_104 ?_
        refine j_iaload (pc := 105) d_Graph_notchMore_105 hr (fun hr => ?_)
        refine j_icmp_ne (pc := 106) (tgt := 200) d_Graph_notchMore_106 hr (fun hr => ?_) (fun hr => ?_)
        · exact mJ_weak (ls' := [(2, v0), (2, v1), (2, v2), (0, v3), (0, v4), (0, v5), (9, 0)]) (mwk_s (mwk_s (mwk_s (mwk_s (mwk_s (mwk_s (mwk_s mwk_n))))))) (t_Graph_notchMore_J200 hR71 hr)
        · refine j_aload_n (pc := 109) d_Graph_notchMore_109 rfl ?_
          refine j_aload_n (pc := 110) d_Graph_notchMore_110 rfl ?_
          refine j_iload (pc := 111) d_Graph_notchMore_111 rfl ?_
          refine j_aload_n (pc := 113) d_Graph_notchMore_113 rfl ?_
          refine j_iconst (pc := 114) d_Graph_notchMore_114 ?_
          refine j_iaload (pc := 115) d_Graph_notchMore_115 hr (fun hr => ?_)
          obtain ⟨ha, hr⟩ := chk_some hr
          refine j_callG (pc := 116) (stk := [(0, hpV h1 v2 4), (0, v5), (2, v1), (2, v0)]) (as := [(2, v0), (2, v1), (0, v5), (0, hpV h1 v2 4)]) (P := (fun v9 => ((0 : Nat), v9) :: [])) (tg := 0) (My := M_Graph_digit) (mRunV (as := [(2, v1), (0, v5), (0, hpV h1 v2 4)]) (st := []) d_Graph_notchMore_116 (mc_Graph_digit (by decide)) rfl (mv_Graph_digit tb_ml_Graph_102) rfl (Nat.le_of_ble_eq_true rfl) ha) (fun v => rfl) rfl hr (fun r1 h1 => t_Graph_digit _ _ _ _ _ _ h1) (fun x4 h3 hr => ?_)
          refine j_aload_n (pc := 119) d_Graph_notchMore_119 rfl ?_
          refine j_bipush (pc := 120) d_Graph_notchMore_120 ?_
          refine j_iaload (pc := 122) d_Graph_notchMore_122 hr (fun hr => ?_)
          refine j_icmp_ne (pc := 123) (tgt := 130) d_Graph_notchMore_123 hr (fun hr => ?_) (fun hr => ?_)
          · refine j_iconst (pc := 130) d_Graph_notchMore_130 ?_
            exact mJ_weak (ls' := [(2, v0), (2, v1), (2, v2), (0, v3), (0, v4), (0, v5), (9, 0)]) (mwk_s (mwk_s (mwk_s (mwk_s (mwk_s (mwk_s (mwk_s mwk_n))))))) (t_Graph_notchMore_J131 hR71 hr)
          · refine j_iconst (pc := 126) d_Graph_notchMore_126 ?_
            refine j_goto (pc := 127) (tgt := 131) d_Graph_notchMore_127 ?_
            exact mJ_weak (ls' := [(2, v0), (2, v1), (2, v2), (0, v3), (0, v4), (0, v5), (9, 0)]) (mwk_s (mwk_s (mwk_s (mwk_s (mwk_s (mwk_s (mwk_s mwk_n))))))) (t_Graph_notchMore_J131 hR71 hr)
theorem t_Graph_notchMore_J49 {G : mG} {r : mR} {v0 v1 v2 v3 s0 : Int} {h : mH}  (hr : f_Graph_notchMore_J49 v0 v1 v2 v3 s0 h = some r) : mJ G M_Graph_notchMore 49 [(2, v0), (2, v1), (2, v2), (0, v3), (9, 0), (9, 0), (9, 0)] [(0, s0)] h r := by
  unfold f_Graph_notchMore_J49 at hr
  refine j_iconst (pc := 49) d_Graph_notchMore_49 ?_
  refine j_aload_n (pc := 50) d_Graph_notchMore_50 rfl ?_
  refine j_iconst (pc := 51) d_Graph_notchMore_51 ?_
  refine j_iaload (pc := 52) d_Graph_notchMore_52 hr (fun hr => ?_)
  refine j_imul (pc := 53) d_Graph_notchMore_53 ?_
  refine j_ishl (pc := 54) d_Graph_notchMore_54 ?_
  refine j_istoreW (pc := 55) (L := fun x1 => [(2, v0), (2, v1), (2, v2), (0, v3), (0, x1), (9, 0), (9, 0)]) d_Graph_notchMore_55 (fun _ => rfl) hr (fun x1 hr => ?_)
  refine j_aload_n (pc := 57) d_Graph_notchMore_57 rfl ?_
  refine j_getf (pc := 58) d_Graph_notchMore_58 (fd_Graph_15 rfl) hr (fun hr => ?_)
  refine j_iload (pc := 61) d_Graph_notchMore_61 rfl ?_
  refine j_iand (pc := 63) d_Graph_notchMore_63 ?_
  refine j_if_eq (pc := 64) (tgt := 68) d_Graph_notchMore_64 hr (fun hr => ?_) (fun hr => ?_)
  · refine j_iconst (pc := 68) d_Graph_notchMore_68 ?_
    refine j_istore (pc := 69) (ls' := [(2, v0), (2, v1), (2, v2), (0, v3), (0, x1), (0, 0), (9, 0)]) d_Graph_notchMore_69 rfl ?_
    refine mJ_weak (ls' := [(2, v0), (2, v1), (2, v2), (0, v3), (0, x1), (0, 0), (9, 0)]) (mwk_s (mwk_s (mwk_s (mwk_s (mwk_s (mwk_s (mwk_s mwk_n))))))) (t_Graph_notchMore_L71  _ _ _ hr)
  · exact j_vret (pc := 67) d_Graph_notchMore_67 rfl hr
theorem t_Graph_notchMore {G : mG} (h : mH) (v0 v1 v2 v3 : Int) (r : mR) (hr : f_Graph_notchMore h v0 v1 v2 v3 = some r) : mJM G M_Graph_notchMore [(2, v0), (2, v1), (2, v2), (0, v3)] h r := by
  refine mJM_of (L := [(2, v0), (2, v1), (2, v2), (0, v3), (9, 0), (9, 0), (9, 0)]) rfl rfl rfl (Nat.le_of_ble_eq_true rfl) ?_
  unfold f_Graph_notchMore at hr
  refine j_aload_n (pc := 0) d_Graph_notchMore_0 rfl ?_
  refine j_aload_n (pc := 1) d_Graph_notchMore_1 rfl ?_
  refine j_getf (pc := 2) d_Graph_notchMore_2 (fd_Graph_34 rfl) hr (fun hr => ?_)
  refine j_aload_n (pc := 5) d_Graph_notchMore_5 rfl ?_
  refine j_getf (pc := 6) d_Graph_notchMore_6 (fd_Graph_40 rfl) hr (fun hr => ?_)
  refine j_sipush (pc := 9) d_Graph_notchMore_9 ?_
  refine j_callR (pc := 12) (stk := [(0, 20000), (0, hpV h v0 2), (2, hpV h v0 10), (2, v0)]) (as := [(2, hpV h v0 10), (0, hpV h v0 2), (0, 20000)]) (P := (fun v9 => ((2 : Nat), v9) :: [(2, v0)])) (tg := 2) (My := M_Nb_grown) (by decide) (mRunN (as := [(2, hpV h v0 10), (0, hpV h v0 2), (0, 20000)]) (st := [(2, v0)]) d_Graph_notchMore_12 (mc_Nb_grown (by decide)) rfl ⟨⟨_, tb_mn_Graph_50⟩, tb_sm_Nb_grown⟩ rfl (Nat.le_of_ble_eq_true rfl)) (fun v => rfl) hr (fun r1 h1 => t_Nb_grown _ _ _ _ _ h1) (fun x2 h1 hr => ?_)
  refine j_puta (pc := 15) d_Graph_notchMore_15 (fd_Graph_34 rfl) (⟨_, _, _, rfl, Or.inl rfl, rfl⟩ : mFldW M_Graph_notchMore 34 4 10 (.array .int)) (Or.inr ⟨_, rfl⟩) hr (fun h3 hr => ?_)
  refine j_aload_n (pc := 18) d_Graph_notchMore_18 rfl ?_
  refine j_getf (pc := 19) d_Graph_notchMore_19 (fd_Graph_31 rfl) hr (fun hr => ?_)
  refine j_iconst (pc := 22) d_Graph_notchMore_22 ?_
  refine j_aload_n (pc := 23) d_Graph_notchMore_23 rfl ?_
  refine j_getf (pc := 24) d_Graph_notchMore_24 (fd_Graph_34 rfl) hr (fun hr => ?_)
  refine j_iconst (pc := 27) d_Graph_notchMore_27 ?_
  refine j_aload_n (pc := 28) d_Graph_notchMore_28 rfl ?_
  refine j_getf (pc := 29) d_Graph_notchMore_29 (fd_Graph_40 rfl) hr (fun hr => ?_)
  refine j_copyI (pc := 32) d_Graph_notchMore_32 tb_ml_Graph_96 tb_nt_copy tb_sm_copy tb_in_java_lang_System (Nat.le_of_ble_eq_true rfl) hr (fun h4 hr => ?_)
  refine j_aload_n (pc := 35) d_Graph_notchMore_35 rfl ?_
  refine j_iconst (pc := 36) d_Graph_notchMore_36 ?_
  refine j_iaload (pc := 37) d_Graph_notchMore_37 hr (fun hr => ?_)
  refine j_aload_n (pc := 38) d_Graph_notchMore_38 rfl ?_
  refine j_iconst (pc := 39) d_Graph_notchMore_39 ?_
  refine j_iaload (pc := 40) d_Graph_notchMore_40 hr (fun hr => ?_)
  refine j_icmp_le (pc := 41) (tgt := 48) d_Graph_notchMore_41 hr (fun hr => ?_) (fun hr => ?_)
  · refine j_iconst (pc := 48) d_Graph_notchMore_48 ?_
    exact mJ_weak (ls' := [(2, v0), (2, v1), (2, v2), (0, v3), (9, 0), (9, 0), (9, 0)]) (mwk_s (mwk_s (mwk_s (mwk_s (mwk_s (mwk_s (mwk_s mwk_n))))))) (t_Graph_notchMore_J49  hr)
  · refine j_iconst (pc := 44) d_Graph_notchMore_44 ?_
    refine j_goto (pc := 45) (tgt := 49) d_Graph_notchMore_45 ?_
    exact mJ_weak (ls' := [(2, v0), (2, v1), (2, v2), (0, v3), (9, 0), (9, 0), (9, 0)]) (mwk_s (mwk_s (mwk_s (mwk_s (mwk_s (mwk_s (mwk_s mwk_n))))))) (t_Graph_notchMore_J49  hr)
def M_Notches_tryRule : mM := ("NineBars$Notches", ⟨"NineBars$Notches", "tryRule", "(LNineBars$Box;LNineBars$Graph;LNineBars$Paths;)V"⟩, prog_8_method_4_code, 4, none, [], 7)
theorem tb_co_Notches_tryRule : mTB (Cond.code ⟨"NineBars$Notches", "tryRule", "(LNineBars$Box;LNineBars$Graph;LNineBars$Paths;)V"⟩ prog_8_method_4_code 4 (none)) := tbq5 206 (by decide +kernel) rfl
theorem mc_Notches_tryRule {M : mM} (hd : 7 < mDp M) : mCal M M_Notches_tryRule 3 := ⟨tb_co_Notches_tryRule, tb_in_NineBars_Notches, ⟨by decide +kernel, by decide +kernel⟩, by decide +kernel, hd, by decide⟩
theorem d_Notches_tryRule_0 : decode prog_8_method_4_code 0 = .ok (.aload_n 2, 1) := by decide +kernel
theorem d_Notches_tryRule_1 : decode prog_8_method_4_code 1 = .ok (.aload_n 1, 1) := by decide +kernel
theorem d_Notches_tryRule_2 : decode prog_8_method_4_code 2 = .ok (.aload_n 0, 1) := by decide +kernel
theorem d_Notches_tryRule_3 : decode prog_8_method_4_code 3 = .ok (.getfield 15, 3) := by decide +kernel
theorem d_Notches_tryRule_6 : decode prog_8_method_4_code 6 = .ok (.aload_n 1, 1) := by decide +kernel
theorem d_Notches_tryRule_7 : decode prog_8_method_4_code 7 = .ok (.aload_n 0, 1) := by decide +kernel
theorem d_Notches_tryRule_8 : decode prog_8_method_4_code 8 = .ok (.getfield 15, 3) := by decide +kernel
theorem d_Notches_tryRule_11 : decode prog_8_method_4_code 11 = .ok (.iconst 1, 1) := by decide +kernel
theorem d_Notches_tryRule_12 : decode prog_8_method_4_code 12 = .ok (.iaload, 1) := by decide +kernel
theorem d_Notches_tryRule_13 : decode prog_8_method_4_code 13 = .ok (.aload_n 0, 1) := by decide +kernel
theorem d_Notches_tryRule_14 : decode prog_8_method_4_code 14 = .ok (.getfield 15, 3) := by decide +kernel
theorem d_Notches_tryRule_17 : decode prog_8_method_4_code 17 = .ok (.iconst 2, 1) := by decide +kernel
theorem d_Notches_tryRule_18 : decode prog_8_method_4_code 18 = .ok (.iaload, 1) := by decide +kernel
theorem d_Notches_tryRule_19 : decode prog_8_method_4_code 19 = .ok (.aload_n 0, 1) := by decide +kernel
theorem d_Notches_tryRule_20 : decode prog_8_method_4_code 20 = .ok (.getfield 15, 3) := by decide +kernel
theorem d_Notches_tryRule_23 : decode prog_8_method_4_code 23 = .ok (.iconst 3, 1) := by decide +kernel
theorem d_Notches_tryRule_24 : decode prog_8_method_4_code 24 = .ok (.iaload, 1) := by decide +kernel
theorem d_Notches_tryRule_25 : decode prog_8_method_4_code 25 = .ok (.invokevirtual 62, 3) := by decide +kernel
theorem tb_ml_Notches_62 : mTB (Cond.methodLink "NineBars$Notches" 62 ⟨"NineBars$Box", "hasRule", "(III)Z"⟩) := tbq5 207 (by decide +kernel) rfl
theorem tb_im_Box_hasRule : mTB (Cond.instanceMethod ⟨"NineBars$Box", "hasRule", "(III)Z"⟩) := tbq5 208 (by decide +kernel) rfl
theorem tb_se_Box_hasRule : mTB (Cond.selects "NineBars$Box" ⟨"NineBars$Box", "hasRule", "(III)Z"⟩ ⟨"NineBars$Box", "hasRule", "(III)Z"⟩) := tbq5 209 (by decide +kernel) rfl
theorem mv_Box_hasRule {M : mM} {idx : Nat} (h : mTB (Cond.methodLink (mO M) idx ⟨"NineBars$Box", "hasRule", "(III)Z"⟩)) : mCaV M M_Box_hasRule idx 0 := ⟨h, tb_im_Box_hasRule, tb_se_Box_hasRule, by decide, TX0, 18, rfl⟩
theorem d_Notches_tryRule_28 : decode prog_8_method_4_code 28 = .ok (.invokevirtual 66, 3) := by decide +kernel
theorem tb_ml_Notches_66 : mTB (Cond.methodLink "NineBars$Notches" 66 ⟨"NineBars$Graph", "notchMore", "(LNineBars$Box;[IZ)V"⟩) := tbq5 211 (by decide +kernel) rfl
theorem tb_im_Graph_notchMore : mTB (Cond.instanceMethod ⟨"NineBars$Graph", "notchMore", "(LNineBars$Box;[IZ)V"⟩) := tbq5 212 (by decide +kernel) rfl
theorem tb_se_Graph_notchMore : mTB (Cond.selects "NineBars$Graph" ⟨"NineBars$Graph", "notchMore", "(LNineBars$Box;[IZ)V"⟩ ⟨"NineBars$Graph", "notchMore", "(LNineBars$Box;[IZ)V"⟩) := tbq5 213 (by decide +kernel) rfl
theorem mv_Graph_notchMore {M : mM} {idx : Nat} (h : mTB (Cond.methodLink (mO M) idx ⟨"NineBars$Graph", "notchMore", "(LNineBars$Box;[IZ)V"⟩)) : mCaV M M_Graph_notchMore idx 4 := ⟨h, tb_im_Graph_notchMore, tb_se_Graph_notchMore, by decide, TX4, 11, rfl⟩
theorem d_Notches_tryRule_31 : decode prog_8_method_4_code 31 = .ok (.aload_n 3, 1) := by decide +kernel
theorem d_Notches_tryRule_32 : decode prog_8_method_4_code 32 = .ok (.aload_n 2, 1) := by decide +kernel
theorem d_Notches_tryRule_33 : decode prog_8_method_4_code 33 = .ok (.aload_n 2, 1) := by decide +kernel
theorem tb_fl_Notches_70 : mTN (Cond.fieldLinkNest "NineBars$Notches" 70 "NineBars$Graph" "tried" "[I" "NineBars") := tbqn1 221 (by decide +kernel) rfl
theorem fd_Notches_70 {M : mM} (h : mO M = "NineBars$Notches") : mFld M 70 4 10 2 := ⟨_, _, _, tyX4, rfl, by decide, by decide, rfl, uw_4, tyX4_ok, nmX4, by rw [h]; exact Or.inr ⟨_, tb_fl_Notches_70⟩⟩
theorem d_Notches_tryRule_34 : decode prog_8_method_4_code 34 = .ok (.getfield 70, 3) := by decide +kernel
theorem d_Notches_tryRule_37 : decode prog_8_method_4_code 37 = .ok (.aload_n 0, 1) := by decide +kernel
theorem d_Notches_tryRule_38 : decode prog_8_method_4_code 38 = .ok (.getfield 25, 3) := by decide +kernel
theorem d_Notches_tryRule_41 : decode prog_8_method_4_code 41 = .ok (.aload_n 2, 1) := by decide +kernel
theorem tb_fl_Notches_73 : mTN (Cond.fieldLinkNest "NineBars$Notches" 73 "NineBars$Graph" "openStand" "I" "NineBars") := tbqn1 207 (by decide +kernel) rfl
theorem fd_Notches_73 {M : mM} (h : mO M = "NineBars$Notches") : mFld M 73 4 4 0 := ⟨_, _, _, tyX4, rfl, by decide, by decide, rfl, uw_4, tyX4_ok, nmX4, by rw [h]; exact Or.inr ⟨_, tb_fl_Notches_73⟩⟩
theorem d_Notches_tryRule_42 : decode prog_8_method_4_code 42 = .ok (.getfield 73, 3) := by decide +kernel
theorem d_Notches_tryRule_45 : decode prog_8_method_4_code 45 = .ok (.invokevirtual 76, 3) := by decide +kernel
theorem tb_ml_Notches_76 : mTB (Cond.methodLink "NineBars$Notches" 76 ⟨"NineBars$Paths", "spread", "(LNineBars$Graph;[III)V"⟩) := tbq5 220 (by decide +kernel) rfl
theorem d_Notches_tryRule_48 : decode prog_8_method_4_code 48 = .ok (.aload_n 0, 1) := by decide +kernel
theorem d_Notches_tryRule_49 : decode prog_8_method_4_code 49 = .ok (.getfield 15, 3) := by decide +kernel
theorem d_Notches_tryRule_52 : decode prog_8_method_4_code 52 = .ok (.iconst 0, 1) := by decide +kernel
theorem d_Notches_tryRule_53 : decode prog_8_method_4_code 53 = .ok (.aload_n 3, 1) := by decide +kernel
theorem d_Notches_tryRule_54 : decode prog_8_method_4_code 54 = .ok (.aload_n 2, 1) := by decide +kernel
theorem d_Notches_tryRule_55 : decode prog_8_method_4_code 55 = .ok (.getfield 73, 3) := by decide +kernel
theorem d_Notches_tryRule_58 : decode prog_8_method_4_code 58 = .ok (.invokevirtual 82, 3) := by decide +kernel
theorem tb_ml_Notches_82 : mTB (Cond.methodLink "NineBars$Notches" 82 ⟨"NineBars$Paths", "farOf", "(I)I"⟩) := tbq5 221 (by decide +kernel) rfl
theorem d_Notches_tryRule_61 : decode prog_8_method_4_code 61 = .ok (.iastore, 1) := by decide +kernel
theorem d_Notches_tryRule_62 : decode prog_8_method_4_code 62 = .ok (.aload_n 0, 1) := by decide +kernel
theorem d_Notches_tryRule_63 : decode prog_8_method_4_code 63 = .ok (.getfield 15, 3) := by decide +kernel
theorem d_Notches_tryRule_66 : decode prog_8_method_4_code 66 = .ok (.iconst 0, 1) := by decide +kernel
theorem d_Notches_tryRule_67 : decode prog_8_method_4_code 67 = .ok (.iaload, 1) := by decide +kernel
theorem d_Notches_tryRule_68 : decode prog_8_method_4_code 68 = .ok (.aload_n 0, 1) := by decide +kernel
theorem d_Notches_tryRule_69 : decode prog_8_method_4_code 69 = .ok (.getfield 28, 3) := by decide +kernel
theorem d_Notches_tryRule_72 : decode prog_8_method_4_code 72 = .ok (.if_icmp .gt 36, 3) := by decide +kernel
theorem d_Notches_tryRule_108 : decode prog_8_method_4_code 108 = .ok (.return_, 1) := by decide +kernel
theorem d_Notches_tryRule_75 : decode prog_8_method_4_code 75 = .ok (.aload_n 0, 1) := by decide +kernel
theorem d_Notches_tryRule_76 : decode prog_8_method_4_code 76 = .ok (.getfield 15, 3) := by decide +kernel
theorem d_Notches_tryRule_79 : decode prog_8_method_4_code 79 = .ok (.iconst 0, 1) := by decide +kernel
theorem d_Notches_tryRule_80 : decode prog_8_method_4_code 80 = .ok (.iaload, 1) := by decide +kernel
theorem d_Notches_tryRule_81 : decode prog_8_method_4_code 81 = .ok (.aload_n 0, 1) := by decide +kernel
theorem d_Notches_tryRule_82 : decode prog_8_method_4_code 82 = .ok (.getfield 9, 3) := by decide +kernel
theorem d_Notches_tryRule_85 : decode prog_8_method_4_code 85 = .ok (.iconst 0, 1) := by decide +kernel
theorem d_Notches_tryRule_86 : decode prog_8_method_4_code 86 = .ok (.iaload, 1) := by decide +kernel
theorem d_Notches_tryRule_87 : decode prog_8_method_4_code 87 = .ok (.if_icmp .le 21, 3) := by decide +kernel
theorem d_Notches_tryRule_90 : decode prog_8_method_4_code 90 = .ok (.aload_n 0, 1) := by decide +kernel
theorem d_Notches_tryRule_91 : decode prog_8_method_4_code 91 = .ok (.getfield 15, 3) := by decide +kernel
theorem d_Notches_tryRule_94 : decode prog_8_method_4_code 94 = .ok (.iconst 0, 1) := by decide +kernel
theorem d_Notches_tryRule_95 : decode prog_8_method_4_code 95 = .ok (.aload_n 0, 1) := by decide +kernel
theorem d_Notches_tryRule_96 : decode prog_8_method_4_code 96 = .ok (.getfield 9, 3) := by decide +kernel
theorem d_Notches_tryRule_99 : decode prog_8_method_4_code 99 = .ok (.iconst 0, 1) := by decide +kernel
theorem d_Notches_tryRule_100 : decode prog_8_method_4_code 100 = .ok (.aload_n 0, 1) := by decide +kernel
theorem d_Notches_tryRule_101 : decode prog_8_method_4_code 101 = .ok (.getfield 9, 3) := by decide +kernel
theorem d_Notches_tryRule_104 : decode prog_8_method_4_code 104 = .ok (.arraylength, 1) := by decide +kernel
theorem d_Notches_tryRule_105 : decode prog_8_method_4_code 105 = .ok (.invokestatic 85, 3) := by decide +kernel
theorem tb_ml_Notches_85 : mTB (Cond.methodLink "NineBars$Notches" 85 ⟨"java/lang/System", "arraycopy", "(Ljava/lang/Object;ILjava/lang/Object;II)V"⟩) := tbq5 222 (by decide +kernel) rfl
theorem t_Notches_tryRule {G : mG} (h : mH) (v0 v1 v2 v3 : Int) (r : mR) (hr : f_Notches_tryRule h v0 v1 v2 v3 = some r) : mJM G M_Notches_tryRule [(2, v0), (2, v1), (2, v2), (2, v3)] h r := by
  refine mJM_of (L := [(2, v0), (2, v1), (2, v2), (2, v3)]) rfl rfl rfl (Nat.le_of_ble_eq_true rfl) ?_
  unfold f_Notches_tryRule at hr
  refine j_aload_n (pc := 0) d_Notches_tryRule_0 rfl ?_
  refine j_aload_n (pc := 1) d_Notches_tryRule_1 rfl ?_
  refine j_aload_n (pc := 2) d_Notches_tryRule_2 rfl ?_
  refine j_getf (pc := 3) d_Notches_tryRule_3 (fd_Notches_15 rfl) hr (fun hr => ?_)
  refine j_aload_n (pc := 6) d_Notches_tryRule_6 rfl ?_
  refine j_aload_n (pc := 7) d_Notches_tryRule_7 rfl ?_
  refine j_getf (pc := 8) d_Notches_tryRule_8 (fd_Notches_15 rfl) hr (fun hr => ?_)
  refine j_iconst (pc := 11) d_Notches_tryRule_11 ?_
  refine j_iaload (pc := 12) d_Notches_tryRule_12 hr (fun hr => ?_)
  refine j_aload_n (pc := 13) d_Notches_tryRule_13 rfl ?_
  refine j_getf (pc := 14) d_Notches_tryRule_14 (fd_Notches_15 rfl) hr (fun hr => ?_)
  refine j_iconst (pc := 17) d_Notches_tryRule_17 ?_
  refine j_iaload (pc := 18) d_Notches_tryRule_18 hr (fun hr => ?_)
  refine j_aload_n (pc := 19) d_Notches_tryRule_19 rfl ?_
  refine j_getf (pc := 20) d_Notches_tryRule_20 (fd_Notches_15 rfl) hr (fun hr => ?_)
  refine j_iconst (pc := 23) d_Notches_tryRule_23 ?_
  refine j_iaload (pc := 24) d_Notches_tryRule_24 hr (fun hr => ?_)
  obtain ⟨ha, hr⟩ := chk_some hr
  refine j_callG (pc := 25) (stk := [(0, hpV h (hpV h v0 1) 3), (0, hpV h (hpV h v0 1) 2), (0, hpV h (hpV h v0 1) 1), (2, v1), (2, hpV h v0 1), (2, v1), (2, v2)]) (as := [(2, v1), (0, hpV h (hpV h v0 1) 1), (0, hpV h (hpV h v0 1) 2), (0, hpV h (hpV h v0 1) 3)]) (P := (fun v9 => ((0 : Nat), v9) :: [(2, hpV h v0 1), (2, v1), (2, v2)])) (tg := 0) (My := M_Box_hasRule) (mRunV (as := [(0, hpV h (hpV h v0 1) 1), (0, hpV h (hpV h v0 1) 2), (0, hpV h (hpV h v0 1) 3)]) (st := [(2, hpV h v0 1), (2, v1), (2, v2)]) d_Notches_tryRule_25 (mc_Box_hasRule (by decide)) rfl (mv_Box_hasRule tb_ml_Notches_62) rfl (Nat.le_of_ble_eq_true rfl) ha) (fun v => rfl) rfl hr (fun r1 h1 => t_Box_hasRule _ _ _ _ _ _ h1) (fun x2 h1 hr => ?_)
  obtain ⟨ha, hr⟩ := chk_some hr
  refine j_callG (pc := 28) (stk := [(0, x2), (2, hpV h v0 1), (2, v1), (2, v2)]) (as := [(2, v2), (2, v1), (2, hpV h v0 1), (0, x2)]) (P := (fun v9 => [])) (tg := 3) (My := M_Graph_notchMore) (mRunV (as := [(2, v1), (2, hpV h v0 1), (0, x2)]) (st := []) d_Notches_tryRule_28 (mc_Graph_notchMore (by decide)) rfl (mv_Graph_notchMore tb_ml_Notches_66) rfl (Nat.le_of_ble_eq_true rfl) ha) (fun v => rfl) rfl hr (fun r1 h1 => t_Graph_notchMore _ _ _ _ _ _ h1) (fun x4 h3 hr => ?_)
  refine j_aload_n (pc := 31) d_Notches_tryRule_31 rfl ?_
  refine j_aload_n (pc := 32) d_Notches_tryRule_32 rfl ?_
  refine j_aload_n (pc := 33) d_Notches_tryRule_33 rfl ?_
  refine j_getf (pc := 34) d_Notches_tryRule_34 (fd_Notches_70 rfl) hr (fun hr => ?_)
  refine j_aload_n (pc := 37) d_Notches_tryRule_37 rfl ?_
  refine j_getf (pc := 38) d_Notches_tryRule_38 (fd_Notches_25 rfl) hr (fun hr => ?_)
  refine j_aload_n (pc := 41) d_Notches_tryRule_41 rfl ?_
  refine j_getf (pc := 42) d_Notches_tryRule_42 (fd_Notches_73 rfl) hr (fun hr => ?_)
  obtain ⟨ha, hr⟩ := chk_some hr
  refine j_callG (pc := 45) (stk := [(0, hpV h3 v2 4), (0, hpV h3 v0 4), (2, hpV h3 v2 10), (2, v2), (2, v3)]) (as := [(2, v3), (2, v2), (2, hpV h3 v2 10), (0, hpV h3 v0 4), (0, hpV h3 v2 4)]) (P := (fun v9 => [])) (tg := 3) (My := M_Paths_spread) (mRunV (as := [(2, v2), (2, hpV h3 v2 10), (0, hpV h3 v0 4), (0, hpV h3 v2 4)]) (st := []) d_Notches_tryRule_45 (mc_Paths_spread (by decide)) rfl (mv_Paths_spread tb_ml_Notches_76) rfl (Nat.le_of_ble_eq_true rfl) ha) (fun v => rfl) rfl hr (fun r1 h1 => t_Paths_spread _ _ _ _ _ _ _ h1) (fun x6 h5 hr => ?_)
  refine j_aload_n (pc := 48) d_Notches_tryRule_48 rfl ?_
  refine j_getf (pc := 49) d_Notches_tryRule_49 (fd_Notches_15 rfl) hr (fun hr => ?_)
  refine j_iconst (pc := 52) d_Notches_tryRule_52 ?_
  refine j_aload_n (pc := 53) d_Notches_tryRule_53 rfl ?_
  refine j_aload_n (pc := 54) d_Notches_tryRule_54 rfl ?_
  refine j_getf (pc := 55) d_Notches_tryRule_55 (fd_Notches_73 rfl) hr (fun hr => ?_)
  obtain ⟨ha, hr⟩ := chk_some hr
  refine j_callG (pc := 58) (stk := [(0, hpV h5 v2 4), (2, v3), (0, 0), (2, hpV h5 v0 1)]) (as := [(2, v3), (0, hpV h5 v2 4)]) (P := (fun v9 => ((0 : Nat), v9) :: [(0, 0), (2, hpV h5 v0 1)])) (tg := 0) (My := M_Paths_farOf) (mRunV (as := [(0, hpV h5 v2 4)]) (st := [(0, 0), (2, hpV h5 v0 1)]) d_Notches_tryRule_58 (mc_Paths_farOf (by decide)) rfl (mv_Paths_farOf tb_ml_Notches_82) rfl (Nat.le_of_ble_eq_true rfl) ha) (fun v => rfl) rfl hr (fun r1 h1 => t_Paths_farOf _ _ _ _ h1) (fun x8 h7 hr => ?_)
  refine j_iastore (pc := 61) d_Notches_tryRule_61 hr (fun h9 hr => ?_)
  refine j_aload_n (pc := 62) d_Notches_tryRule_62 rfl ?_
  refine j_getf (pc := 63) d_Notches_tryRule_63 (fd_Notches_15 rfl) hr (fun hr => ?_)
  refine j_iconst (pc := 66) d_Notches_tryRule_66 ?_
  refine j_iaload (pc := 67) d_Notches_tryRule_67 hr (fun hr => ?_)
  refine j_aload_n (pc := 68) d_Notches_tryRule_68 rfl ?_
  refine j_getf (pc := 69) d_Notches_tryRule_69 (fd_Notches_28 rfl) hr (fun hr => ?_)
  refine j_icmp_gt (pc := 72) (tgt := 108) d_Notches_tryRule_72 hr (fun hr => ?_) (fun hr => ?_)
  · exact j_vret (pc := 108) d_Notches_tryRule_108 rfl hr
  · refine j_aload_n (pc := 75) d_Notches_tryRule_75 rfl ?_
    refine j_getf (pc := 76) d_Notches_tryRule_76 (fd_Notches_15 rfl) hr (fun hr => ?_)
    refine j_iconst (pc := 79) d_Notches_tryRule_79 ?_
    refine j_iaload (pc := 80) d_Notches_tryRule_80 hr (fun hr => ?_)
    refine j_aload_n (pc := 81) d_Notches_tryRule_81 rfl ?_
    refine j_getf (pc := 82) d_Notches_tryRule_82 (fd_Notches_9 rfl) hr (fun hr => ?_)
    refine j_iconst (pc := 85) d_Notches_tryRule_85 ?_
    refine j_iaload (pc := 86) d_Notches_tryRule_86 hr (fun hr => ?_)
    refine j_icmp_le (pc := 87) (tgt := 108) d_Notches_tryRule_87 hr (fun hr => ?_) (fun hr => ?_)
    · exact j_vret (pc := 108) d_Notches_tryRule_108 rfl hr
    · refine j_aload_n (pc := 90) d_Notches_tryRule_90 rfl ?_
      refine j_getf (pc := 91) d_Notches_tryRule_91 (fd_Notches_15 rfl) hr (fun hr => ?_)
      refine j_iconst (pc := 94) d_Notches_tryRule_94 ?_
      refine j_aload_n (pc := 95) d_Notches_tryRule_95 rfl ?_
      refine j_getf (pc := 96) d_Notches_tryRule_96 (fd_Notches_9 rfl) hr (fun hr => ?_)
      refine j_iconst (pc := 99) d_Notches_tryRule_99 ?_
      refine j_aload_n (pc := 100) d_Notches_tryRule_100 rfl ?_
      refine j_getf (pc := 101) d_Notches_tryRule_101 (fd_Notches_9 rfl) hr (fun hr => ?_)
      refine j_alen (pc := 104) d_Notches_tryRule_104 hr (fun hr => ?_)
      refine j_copyI (pc := 105) d_Notches_tryRule_105 tb_ml_Notches_85 tb_nt_copy tb_sm_copy tb_in_java_lang_System (Nat.le_of_ble_eq_true rfl) hr (fun h10 hr => ?_)
      exact j_vret (pc := 108) d_Notches_tryRule_108 rfl hr
def M_Notches_seekStep : mM := ("NineBars$Notches", ⟨"NineBars$Notches", "seekStep", "(LNineBars$Box;LNineBars$Graph;LNineBars$Paths;III)V"⟩, prog_8_method_3_code, 9, none, [], 9)
theorem tb_co_Notches_seekStep : mTB (Cond.code ⟨"NineBars$Notches", "seekStep", "(LNineBars$Box;LNineBars$Graph;LNineBars$Paths;III)V"⟩ prog_8_method_3_code 9 (none)) := tbq5 201 (by decide +kernel) rfl
theorem mc_Notches_seekStep {M : mM} (hd : 9 < mDp M) : mCal M M_Notches_seekStep 6 := ⟨tb_co_Notches_seekStep, tb_in_NineBars_Notches, ⟨by decide +kernel, by decide +kernel⟩, by decide +kernel, hd, by decide⟩
theorem d_Notches_seekStep_0 : decode prog_8_method_3_code 0 = .ok (.iload 6, 2) := by decide +kernel
theorem d_Notches_seekStep_2 : decode prog_8_method_3_code 2 = .ok (.ifCond .lt 14, 3) := by decide +kernel
theorem d_Notches_seekStep_16 : decode prog_8_method_3_code 16 = .ok (.return_, 1) := by decide +kernel
theorem d_Notches_seekStep_5 : decode prog_8_method_3_code 5 = .ok (.iload 6, 2) := by decide +kernel
theorem d_Notches_seekStep_7 : decode prog_8_method_3_code 7 = .ok (.aload_n 1, 1) := by decide +kernel
theorem d_Notches_seekStep_8 : decode prog_8_method_3_code 8 = .ok (.iload 4, 2) := by decide +kernel
theorem d_Notches_seekStep_10 : decode prog_8_method_3_code 10 = .ok (.invokevirtual 54, 3) := by decide +kernel
theorem tb_ml_Notches_54 : mTB (Cond.methodLink "NineBars$Notches" 54 ⟨"NineBars$Box", "placesOf", "(I)I"⟩) := tbq5 202 (by decide +kernel) rfl
theorem d_Notches_seekStep_13 : decode prog_8_method_3_code 13 = .ok (.if_icmp .lt 4, 3) := by decide +kernel
theorem d_Notches_seekStep_17 : decode prog_8_method_3_code 17 = .ok (.aload_n 0, 1) := by decide +kernel
theorem d_Notches_seekStep_18 : decode prog_8_method_3_code 18 = .ok (.getfield 15, 3) := by decide +kernel
theorem d_Notches_seekStep_21 : decode prog_8_method_3_code 21 = .ok (.iconst 1, 1) := by decide +kernel
theorem d_Notches_seekStep_22 : decode prog_8_method_3_code 22 = .ok (.iload 4, 2) := by decide +kernel
theorem d_Notches_seekStep_24 : decode prog_8_method_3_code 24 = .ok (.iastore, 1) := by decide +kernel
theorem d_Notches_seekStep_25 : decode prog_8_method_3_code 25 = .ok (.aload_n 0, 1) := by decide +kernel
theorem d_Notches_seekStep_26 : decode prog_8_method_3_code 26 = .ok (.getfield 15, 3) := by decide +kernel
theorem d_Notches_seekStep_29 : decode prog_8_method_3_code 29 = .ok (.iconst 2, 1) := by decide +kernel
theorem d_Notches_seekStep_30 : decode prog_8_method_3_code 30 = .ok (.iload 5, 2) := by decide +kernel
theorem d_Notches_seekStep_32 : decode prog_8_method_3_code 32 = .ok (.iastore, 1) := by decide +kernel
theorem d_Notches_seekStep_33 : decode prog_8_method_3_code 33 = .ok (.aload_n 0, 1) := by decide +kernel
theorem d_Notches_seekStep_34 : decode prog_8_method_3_code 34 = .ok (.getfield 15, 3) := by decide +kernel
theorem d_Notches_seekStep_37 : decode prog_8_method_3_code 37 = .ok (.iconst 3, 1) := by decide +kernel
theorem d_Notches_seekStep_38 : decode prog_8_method_3_code 38 = .ok (.iload 6, 2) := by decide +kernel
theorem d_Notches_seekStep_40 : decode prog_8_method_3_code 40 = .ok (.iastore, 1) := by decide +kernel
theorem d_Notches_seekStep_41 : decode prog_8_method_3_code 41 = .ok (.iconst 0, 1) := by decide +kernel
theorem d_Notches_seekStep_42 : decode prog_8_method_3_code 42 = .ok (.istore 7, 2) := by decide +kernel
theorem d_Notches_seekStep_44 : decode prog_8_method_3_code 44 = .ok (.iload 7, 2) := by decide +kernel
theorem d_Notches_seekStep_46 : decode prog_8_method_3_code 46 = .ok (.aload_n 1, 1) := by decide +kernel
theorem tb_fl_Notches_44 : mTN (Cond.fieldLinkNest "NineBars$Notches" 44 "NineBars$Box" "bars" "I" "NineBars") := tbqn1 83 (by decide +kernel) rfl
theorem fd_Notches_44 {M : mM} (h : mO M = "NineBars$Notches") : mFld M 44 0 2 0 := ⟨_, _, _, tyX0, rfl, by decide, by decide, rfl, uw_0, tyX0_ok, nmX0, by rw [h]; exact Or.inr ⟨_, tb_fl_Notches_44⟩⟩
theorem d_Notches_seekStep_47 : decode prog_8_method_3_code 47 = .ok (.getfield 44, 3) := by decide +kernel
theorem d_Notches_seekStep_50 : decode prog_8_method_3_code 50 = .ok (.if_icmp .ge 101, 3) := by decide +kernel
theorem d_Notches_seekStep_151 : decode prog_8_method_3_code 151 = .ok (.return_, 1) := by decide +kernel
theorem d_Notches_seekStep_53 : decode prog_8_method_3_code 53 = .ok (.iconst 0, 1) := by decide +kernel
theorem d_Notches_seekStep_54 : decode prog_8_method_3_code 54 = .ok (.istore 8, 2) := by decide +kernel
theorem d_Notches_seekStep_56 : decode prog_8_method_3_code 56 = .ok (.iload 7, 2) := by decide +kernel
theorem d_Notches_seekStep_58 : decode prog_8_method_3_code 58 = .ok (.iload 4, 2) := by decide +kernel
theorem d_Notches_seekStep_60 : decode prog_8_method_3_code 60 = .ok (.if_icmp .eq 85, 3) := by decide +kernel
theorem d_Notches_seekStep_63 : decode prog_8_method_3_code 63 = .ok (.iload 8, 2) := by decide +kernel
theorem d_Notches_seekStep_65 : decode prog_8_method_3_code 65 = .ok (.iconst 2, 1) := by decide +kernel
theorem d_Notches_seekStep_66 : decode prog_8_method_3_code 66 = .ok (.aload_n 1, 1) := by decide +kernel
theorem tb_fl_Notches_47 : mTN (Cond.fieldLinkNest "NineBars$Notches" 47 "NineBars$Box" "places" "[I" "NineBars") := tbqn1 98 (by decide +kernel) rfl
theorem fd_Notches_47 {M : mM} (h : mO M = "NineBars$Notches") : mFld M 47 0 6 2 := ⟨_, _, _, tyX0, rfl, by decide, by decide, rfl, uw_0, tyX0_ok, nmX0, by rw [h]; exact Or.inr ⟨_, tb_fl_Notches_47⟩⟩
theorem d_Notches_seekStep_67 : decode prog_8_method_3_code 67 = .ok (.getfield 47, 3) := by decide +kernel
theorem d_Notches_seekStep_70 : decode prog_8_method_3_code 70 = .ok (.iload 7, 2) := by decide +kernel
theorem d_Notches_seekStep_72 : decode prog_8_method_3_code 72 = .ok (.iaload, 1) := by decide +kernel
theorem d_Notches_seekStep_73 : decode prog_8_method_3_code 73 = .ok (.imul, 1) := by decide +kernel
theorem d_Notches_seekStep_74 : decode prog_8_method_3_code 74 = .ok (.if_icmp .ge 71, 3) := by decide +kernel
theorem d_Notches_seekStep_77 : decode prog_8_method_3_code 77 = .ok (.aload_n 0, 1) := by decide +kernel
theorem d_Notches_seekStep_78 : decode prog_8_method_3_code 78 = .ok (.getfield 15, 3) := by decide +kernel
theorem d_Notches_seekStep_81 : decode prog_8_method_3_code 81 = .ok (.iconst 4, 1) := by decide +kernel
theorem d_Notches_seekStep_82 : decode prog_8_method_3_code 82 = .ok (.iload 7, 2) := by decide +kernel
theorem d_Notches_seekStep_84 : decode prog_8_method_3_code 84 = .ok (.iastore, 1) := by decide +kernel
theorem d_Notches_seekStep_85 : decode prog_8_method_3_code 85 = .ok (.aload_n 0, 1) := by decide +kernel
theorem d_Notches_seekStep_86 : decode prog_8_method_3_code 86 = .ok (.getfield 15, 3) := by decide +kernel
theorem d_Notches_seekStep_89 : decode prog_8_method_3_code 89 = .ok (.iconst 5, 1) := by decide +kernel
theorem d_Notches_seekStep_90 : decode prog_8_method_3_code 90 = .ok (.iload 8, 2) := by decide +kernel
theorem d_Notches_seekStep_92 : decode prog_8_method_3_code 92 = .ok (.aload_n 1, 1) := by decide +kernel
theorem d_Notches_seekStep_93 : decode prog_8_method_3_code 93 = .ok (.getfield 47, 3) := by decide +kernel
theorem d_Notches_seekStep_96 : decode prog_8_method_3_code 96 = .ok (.iload 7, 2) := by decide +kernel
theorem d_Notches_seekStep_98 : decode prog_8_method_3_code 98 = .ok (.iaload, 1) := by decide +kernel
theorem d_Notches_seekStep_99 : decode prog_8_method_3_code 99 = .ok (.if_icmp .ge 7, 3) := by decide +kernel
theorem d_Notches_seekStep_106 : decode prog_8_method_3_code 106 = .ok (.iconst 1, 1) := by decide +kernel
theorem d_Notches_seekStep_107 : decode prog_8_method_3_code 107 = .ok (.iastore, 1) := by decide +kernel
theorem d_Notches_seekStep_108 : decode prog_8_method_3_code 108 = .ok (.aload_n 0, 1) := by decide +kernel
theorem d_Notches_seekStep_109 : decode prog_8_method_3_code 109 = .ok (.getfield 15, 3) := by decide +kernel
theorem d_Notches_seekStep_112 : decode prog_8_method_3_code 112 = .ok (.bipush 6, 2) := by decide +kernel
theorem d_Notches_seekStep_114 : decode prog_8_method_3_code 114 = .ok (.iload 8, 2) := by decide +kernel
theorem d_Notches_seekStep_116 : decode prog_8_method_3_code 116 = .ok (.aload_n 0, 1) := by decide +kernel
theorem d_Notches_seekStep_117 : decode prog_8_method_3_code 117 = .ok (.getfield 15, 3) := by decide +kernel
theorem d_Notches_seekStep_120 : decode prog_8_method_3_code 120 = .ok (.iconst 5, 1) := by decide +kernel
theorem d_Notches_seekStep_121 : decode prog_8_method_3_code 121 = .ok (.iaload, 1) := by decide +kernel
theorem d_Notches_seekStep_122 : decode prog_8_method_3_code 122 = .ok (.aload_n 1, 1) := by decide +kernel
theorem d_Notches_seekStep_123 : decode prog_8_method_3_code 123 = .ok (.getfield 47, 3) := by decide +kernel
theorem d_Notches_seekStep_126 : decode prog_8_method_3_code 126 = .ok (.iload 7, 2) := by decide +kernel
theorem d_Notches_seekStep_128 : decode prog_8_method_3_code 128 = .ok (.iaload, 1) := by decide +kernel
theorem d_Notches_seekStep_129 : decode prog_8_method_3_code 129 = .ok (.imul, 1) := by decide +kernel
theorem d_Notches_seekStep_130 : decode prog_8_method_3_code 130 = .ok (.isub, 1) := by decide +kernel
theorem d_Notches_seekStep_131 : decode prog_8_method_3_code 131 = .ok (.iastore, 1) := by decide +kernel
theorem d_Notches_seekStep_132 : decode prog_8_method_3_code 132 = .ok (.aload_n 0, 1) := by decide +kernel
theorem d_Notches_seekStep_133 : decode prog_8_method_3_code 133 = .ok (.aload_n 1, 1) := by decide +kernel
theorem d_Notches_seekStep_134 : decode prog_8_method_3_code 134 = .ok (.aload_n 2, 1) := by decide +kernel
theorem d_Notches_seekStep_135 : decode prog_8_method_3_code 135 = .ok (.aload_n 3, 1) := by decide +kernel
theorem d_Notches_seekStep_136 : decode prog_8_method_3_code 136 = .ok (.invokevirtual 58, 3) := by decide +kernel
theorem tb_ml_Notches_58 : mTB (Cond.methodLink "NineBars$Notches" 58 ⟨"NineBars$Notches", "tryRule", "(LNineBars$Box;LNineBars$Graph;LNineBars$Paths;)V"⟩) := tbq5 203 (by decide +kernel) rfl
theorem tb_im_Notches_tryRule : mTB (Cond.instanceMethod ⟨"NineBars$Notches", "tryRule", "(LNineBars$Box;LNineBars$Graph;LNineBars$Paths;)V"⟩) := tbq5 205 (by decide +kernel) rfl
theorem tb_se_Notches_tryRule : mTB (Cond.selects "NineBars$Notches" ⟨"NineBars$Notches", "tryRule", "(LNineBars$Box;LNineBars$Graph;LNineBars$Paths;)V"⟩ ⟨"NineBars$Notches", "tryRule", "(LNineBars$Box;LNineBars$Graph;LNineBars$Paths;)V"⟩) := tbqp 32 (by decide +kernel) rfl
theorem mv_Notches_tryRule {M : mM} {idx : Nat} (h : mTB (Cond.methodLink (mO M) idx ⟨"NineBars$Notches", "tryRule", "(LNineBars$Box;LNineBars$Graph;LNineBars$Paths;)V"⟩)) : mCaV M M_Notches_tryRule idx 6 := ⟨h, tb_im_Notches_tryRule, tb_se_Notches_tryRule, by decide, TX6, 6, rfl⟩
theorem d_Notches_seekStep_139 : decode prog_8_method_3_code 139 = .ok (.iinc 8 1, 3) := by decide +kernel
theorem d_Notches_seekStep_142 : decode prog_8_method_3_code 142 = .ok (.goto (-86), 3) := by decide +kernel
theorem d_Notches_seekStep_102 : decode prog_8_method_3_code 102 = .ok (.iconst 0, 1) := by decide +kernel
theorem d_Notches_seekStep_103 : decode prog_8_method_3_code 103 = .ok (.goto 4, 3) := by decide +kernel
theorem d_Notches_seekStep_145 : decode prog_8_method_3_code 145 = .ok (.iinc 7 1, 3) := by decide +kernel
theorem d_Notches_seekStep_148 : decode prog_8_method_3_code 148 = .ok (.goto (-104), 3) := by decide +kernel
theorem t_Notches_seekStep_J107 {G : mG} {r : mR} {v0 v1 v2 v3 v4 v7 v8 s0 s1 s2 : Int} {h : mH} {R56 : mH → Int → Option mR} (hR56 : ∀ (h : mH) (w8 : Int) , R56 h w8 = some r → mJ G M_Notches_seekStep 56 [(2, v0), (2, v1), (2, v2), (2, v3), (0, v4), (9, 0), (9, 0), (0, v7), (0, w8)] [] h r) (hr : f_Notches_seekStep_J107 R56 v0 v1 v2 v3 v7 v8 s0 s1 s2 h = some r) : mJ G M_Notches_seekStep 107 [(2, v0), (2, v1), (2, v2), (2, v3), (0, v4), (9, 0), (9, 0), (0, v7), (0, v8)] [(0, s2), (0, s1), (2, s0)] h r := by
  unfold f_Notches_seekStep_J107 at hr
  refine j_iastore (pc := 107) d_Notches_seekStep_107 hr (fun h1 hr => ?_)
  refine j_aload_n (pc := 108) d_Notches_seekStep_108 rfl ?_
  refine j_getf (pc := 109) d_Notches_seekStep_109 (fd_Notches_15 rfl) hr (fun hr => ?_)
  refine j_bipush (pc := 112) d_Notches_seekStep_112 ?_
  refine j_iload (pc := 114) d_Notches_seekStep_114 rfl ?_
  refine j_aload_n (pc := 116) d_Notches_seekStep_116 rfl ?_
  refine j_getf (pc := 117) d_Notches_seekStep_117 (fd_Notches_15 rfl) hr (fun hr => ?_)
  refine j_iconst (pc := 120) d_Notches_seekStep_120 ?_
  refine j_iaload (pc := 121) d_Notches_seekStep_121 hr (fun hr => ?_)
  refine j_aload_n (pc := 122) d_Notches_seekStep_122 rfl ?_
  refine j_getf (pc := 123) d_Notches_seekStep_123 (fd_Notches_47 rfl) hr (fun hr => ?_)
  refine j_iload (pc := 126) d_Notches_seekStep_126 rfl ?_
  refine j_iaload (pc := 128) d_Notches_seekStep_128 hr (fun hr => ?_)
  refine j_imul (pc := 129) d_Notches_seekStep_129 ?_
  refine j_isub (pc := 130) d_Notches_seekStep_130 ?_
  refine j_iastore (pc := 131) d_Notches_seekStep_131 hr (fun h2 hr => ?_)
  refine j_aload_n (pc := 132) d_Notches_seekStep_132 rfl ?_
  refine j_aload_n (pc := 133) d_Notches_seekStep_133 rfl ?_
  refine j_aload_n (pc := 134) d_Notches_seekStep_134 rfl ?_
  refine j_aload_n (pc := 135) d_Notches_seekStep_135 rfl ?_
  obtain ⟨ha, hr⟩ := chk_some hr
  refine j_callG (pc := 136) (stk := [(2, v3), (2, v2), (2, v1), (2, v0)]) (as := [(2, v0), (2, v1), (2, v2), (2, v3)]) (P := (fun v9 => [])) (tg := 3) (My := M_Notches_tryRule) (mRunV (as := [(2, v1), (2, v2), (2, v3)]) (st := []) d_Notches_seekStep_136 (mc_Notches_tryRule (by decide)) rfl (mv_Notches_tryRule tb_ml_Notches_58) rfl (Nat.le_of_ble_eq_true rfl) ha) (fun v => rfl) rfl hr (fun r1 h1 => t_Notches_tryRule _ _ _ _ _ _ h1) (fun x4 h3 hr => ?_)
  refine j_iincW (pc := 139) (L := fun x5 => [(2, v0), (2, v1), (2, v2), (2, v3), (0, v4), (9, 0), (9, 0), (0, v7), (0, x5)]) d_Notches_seekStep_139 rfl (fun _ => rfl) hr (fun x5 hr => ?_)
  refine j_goto (pc := 142) (tgt := 56) d_Notches_seekStep_142 ?_
  exact mJ_weak (ls' := [(2, v0), (2, v1), (2, v2), (2, v3), (0, v4), (9, 0), (9, 0), (0, v7), (0, x5)]) (mwk_s (mwk_s (mwk_s (mwk_s (mwk_s (mwk_s (mwk_s (mwk_s (mwk_s mwk_n))))))))) (hR56 h3 _ hr)
theorem t_Notches_seekStep_L56 {G : mG} {r : mR} {v0 v1 v2 v3 v4 v7 : Int} {K145 : mH → Option mR} (hK145 : ∀ (h : mH) , K145 h  = some r → mJ G M_Notches_seekStep 145 [(2, v0), (2, v1), (2, v2), (2, v3), (0, v4), (9, 0), (9, 0), (0, v7), (9, 0)] [] h r) : ∀ (n : Nat) (h : mH) (v8 : Int), f_Notches_seekStep_L56 K145 v0 v1 v2 v3 v4 v7 n h v8 = some r → mJ G M_Notches_seekStep 56 [(2, v0), (2, v1), (2, v2), (2, v3), (0, v4), (9, 0), (9, 0), (0, v7), (0, v8)] [] h r := by
  intro n
  induction n with
  | zero =>
    intro h v8 hr
    rw [f_Notches_seekStep_L56] at hr
    cases hr
  | succ n hR56 =>
    intro h v8 hr
    rw [f_Notches_seekStep_L56] at hr
    refine j_iload (pc := 56) d_Notches_seekStep_56 rfl ?_
    refine j_iload (pc := 58) d_Notches_seekStep_58 rfl ?_
    refine j_icmp_eq (pc := 60) (tgt := 145) d_Notches_seekStep_60 hr (fun hr => ?_) (fun hr => ?_)
    · exact mJ_weak (ls' := [(2, v0), (2, v1), (2, v2), (2, v3), (0, v4), (9, 0), (9, 0), (0, v7), (9, 0)]) (mwk_s (mwk_s (mwk_s (mwk_s (mwk_s (mwk_s (mwk_s (mwk_s (mwk_d mwk_n))))))))) (hK145 h  hr)
    · refine j_iload (pc := 63) d_Notches_seekStep_63 rfl ?_
      refine j_iconst (pc := 65) d_Notches_seekStep_65 ?_
      refine j_aload_n (pc := 66) d_Notches_seekStep_66 rfl ?_
      refine j_getf (pc := 67) d_Notches_seekStep_67 (fd_Notches_47 rfl) hr (fun hr => ?_)
      refine j_iload (pc := 70) d_Notches_seekStep_70 rfl ?_
      refine j_iaload (pc := 72) d_Notches_seekStep_72 hr (fun hr => ?_)
      refine j_imul (pc := 73) d_Notches_seekStep_73 ?_
      refine j_icmp_ge (pc := 74) (tgt := 145) d_Notches_seekStep_74 hr (fun hr => ?_) (fun hr => ?_)
      · exact mJ_weak (ls' := [(2, v0), (2, v1), (2, v2), (2, v3), (0, v4), (9, 0), (9, 0), (0, v7), (9, 0)]) (mwk_s (mwk_s (mwk_s (mwk_s (mwk_s (mwk_s (mwk_s (mwk_s (mwk_d mwk_n))))))))) (hK145 h  hr)
      · refine j_aload_n (pc := 77) d_Notches_seekStep_77 rfl ?_
        refine j_getf (pc := 78) d_Notches_seekStep_78 (fd_Notches_15 rfl) hr (fun hr => ?_)
        refine j_iconst (pc := 81) d_Notches_seekStep_81 ?_
        refine j_iload (pc := 82) d_Notches_seekStep_82 rfl ?_
        refine j_iastore (pc := 84) d_Notches_seekStep_84 hr (fun h1 hr => ?_)
        refine j_aload_n (pc := 85) d_Notches_seekStep_85 rfl ?_
        refine j_getf (pc := 86) d_Notches_seekStep_86 (fd_Notches_15 rfl) hr (fun hr => ?_)
        refine j_iconst (pc := 89) d_Notches_seekStep_89 ?_
        refine j_iload (pc := 90) d_Notches_seekStep_90 rfl ?_
        refine j_aload_n (pc := 92) d_Notches_seekStep_92 rfl ?_
        refine j_getf (pc := 93) d_Notches_seekStep_93 (fd_Notches_47 rfl) hr (fun hr => ?_)
        refine j_iload (pc := 96) d_Notches_seekStep_96 rfl ?_
        refine j_iaload (pc := 98) d_Notches_seekStep_98 hr (fun hr => ?_)
        refine j_icmp_ge (pc := 99) (tgt := 106) d_Notches_seekStep_99 hr (fun hr => ?_) (fun hr => ?_)
        · refine j_iconst (pc := 106) d_Notches_seekStep_106 ?_
          exact mJ_weak (ls' := [(2, v0), (2, v1), (2, v2), (2, v3), (0, v4), (9, 0), (9, 0), (0, v7), (0, v8)]) (mwk_s (mwk_s (mwk_s (mwk_s (mwk_s (mwk_s (mwk_s (mwk_s (mwk_s mwk_n))))))))) (t_Notches_seekStep_J107 hR56 hr)
        · refine j_iconst (pc := 102) d_Notches_seekStep_102 ?_
          refine j_goto (pc := 103) (tgt := 107) d_Notches_seekStep_103 ?_
          exact mJ_weak (ls' := [(2, v0), (2, v1), (2, v2), (2, v3), (0, v4), (9, 0), (9, 0), (0, v7), (0, v8)]) (mwk_s (mwk_s (mwk_s (mwk_s (mwk_s (mwk_s (mwk_s (mwk_s (mwk_s mwk_n))))))))) (t_Notches_seekStep_J107 hR56 hr)
theorem t_Notches_seekStep_J145 {G : mG} {r : mR} {v0 v1 v2 v3 v4 v7 : Int} {h : mH} {R44 : mH → Int → Option mR} (hR44 : ∀ (h : mH) (w7 : Int) , R44 h w7 = some r → mJ G M_Notches_seekStep 44 [(2, v0), (2, v1), (2, v2), (2, v3), (0, v4), (9, 0), (9, 0), (0, w7), (9, 0)] [] h r) (hr : f_Notches_seekStep_J145 R44 v7 h = some r) : mJ G M_Notches_seekStep 145 [(2, v0), (2, v1), (2, v2), (2, v3), (0, v4), (9, 0), (9, 0), (0, v7), (9, 0)] [] h r := by
  unfold f_Notches_seekStep_J145 at hr
  refine j_iincW (pc := 145) (L := fun x1 => [(2, v0), (2, v1), (2, v2), (2, v3), (0, v4), (9, 0), (9, 0), (0, x1), (9, 0)]) d_Notches_seekStep_145 rfl (fun _ => rfl) hr (fun x1 hr => ?_)
  refine j_goto (pc := 148) (tgt := 44) d_Notches_seekStep_148 ?_
  exact mJ_weak (ls' := [(2, v0), (2, v1), (2, v2), (2, v3), (0, v4), (9, 0), (9, 0), (0, x1), (9, 0)]) (mwk_s (mwk_s (mwk_s (mwk_s (mwk_s (mwk_s (mwk_s (mwk_s (mwk_s mwk_n))))))))) (hR44 h _ hr)
theorem t_Notches_seekStep_L44 {G : mG} {r : mR} {v0 v1 v2 v3 v4 : Int}  : ∀ (n : Nat) (h : mH) (v7 : Int), f_Notches_seekStep_L44 v0 v1 v2 v3 v4 n h v7 = some r → mJ G M_Notches_seekStep 44 [(2, v0), (2, v1), (2, v2), (2, v3), (0, v4), (9, 0), (9, 0), (0, v7), (9, 0)] [] h r := by
  intro n
  induction n with
  | zero =>
    intro h v7 hr
    rw [f_Notches_seekStep_L44] at hr
    cases hr
  | succ n hR44 =>
    intro h v7 hr
    rw [f_Notches_seekStep_L44] at hr
    refine j_iload (pc := 44) d_Notches_seekStep_44 rfl ?_
    refine j_aload_n (pc := 46) d_Notches_seekStep_46 rfl ?_
    refine j_getf (pc := 47) d_Notches_seekStep_47 (fd_Notches_44 rfl) hr (fun hr => ?_)
    refine j_icmp_ge (pc := 50) (tgt := 151) d_Notches_seekStep_50 hr (fun hr => ?_) (fun hr => ?_)
    · exact j_vret (pc := 151) d_Notches_seekStep_151 rfl hr
    · refine j_iconst (pc := 53) d_Notches_seekStep_53 ?_
      refine j_istore (pc := 54) (ls' := [(2, v0), (2, v1), (2, v2), (2, v3), (0, v4), (9, 0), (9, 0), (0, v7), (0, 0)]) d_Notches_seekStep_54 rfl ?_
      refine mJ_weak (ls' := [(2, v0), (2, v1), (2, v2), (2, v3), (0, v4), (9, 0), (9, 0), (0, v7), (0, 0)]) (mwk_s (mwk_s (mwk_s (mwk_s (mwk_s (mwk_s (mwk_s (mwk_s (mwk_s mwk_n))))))))) (t_Notches_seekStep_L56 (fun h1  hr => ?_) _ _ _ hr)
      · exact mJ_weak (ls' := [(2, v0), (2, v1), (2, v2), (2, v3), (0, v4), (9, 0), (9, 0), (0, v7), (9, 0)]) (mwk_s (mwk_s (mwk_s (mwk_s (mwk_s (mwk_s (mwk_s (mwk_s (mwk_s mwk_n))))))))) (t_Notches_seekStep_J145 hR44 hr)
theorem t_Notches_seekStep {G : mG} (h : mH) (v0 v1 v2 v3 v4 v5 v6 : Int) (r : mR) (hr : f_Notches_seekStep h v0 v1 v2 v3 v4 v5 v6 = some r) : mJM G M_Notches_seekStep [(2, v0), (2, v1), (2, v2), (2, v3), (0, v4), (0, v5), (0, v6)] h r := by
  refine mJM_of (L := [(2, v0), (2, v1), (2, v2), (2, v3), (0, v4), (0, v5), (0, v6), (9, 0), (9, 0)]) rfl rfl rfl (Nat.le_of_ble_eq_true rfl) ?_
  unfold f_Notches_seekStep at hr
  refine j_iload (pc := 0) d_Notches_seekStep_0 rfl ?_
  refine j_if_lt (pc := 2) (tgt := 16) d_Notches_seekStep_2 hr (fun hr => ?_) (fun hr => ?_)
  · exact j_vret (pc := 16) d_Notches_seekStep_16 rfl hr
  · refine j_iload (pc := 5) d_Notches_seekStep_5 rfl ?_
    refine j_aload_n (pc := 7) d_Notches_seekStep_7 rfl ?_
    refine j_iload (pc := 8) d_Notches_seekStep_8 rfl ?_
    obtain ⟨ha, hr⟩ := chk_some hr
    refine j_callG (pc := 10) (stk := [(0, v4), (2, v1), (0, v6)]) (as := [(2, v1), (0, v4)]) (P := (fun v9 => ((0 : Nat), v9) :: [(0, v6)])) (tg := 0) (My := M_Box_placesOf) (mRunV (as := [(0, v4)]) (st := [(0, v6)]) d_Notches_seekStep_10 (mc_Box_placesOf (by decide)) rfl (mv_Box_placesOf tb_ml_Notches_54) rfl (Nat.le_of_ble_eq_true rfl) ha) (fun v => rfl) rfl hr (fun r1 h1 => t_Box_placesOf _ _ _ _ h1) (fun x2 h1 hr => ?_)
    refine j_icmp_lt (pc := 13) (tgt := 17) d_Notches_seekStep_13 hr (fun hr => ?_) (fun hr => ?_)
    · refine j_aload_n (pc := 17) d_Notches_seekStep_17 rfl ?_
      refine j_getf (pc := 18) d_Notches_seekStep_18 (fd_Notches_15 rfl) hr (fun hr => ?_)
      refine j_iconst (pc := 21) d_Notches_seekStep_21 ?_
      refine j_iload (pc := 22) d_Notches_seekStep_22 rfl ?_
      refine j_iastore (pc := 24) d_Notches_seekStep_24 hr (fun h3 hr => ?_)
      refine j_aload_n (pc := 25) d_Notches_seekStep_25 rfl ?_
      refine j_getf (pc := 26) d_Notches_seekStep_26 (fd_Notches_15 rfl) hr (fun hr => ?_)
      refine j_iconst (pc := 29) d_Notches_seekStep_29 ?_
      refine j_iload (pc := 30) d_Notches_seekStep_30 rfl ?_
      refine j_iastore (pc := 32) d_Notches_seekStep_32 hr (fun h4 hr => ?_)
      refine j_aload_n (pc := 33) d_Notches_seekStep_33 rfl ?_
      refine j_getf (pc := 34) d_Notches_seekStep_34 (fd_Notches_15 rfl) hr (fun hr => ?_)
      refine j_iconst (pc := 37) d_Notches_seekStep_37 ?_
      refine j_iload (pc := 38) d_Notches_seekStep_38 rfl ?_
      refine j_iastore (pc := 40) d_Notches_seekStep_40 hr (fun h5 hr => ?_)
      refine j_iconst (pc := 41) d_Notches_seekStep_41 ?_
      refine j_istore (pc := 42) (ls' := [(2, v0), (2, v1), (2, v2), (2, v3), (0, v4), (0, v5), (0, v6), (0, 0), (9, 0)]) d_Notches_seekStep_42 rfl ?_
      refine mJ_weak (ls' := [(2, v0), (2, v1), (2, v2), (2, v3), (0, v4), (9, 0), (9, 0), (0, 0), (9, 0)]) (mwk_s (mwk_s (mwk_s (mwk_s (mwk_s (mwk_d (mwk_d (mwk_s (mwk_s mwk_n))))))))) (t_Notches_seekStep_L44  _ _ _ hr)
    · exact j_vret (pc := 16) d_Notches_seekStep_16 rfl hr
