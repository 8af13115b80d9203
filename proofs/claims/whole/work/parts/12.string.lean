def M_Sg_coder : mM := ("java/lang/String", ⟨"java/lang/String", "coder", "()B"⟩, prog_24_method_152_code, 1, some .byte, [], 1)
theorem tb_co_Sg_coder : mTB (Cond.code ⟨"java/lang/String", "coder", "()B"⟩ prog_24_method_152_code 1 (some .byte)) := tbq4 6 (by decide +kernel) rfl
theorem tb_in_java_lang_String : mTB (Cond.initialized "java/lang/String") := tbq1 18 (by decide +kernel) rfl
theorem mc_Sg_coder {M : mM} (hd : 1 < mDp M) : mCal M M_Sg_coder 0 := ⟨tb_co_Sg_coder, tb_in_java_lang_String, ⟨by decide +kernel, by decide +kernel⟩, by decide +kernel, hd, by decide⟩
theorem d_Sg_coder_0 : decode prog_24_method_152_code 0 = .ok (.getstatic 38, 3) := by decide +kernel
theorem d_Sg_coder_3 : decode prog_24_method_152_code 3 = .ok (.ifCond .eq 10, 3) := by decide +kernel
theorem d_Sg_coder_6 : decode prog_24_method_152_code 6 = .ok (.aload_n 0, 1) := by decide +kernel
theorem d_Sg_coder_7 : decode prog_24_method_152_code 7 = .ok (.getfield 15, 3) := by decide +kernel
theorem d_Sg_coder_10 : decode prog_24_method_152_code 10 = .ok (.goto 4, 3) := by decide +kernel
theorem d_Sg_coder_14 : decode prog_24_method_152_code 14 = .ok (.ireturn, 1) := by decide +kernel
theorem tb_im_Sg_coder : mTB (Cond.instanceMethod ⟨"java/lang/String", "coder", "()B"⟩) := tbq4 4 (by decide +kernel) rfl
theorem tb_se_Sg_coder : mTB (Cond.selects "java/lang/String" ⟨"java/lang/String", "coder", "()B"⟩ ⟨"java/lang/String", "coder", "()B"⟩) := tbq4 5 (by decide +kernel) rfl
def M_Sg_isLatin1 : mM := ("java/lang/String", ⟨"java/lang/String", "isLatin1", "()Z"⟩, prog_24_method_154_code, 1, some .boolean, [], 1)
theorem tb_co_Sg_isLatin1 : mTB (Cond.code ⟨"java/lang/String", "isLatin1", "()Z"⟩ prog_24_method_154_code 1 (some .boolean)) := tbq4 16 (by decide +kernel) rfl
theorem mc_Sg_isLatin1 {M : mM} (hd : 1 < mDp M) : mCal M M_Sg_isLatin1 0 := ⟨tb_co_Sg_isLatin1, tb_in_java_lang_String, ⟨by decide +kernel, by decide +kernel⟩, by decide +kernel, hd, by decide⟩
theorem d_Sg_isLatin1_0 : decode prog_24_method_154_code 0 = .ok (.getstatic 38, 3) := by decide +kernel
theorem d_Sg_isLatin1_3 : decode prog_24_method_154_code 3 = .ok (.ifCond .eq 14, 3) := by decide +kernel
theorem d_Sg_isLatin1_6 : decode prog_24_method_154_code 6 = .ok (.aload_n 0, 1) := by decide +kernel
theorem d_Sg_isLatin1_7 : decode prog_24_method_154_code 7 = .ok (.getfield 15, 3) := by decide +kernel
theorem d_Sg_isLatin1_10 : decode prog_24_method_154_code 10 = .ok (.ifCond .ne 7, 3) := by decide +kernel
theorem d_Sg_isLatin1_13 : decode prog_24_method_154_code 13 = .ok (.iconst 1, 1) := by decide +kernel
theorem d_Sg_isLatin1_14 : decode prog_24_method_154_code 14 = .ok (.goto 4, 3) := by decide +kernel
theorem d_Sg_isLatin1_18 : decode prog_24_method_154_code 18 = .ok (.ireturn, 1) := by decide +kernel
theorem tb_im_Sg_isLatin1 : mTB (Cond.instanceMethod ⟨"java/lang/String", "isLatin1", "()Z"⟩) := tbq4 14 (by decide +kernel) rfl
theorem tb_se_Sg_isLatin1 : mTB (Cond.selects "java/lang/String" ⟨"java/lang/String", "isLatin1", "()Z"⟩ ⟨"java/lang/String", "isLatin1", "()Z"⟩) := tbq4 15 (by decide +kernel) rfl
def M_Sg_length : mM := ("java/lang/String", ⟨"java/lang/String", "length", "()I"⟩, prog_24_method_54_code, 1, some .int, [], 2)
theorem tb_co_Sg_length : mTB (Cond.code ⟨"java/lang/String", "length", "()I"⟩ prog_24_method_54_code 1 (some .int)) := tbq4 2 (by decide +kernel) rfl
theorem mc_Sg_length {M : mM} (hd : 2 < mDp M) : mCal M M_Sg_length 0 := ⟨tb_co_Sg_length, tb_in_java_lang_String, ⟨by decide +kernel, by decide +kernel⟩, by decide +kernel, hd, by decide⟩
theorem d_Sg_length_0 : decode prog_24_method_54_code 0 = .ok (.aload_n 0, 1) := by decide +kernel
theorem d_Sg_length_1 : decode prog_24_method_54_code 1 = .ok (.getfield 9, 3) := by decide +kernel
theorem d_Sg_length_4 : decode prog_24_method_54_code 4 = .ok (.arraylength, 1) := by decide +kernel
theorem d_Sg_length_5 : decode prog_24_method_54_code 5 = .ok (.aload_n 0, 1) := by decide +kernel
theorem d_Sg_length_6 : decode prog_24_method_54_code 6 = .ok (.invokevirtual 335, 3) := by decide +kernel
theorem d_Sg_length_9 : decode prog_24_method_54_code 9 = .ok (.ishr, 1) := by decide +kernel
theorem d_Sg_length_10 : decode prog_24_method_54_code 10 = .ok (.ireturn, 1) := by decide +kernel
theorem tb_im_Sg_length : mTB (Cond.instanceMethod ⟨"java/lang/String", "length", "()I"⟩) := tbq4 0 (by decide +kernel) rfl
theorem tb_se_Sg_length : mTB (Cond.selects "java/lang/String" ⟨"java/lang/String", "length", "()I"⟩ ⟨"java/lang/String", "length", "()I"⟩) := tbq4 1 (by decide +kernel) rfl
def M_Pc_checkIndex : mM := ("jdk/internal/util/Preconditions", ⟨"jdk/internal/util/Preconditions", "checkIndex", "(IILjava/util/function/BiFunction;)I"⟩, prog_32_method_11_code, 3, some .int, [], 1)
theorem tb_co_Pc_checkIndex : mTB (Cond.code ⟨"jdk/internal/util/Preconditions", "checkIndex", "(IILjava/util/function/BiFunction;)I"⟩ prog_32_method_11_code 3 (some .int)) := tbq4 27 (by decide +kernel) rfl
theorem tb_in_jdk_internal_util_Preconditions : mTB (Cond.initialized "jdk/internal/util/Preconditions") := tbq1 20 (by decide +kernel) rfl
theorem mc_Pc_checkIndex {M : mM} (hd : 1 < mDp M) : mCal M M_Pc_checkIndex 3 := ⟨tb_co_Pc_checkIndex, tb_in_jdk_internal_util_Preconditions, ⟨by decide +kernel, by decide +kernel⟩, by decide +kernel, hd, by decide⟩
theorem d_Pc_checkIndex_0 : decode prog_32_method_11_code 0 = .ok (.iload_n 0, 1) := by decide +kernel
theorem d_Pc_checkIndex_1 : decode prog_32_method_11_code 1 = .ok (.ifCond .lt 8, 3) := by decide +kernel
theorem d_Pc_checkIndex_4 : decode prog_32_method_11_code 4 = .ok (.iload_n 0, 1) := by decide +kernel
theorem d_Pc_checkIndex_5 : decode prog_32_method_11_code 5 = .ok (.iload_n 1, 1) := by decide +kernel
theorem d_Pc_checkIndex_6 : decode prog_32_method_11_code 6 = .ok (.if_icmp .lt 10, 3) := by decide +kernel
theorem d_Pc_checkIndex_16 : decode prog_32_method_11_code 16 = .ok (.iload_n 0, 1) := by decide +kernel
theorem d_Pc_checkIndex_17 : decode prog_32_method_11_code 17 = .ok (.ireturn, 1) := by decide +kernel
theorem tb_sm_Pc_checkIndex : mTB (Cond.static ⟨"jdk/internal/util/Preconditions", "checkIndex", "(IILjava/util/function/BiFunction;)I"⟩) := tbq4 26 (by decide +kernel) rfl
def M_Sg_checkIndex : mM := ("java/lang/String", ⟨"java/lang/String", "checkIndex", "(II)V"⟩, prog_24_method_155_code, 2, none, [], 2)
theorem tb_co_Sg_checkIndex : mTB (Cond.code ⟨"java/lang/String", "checkIndex", "(II)V"⟩ prog_24_method_155_code 2 (none)) := tbq4 22 (by decide +kernel) rfl
theorem mc_Sg_checkIndex {M : mM} (hd : 2 < mDp M) : mCal M M_Sg_checkIndex 2 := ⟨tb_co_Sg_checkIndex, tb_in_java_lang_String, ⟨by decide +kernel, by decide +kernel⟩, by decide +kernel, hd, by decide⟩
theorem d_Sg_checkIndex_0 : decode prog_24_method_155_code 0 = .ok (.iload_n 0, 1) := by decide +kernel
theorem d_Sg_checkIndex_1 : decode prog_24_method_155_code 1 = .ok (.iload_n 1, 1) := by decide +kernel
theorem d_Sg_checkIndex_2 : decode prog_24_method_155_code 2 = .ok (.getstatic 1053, 3) := by decide +kernel
theorem d_Sg_checkIndex_5 : decode prog_24_method_155_code 5 = .ok (.invokestatic 1059, 3) := by decide +kernel
theorem d_Sg_checkIndex_8 : decode prog_24_method_155_code 8 = .ok (.pop, 1) := by decide +kernel
theorem d_Sg_checkIndex_9 : decode prog_24_method_155_code 9 = .ok (.return_, 1) := by decide +kernel
theorem tb_sm_Sg_checkIndex : mTB (Cond.static ⟨"java/lang/String", "checkIndex", "(II)V"⟩) := tbq4 21 (by decide +kernel) rfl
def M_Sl_charAt : mM := ("java/lang/StringLatin1", ⟨"java/lang/StringLatin1", "charAt", "([BI)C"⟩, prog_25_method_2_code, 2, some .char, [], 3)
theorem tb_co_Sl_charAt : mTB (Cond.code ⟨"java/lang/StringLatin1", "charAt", "([BI)C"⟩ prog_25_method_2_code 2 (some .char)) := tbq4 19 (by decide +kernel) rfl
theorem tb_in_java_lang_StringLatin1 : mTB (Cond.initialized "java/lang/StringLatin1") := tbq1 19 (by decide +kernel) rfl
theorem mc_Sl_charAt {M : mM} (hd : 3 < mDp M) : mCal M M_Sl_charAt 2 := ⟨tb_co_Sl_charAt, tb_in_java_lang_StringLatin1, ⟨by decide +kernel, by decide +kernel⟩, by decide +kernel, hd, by decide⟩
theorem d_Sl_charAt_0 : decode prog_25_method_2_code 0 = .ok (.iload_n 1, 1) := by decide +kernel
theorem d_Sl_charAt_1 : decode prog_25_method_2_code 1 = .ok (.aload_n 0, 1) := by decide +kernel
theorem d_Sl_charAt_2 : decode prog_25_method_2_code 2 = .ok (.arraylength, 1) := by decide +kernel
theorem d_Sl_charAt_3 : decode prog_25_method_2_code 3 = .ok (.invokestatic 9, 3) := by decide +kernel
theorem d_Sl_charAt_6 : decode prog_25_method_2_code 6 = .ok (.aload_n 0, 1) := by decide +kernel
theorem d_Sl_charAt_7 : decode prog_25_method_2_code 7 = .ok (.iload_n 1, 1) := by decide +kernel
theorem d_Sl_charAt_8 : decode prog_25_method_2_code 8 = .ok (.baload, 1) := by decide +kernel
theorem d_Sl_charAt_9 : decode prog_25_method_2_code 9 = .ok (.sipush 255, 3) := by decide +kernel
theorem d_Sl_charAt_12 : decode prog_25_method_2_code 12 = .ok (.iand, 1) := by decide +kernel
theorem d_Sl_charAt_13 : decode prog_25_method_2_code 13 = .ok (.i2c, 1) := by decide +kernel
theorem d_Sl_charAt_14 : decode prog_25_method_2_code 14 = .ok (.ireturn, 1) := by decide +kernel
theorem tb_sm_Sl_charAt : mTB (Cond.static ⟨"java/lang/StringLatin1", "charAt", "([BI)C"⟩) := tbq4 18 (by decide +kernel) rfl
def M_Sg_charAt : mM := ("java/lang/String", ⟨"java/lang/String", "charAt", "(I)C"⟩, prog_24_method_56_code, 2, some .char, [], 4)
theorem tb_co_Sg_charAt : mTB (Cond.code ⟨"java/lang/String", "charAt", "(I)C"⟩ prog_24_method_56_code 2 (some .char)) := tbq4 12 (by decide +kernel) rfl
theorem mc_Sg_charAt {M : mM} (hd : 4 < mDp M) : mCal M M_Sg_charAt 1 := ⟨tb_co_Sg_charAt, tb_in_java_lang_String, ⟨by decide +kernel, by decide +kernel⟩, by decide +kernel, hd, by decide⟩
theorem d_Sg_charAt_0 : decode prog_24_method_56_code 0 = .ok (.aload_n 0, 1) := by decide +kernel
theorem d_Sg_charAt_1 : decode prog_24_method_56_code 1 = .ok (.invokevirtual 492, 3) := by decide +kernel
theorem d_Sg_charAt_4 : decode prog_24_method_56_code 4 = .ok (.ifCond .eq 12, 3) := by decide +kernel
theorem d_Sg_charAt_7 : decode prog_24_method_56_code 7 = .ok (.aload_n 0, 1) := by decide +kernel
theorem d_Sg_charAt_8 : decode prog_24_method_56_code 8 = .ok (.getfield 9, 3) := by decide +kernel
theorem d_Sg_charAt_11 : decode prog_24_method_56_code 11 = .ok (.iload_n 1, 1) := by decide +kernel
theorem d_Sg_charAt_12 : decode prog_24_method_56_code 12 = .ok (.invokestatic 495, 3) := by decide +kernel
theorem d_Sg_charAt_15 : decode prog_24_method_56_code 15 = .ok (.ireturn, 1) := by decide +kernel
theorem tb_im_Sg_charAt : mTB (Cond.instanceMethod ⟨"java/lang/String", "charAt", "(I)C"⟩) := tbq4 10 (by decide +kernel) rfl
theorem tb_se_Sg_charAt : mTB (Cond.selects "java/lang/String" ⟨"java/lang/String", "charAt", "(I)C"⟩ ⟨"java/lang/String", "charAt", "(I)C"⟩) := tbq4 11 (by decide +kernel) rfl
theorem tb_fl_Sg_9 : mTB (Cond.fieldLink "java/lang/String" 9 "java/lang/String" "value" "[B") := tbq9 106 (by decide +kernel) rfl
theorem tb_fl_Sg_15 : mTB (Cond.fieldLink "java/lang/String" 15 "java/lang/String" "coder" "B") := tbq9 107 (by decide +kernel) rfl
theorem tb_fl_Sg_38 : mTB (Cond.fieldLink "java/lang/String" 38 "java/lang/String" "COMPACT_STRINGS" "Z") := tbq4 7 (by decide +kernel) rfl
theorem tb_fl_Sg_1053 : mTB (Cond.fieldLink "java/lang/String" 1053 "jdk/internal/util/Preconditions" "SIOOBE_FORMATTER" "Ljava/util/function/BiFunction;") := tbq4 23 (by decide +kernel) rfl
theorem tb_ml_Sg_335 : mTB (Cond.methodLink "java/lang/String" 335 ⟨"java/lang/String", "coder", "()B"⟩) := tbq4 3 (by decide +kernel) rfl
theorem tb_ml_Sg_492 : mTB (Cond.methodLink "java/lang/String" 492 ⟨"java/lang/String", "isLatin1", "()Z"⟩) := tbq4 13 (by decide +kernel) rfl
theorem tb_ml_Sg_495 : mTB (Cond.methodLink "java/lang/String" 495 ⟨"java/lang/StringLatin1", "charAt", "([BI)C"⟩) := tbq4 17 (by decide +kernel) rfl
theorem tb_ml_Sl_9 : mTB (Cond.methodLink "java/lang/StringLatin1" 9 ⟨"java/lang/String", "checkIndex", "(II)V"⟩) := tbq4 20 (by decide +kernel) rfl
theorem tb_ml_Sg_1059 : mTB (Cond.methodLink "java/lang/String" 1059 ⟨"jdk/internal/util/Preconditions", "checkIndex", "(IILjava/util/function/BiFunction;)I"⟩) := tbq4 25 (by decide +kernel) rfl
section
variable {G : mG} {M My : mM} {pc : Nat} {ls st : List mV} {h : mH} {r : mR}
theorem j_fmt {idx : Nat} (hd : decode (mB M) pc = .ok (.getstatic idx, 3)) (hl : mTB (Cond.fieldLink (mO M) idx "jdk/internal/util/Preconditions" "SIOOBE_FORMATTER" "Ljava/util/function/BiFunction;")) (kn : mJ G M (pc + 3) ls ((2, if gW G 98 = 0 then 0 else -199) :: st) h r) : mJ G M pc ls st h r := by
  refine j_step (fun p e R s m args below meth c9 H locs cells slots Q lsA mst hC hS hH hL hst hcl hsl kk => ?_) kn
  obtain ⟨hx, hb, hml, hr1, hlk, htb, hown, hnm, hts, henv, hR, g⟩ := hC
  obtain ⟨-, -, -, -, -, -, -, -, g9, -⟩ := g
  have hZ := va_Z.moved henv.1.alike (g9.kept (fun q hq hA => henv.2.2 q (by unfold mA at hA; omega)))
  by_cases h0 : gW G 98 = 0
  · rw [if_pos h0] at hZ kk
    exact va_gets hx hb hZ hS hown (hts _ hl) (fun x hx => hx) hd (kk lsA _ hL ⟨⟨rfl, rfl⟩, hst⟩)
  · rw [if_neg h0] at hZ kk
    exact va_gets hx hb hZ hS hown (hts _ hl) (fun x hx => hx) hd (kk lsA _ hL ⟨⟨rfl, mr_low G 99⟩, hst⟩)
theorem i32_b2 (x : Int32) (h : x.toInt = 0 ∨ x.toInt = 1) : x = 0 ∨ x = 1 := by
  rcases h with h0 | h0
  · left; rw [← Int32.toInt_inj, h0]; rfl
  · right; rw [← Int32.toInt_inj, h0]; rfl
theorem j_nret {a : Int} {ty : FieldType} (hd : decode (mB M) pc = .ok (.ireturn, 1)) (hrt : mRt M = some ty) (hn : ∀ x : Int32, x.toInt = a → narrow ty (.int x) = .int x) (hr : some (((0, a), h) : mR) = some r) : mJ G M pc ls [(0, a)] h r := by
  cases Option.some.inj hr
  refine ⟨⟨Int.le_refl _, Int.le_refl _⟩, fun p e R s m args below meth c H locs cells slots mc ms lsA mst hC hS hH hL hst h1 h2 h3 h4 => ?_⟩
  obtain ⟨hx, hb, hml, hr1, hlk, htb, hown, hnm, hts, henv, hR, g⟩ := hC
  obtain ⟨x, m1, rfl, hxa, hst1⟩ := mRS_i hst
  cases m1 with
  | cons _ _ => exact hst1.elim
  | nil =>
    dsimp only at h1 h2
    refine W.widen (k := mc) (n := ms) (by omega) (by omega) (vx_ret ?_)
    exact W.zret hx hb (hr1.trans hrt) (hn x hxa) (fun t ht hw => ⟨⟨_, rfl, hst.1, by rw [ht]; exact hH⟩, hS.F ht⟩) hS.2.2 hd hlk
theorem nar_char {a : Int} (h : 0 ≤ a ∧ a < 65536) (x : Int32) (hx : x.toInt = a) : narrow .char (.int x) = .int x := by
  show Value.int ((x.toUInt32 % 65536).toInt32) = .int x
  congr 1
  rw [← Int32.toInt_inj, i32_i2c, hx]
  omega
end
def litN (w : Int) : Nat := (-w - 2).toNat
theorem lit_of {w : Int} (h : -11 ≤ w ∧ w ≤ -2) : ∃ k : Nat, k < 10 ∧ w = -((k : Int) + 2) ∧ litN w = k := ⟨litN w, by unfold litN; omega, by unfold litN; omega, rfl⟩
def f_Sg_length (h : mH) (w : Int) : Option mR := some ((0, (mLn.getD (litN w) 0 : Nat)), h)
def f_Sg_charAt (h : mH) (w i : Int) : Option mR := chk (0 ≤ i ∧ i < (mLn.getD (litN w) 0 : Nat)) (some ((0, qand ((mBy.getD (litN w) []).getD i.toNat 0).toInt 255 % 65536), h))
theorem t_Sg_coder {G : mG} {h : mH} {k : Nat} (hk : k < 10) : mJM G M_Sg_coder [(2, -((k : Int) + 2))] h ((0, 0), h) := by
  refine mJM_of (L := [(2, -((k : Int) + 2))]) rfl rfl rfl (Nat.le_of_ble_eq_true rfl) ?_
  refine j_compact (pc := 0) d_Sg_coder_0 tb_fl_Sg_38 ?_
  refine j_if_eq (pc := 3) (tgt := 13) (A := none) (B := some ((0, 0), h)) d_Sg_coder_3 (by rw [if_neg (by decide)]) (fun h9 => by cases h9) (fun _ => ?_)
  refine j_aload_n (pc := 6) d_Sg_coder_6 rfl ?_
  refine j_litC (pc := 7) d_Sg_coder_7 hk tb_fl_Sg_15 ?_
  refine j_goto (pc := 10) (tgt := 14) d_Sg_coder_10 ?_
  exact j_nret (pc := 14) d_Sg_coder_14 rfl (fun x hx => by rcases i32_b2 x (Or.inl hx) with rfl | rfl <;> rfl) rfl
theorem t_Sg_isLatin1 {G : mG} {h : mH} {k : Nat} (hk : k < 10) : mJM G M_Sg_isLatin1 [(2, -((k : Int) + 2))] h ((0, 1), h) := by
  refine mJM_of (L := [(2, -((k : Int) + 2))]) rfl rfl rfl (Nat.le_of_ble_eq_true rfl) ?_
  refine j_compact (pc := 0) d_Sg_isLatin1_0 tb_fl_Sg_38 ?_
  refine j_if_eq (pc := 3) (tgt := 17) (A := none) (B := some ((0, 1), h)) d_Sg_isLatin1_3 (by rw [if_neg (by decide)]) (fun h9 => by cases h9) (fun _ => ?_)
  refine j_aload_n (pc := 6) d_Sg_isLatin1_6 rfl ?_
  refine j_litC (pc := 7) d_Sg_isLatin1_7 hk tb_fl_Sg_15 ?_
  refine j_if_ne (pc := 10) (tgt := 17) (B := some ((0, 1), h)) (A := none) d_Sg_isLatin1_10 (by rw [if_pos rfl]) (fun h9 => by cases h9) (fun _ => ?_)
  refine j_iconst (pc := 13) d_Sg_isLatin1_13 ?_
  refine j_goto (pc := 14) (tgt := 18) d_Sg_isLatin1_14 ?_
  exact j_zret (pc := 18) d_Sg_isLatin1_18 rfl rfl
theorem mr1 {r1 q : mR} (h : some q = some r1) (P : mR → Prop) (k : P q) : P r1 := by cases h; exact k
theorem lit_sh : ∀ k : Nat, k < 10 → qshr (mLn.getD k 0 : Nat) 0 = (mLn.getD k 0 : Nat) := by decide +kernel
theorem t_Sg_length {G : mG} (h : mH) (w : Int) (r : mR) (hw : -11 ≤ w ∧ w ≤ -2) (hr : f_Sg_length h w = some r) : mJM G M_Sg_length [(2, w)] h r := by
  obtain ⟨k, hk, rfl, hl⟩ := lit_of hw
  unfold f_Sg_length at hr
  rw [hl] at hr
  refine mJM_of (L := [(2, -((k : Int) + 2))]) rfl rfl rfl (Nat.le_of_ble_eq_true rfl) ?_
  refine j_aload_n (pc := 0) d_Sg_length_0 rfl ?_
  refine j_litV (pc := 1) d_Sg_length_1 hk tb_fl_Sg_9 ?_
  refine j_litL (pc := 4) d_Sg_length_4 hk ?_
  refine j_aload_n (pc := 5) d_Sg_length_5 rfl ?_
  refine j_callG (pc := 6) (stk := [(2, -((k : Int) + 2)), (0, (mLn.getD k 0 : Nat))]) (as := [(2, -((k : Int) + 2))]) (P := fun v9 => [(0, v9), (0, (mLn.getD k 0 : Nat))]) (tg := 0) (My := M_Sg_coder) (cl := some ((0, 0), h)) (X := fun v h2 => some ((0, qshr (mLn.getD k 0 : Nat) v), h2)) (mRunK (as := []) (st := [(0, (mLn.getD k 0 : Nat))]) d_Sg_length_6 (mc_Sg_coder (by decide)) rfl ⟨tb_ml_Sg_335, tb_im_Sg_coder, tb_se_Sg_coder, rfl⟩ rfl (Nat.le_of_ble_eq_true rfl) hk) (fun v => rfl) rfl (by rw [← hr]; show some ((0, qshr (mLn.getD k 0 : Nat) 0), h) = _; rw [lit_sh k hk]) (fun r1 h1 => by cases h1; exact t_Sg_coder hk) (fun v h2 hr => ?_)
  refine j_ishr (pc := 9) d_Sg_length_9 ?_
  exact j_iret (pc := 10) d_Sg_length_10 rfl hr
theorem t_Pc_checkIndex {G : mG} (h : mH) (i n f : Int) (hi : 0 ≤ i ∧ i < n) : mJM G M_Pc_checkIndex [(0, i), (0, n), (2, f)] h ((0, i), h) := by
  refine mJM_of (L := [(0, i), (0, n), (2, f)]) rfl rfl rfl (Nat.le_of_ble_eq_true rfl) ?_
  refine j_iload_n (pc := 0) d_Pc_checkIndex_0 rfl ?_
  refine j_if_lt (pc := 1) (tgt := 9) (A := none) (B := some ((0, i), h)) d_Pc_checkIndex_1 (by rw [if_neg (by omega)]) (fun h9 => by cases h9) (fun _ => ?_)
  refine j_iload_n (pc := 4) d_Pc_checkIndex_4 rfl ?_
  refine j_iload_n (pc := 5) d_Pc_checkIndex_5 rfl ?_
  refine j_icmp_lt (pc := 6) (tgt := 16) (A := some ((0, i), h)) (B := none) d_Pc_checkIndex_6 (by rw [if_pos hi.2]) (fun _ => ?_) (fun h9 => by cases h9)
  refine j_iload_n (pc := 16) d_Pc_checkIndex_16 rfl ?_
  exact j_iret (pc := 17) d_Pc_checkIndex_17 rfl rfl
theorem t_Sg_checkIndex {G : mG} (h : mH) (i n : Int) (hi : 0 ≤ i ∧ i < n) : mJM G M_Sg_checkIndex [(0, i), (0, n)] h ((3, 0), h) := by
  refine mJM_of (L := [(0, i), (0, n)]) rfl rfl rfl (Nat.le_of_ble_eq_true rfl) ?_
  refine j_iload_n (pc := 0) d_Sg_checkIndex_0 rfl ?_
  refine j_iload_n (pc := 1) d_Sg_checkIndex_1 rfl ?_
  refine j_fmt (pc := 2) d_Sg_checkIndex_2 tb_fl_Sg_1053 ?_
  refine j_callG (pc := 5) (stk := [(2, if gW G 98 = 0 then 0 else -199), (0, n), (0, i)]) (as := [(0, i), (0, n), (2, if gW G 98 = 0 then 0 else -199)]) (P := fun v9 => [(0, v9)]) (tg := 0) (My := M_Pc_checkIndex) (cl := some ((0, i), h)) (X := fun v h2 => some ((3, 0), h2)) (mRunS (as := [(0, i), (0, n), (2, if gW G 98 = 0 then 0 else -199)]) (st := []) d_Sg_checkIndex_5 (mc_Pc_checkIndex (by decide)) rfl ⟨tb_ml_Sg_1059, tb_sm_Pc_checkIndex⟩ rfl (Nat.le_of_ble_eq_true rfl)) (fun v => rfl) rfl rfl (fun r1 h1 => by cases h1; exact t_Pc_checkIndex _ _ _ _ hi) (fun v h2 hr => ?_)
  refine j_pop (pc := 8) d_Sg_checkIndex_8 ?_
  exact j_vret (pc := 9) d_Sg_checkIndex_9 rfl hr
theorem t_Sl_charAt {G : mG} {h : mH} {k : Nat} {i : Int} (hk : k < 10) (hi : 0 ≤ i ∧ i < (mLn.getD k 0 : Nat)) : mJM G M_Sl_charAt [(2, -((k : Int) + 100)), (0, i)] h ((0, qand ((mBy.getD k []).getD i.toNat 0).toInt 255 % 65536), h) := by
  refine mJM_of (L := [(2, -((k : Int) + 100)), (0, i)]) rfl rfl rfl (Nat.le_of_ble_eq_true rfl) ?_
  refine j_iload_n (pc := 0) d_Sl_charAt_0 rfl ?_
  refine j_aload_n (pc := 1) d_Sl_charAt_1 rfl ?_
  refine j_litL (pc := 2) d_Sl_charAt_2 hk ?_
  refine j_callG (pc := 3) (stk := [(0, (mLn.getD k 0 : Nat)), (0, i)]) (as := [(0, i), (0, (mLn.getD k 0 : Nat))]) (P := fun v9 => []) (tg := 3) (My := M_Sg_checkIndex) (cl := some ((3, 0), h)) (X := fun v h2 => chk (0 ≤ i ∧ i < (mLn.getD k 0 : Nat)) (some ((0, qand ((mBy.getD k []).getD i.toNat 0).toInt 255 % 65536), h2))) (mRunS (as := [(0, i), (0, (mLn.getD k 0 : Nat))]) (st := []) d_Sl_charAt_3 (mc_Sg_checkIndex (by decide)) rfl ⟨tb_ml_Sl_9, tb_sm_Sg_checkIndex⟩ rfl (Nat.le_of_ble_eq_true rfl)) (fun v => rfl) rfl (by show chk _ _ = _; unfold chk; rw [if_pos hi]) (fun r1 h1 => by cases h1; exact t_Sg_checkIndex _ _ _ hi) (fun v h2 hr => ?_)
  refine j_aload_n (pc := 6) d_Sl_charAt_6 rfl ?_
  refine j_iload_n (pc := 7) d_Sl_charAt_7 rfl ?_
  refine j_litB (pc := 8) d_Sl_charAt_8 hk hr (fun hr => ?_)
  refine j_sipush (pc := 9) d_Sl_charAt_9 ?_
  refine j_iand (pc := 12) d_Sl_charAt_12 ?_
  refine j_i2c (pc := 13) d_Sl_charAt_13 ?_
  exact j_nret (pc := 14) d_Sl_charAt_14 rfl (nar_char (by omega)) hr
theorem t_Sg_charAt {G : mG} (h : mH) (w i : Int) (r : mR) (hw : -11 ≤ w ∧ w ≤ -2) (hr : f_Sg_charAt h w i = some r) : mJM G M_Sg_charAt [(2, w), (0, i)] h r := by
  obtain ⟨k, hk, rfl, hl⟩ := lit_of hw
  unfold f_Sg_charAt at hr
  rw [hl] at hr
  obtain ⟨hi, hr⟩ := chk_some hr
  refine mJM_of (L := [(2, -((k : Int) + 2)), (0, i)]) rfl rfl rfl (Nat.le_of_ble_eq_true rfl) ?_
  refine j_aload_n (pc := 0) d_Sg_charAt_0 rfl ?_
  refine j_callG (pc := 1) (stk := [(2, -((k : Int) + 2))]) (as := [(2, -((k : Int) + 2))]) (P := fun v9 => [(0, v9)]) (tg := 0) (My := M_Sg_isLatin1) (cl := some ((0, 1), h)) (X := fun v h2 => if v = 0 then none else some ((0, qand ((mBy.getD k []).getD i.toNat 0).toInt 255 % 65536), h2)) (mRunK (as := []) (st := []) d_Sg_charAt_1 (mc_Sg_isLatin1 (by decide)) rfl ⟨tb_ml_Sg_492, tb_im_Sg_isLatin1, tb_se_Sg_isLatin1, rfl⟩ rfl (Nat.le_of_ble_eq_true rfl) hk) (fun v => rfl) rfl hr (fun r1 h1 => by cases h1; exact t_Sg_isLatin1 hk) (fun v h2 hr => ?_)
  refine j_if_eq (pc := 4) (tgt := 16) d_Sg_charAt_4 hr (fun h9 => by cases h9) (fun hr => ?_)
  refine j_aload_n (pc := 7) d_Sg_charAt_7 rfl ?_
  refine j_litV (pc := 8) d_Sg_charAt_8 hk tb_fl_Sg_9 ?_
  refine j_iload_n (pc := 11) d_Sg_charAt_11 rfl ?_
  refine j_callG (pc := 12) (stk := [(0, i), (2, -((k : Int) + 100))]) (as := [(2, -((k : Int) + 100)), (0, i)]) (P := fun v9 => [(0, v9)]) (tg := 0) (My := M_Sl_charAt) (cl := some ((0, qand ((mBy.getD k []).getD i.toNat 0).toInt 255 % 65536), h2)) (X := fun v h3 => if v = qand ((mBy.getD k []).getD i.toNat 0).toInt 255 % 65536 then some ((0, v), h3) else none) (mRunS (as := [(2, -((k : Int) + 100)), (0, i)]) (st := []) d_Sg_charAt_12 (mc_Sl_charAt (by decide)) rfl ⟨tb_ml_Sg_495, tb_sm_Sl_charAt⟩ rfl (Nat.le_of_ble_eq_true rfl)) (fun v => rfl) rfl (by rw [← hr]; show (if _ then _ else _) = _; rw [if_pos rfl]) (fun r1 h1 => by cases h1; exact t_Sl_charAt hk hi) (fun v h3 hr => ?_)
  by_cases hv : v = qand ((mBy.getD k []).getD i.toNat 0).toInt 255 % 65536
  · rw [if_pos hv] at hr
    exact j_nret (pc := 15) d_Sg_charAt_15 rfl (nar_char (by omega)) hr
  · rw [if_neg hv] at hr
    cases hr
section
variable {G : mG} {M My : mM} {pc : Nat} {ls st : List mV} {h : mH} {r : mR}
theorem j_call_Sg_length {idx : Nat} {w : Int} {X : Int → mH → Option mR} (hd : decode (mB M) pc = .ok (.invokevirtual idx, 3)) (hl : mTB (Cond.methodLink (mO M) idx ⟨"java/lang/String", "length", "()I"⟩)) (hdp : 2 < mDp M) (hwt : mwt st ≤ 8) (hw : -11 ≤ w ∧ w ≤ -2) (hh : mHh M = []) (hr : bndT 0 (f_Sg_length h w) X = some r) (kn : ∀ v h1, X v h1 = some r → mJ G M (pc + 3) ls ((0, v) :: st) h1 r) : mJ G M pc ls ((2, w) :: st) h r := by
  obtain ⟨k, hk, rfl, -⟩ := lit_of hw
  exact j_callG (pc := pc) (stk := (2, -((k : Int) + 2)) :: st) (as := [(2, -((k : Int) + 2))]) (P := fun v9 => (0, v9) :: st) (tg := 0) (My := M_Sg_length) (mRunK (as := []) (st := st) hd (mc_Sg_length hdp) rfl ⟨hl, tb_im_Sg_length, tb_se_Sg_length, rfl⟩ rfl hwt hk) (fun v => rfl) hh hr (fun r1 h1 => t_Sg_length _ _ _ hw h1) kn
theorem j_call_Sg_charAt {idx : Nat} {w i : Int} {X : Int → mH → Option mR} (hd : decode (mB M) pc = .ok (.invokevirtual idx, 3)) (hl : mTB (Cond.methodLink (mO M) idx ⟨"java/lang/String", "charAt", "(I)C"⟩)) (hdp : 4 < mDp M) (hwt : mwt st ≤ 8) (hw : -11 ≤ w ∧ w ≤ -2) (hh : mHh M = []) (hr : bndT 0 (f_Sg_charAt h w i) X = some r) (kn : ∀ v h1, X v h1 = some r → mJ G M (pc + 3) ls ((0, v) :: st) h1 r) : mJ G M pc ls ((0, i) :: (2, w) :: st) h r := by
  obtain ⟨k, hk, rfl, -⟩ := lit_of hw
  exact j_callG (pc := pc) (stk := (0, i) :: (2, -((k : Int) + 2)) :: st) (as := [(2, -((k : Int) + 2)), (0, i)]) (P := fun v9 => (0, v9) :: st) (tg := 0) (My := M_Sg_charAt) (mRunK (as := [(0, i)]) (st := st) hd (mc_Sg_charAt hdp) rfl ⟨hl, tb_im_Sg_charAt, tb_se_Sg_charAt, rfl⟩ rfl hwt hk) (fun v => rfl) hh hr (fun r1 h1 => t_Sg_charAt _ _ _ _ hw h1) kn
end

