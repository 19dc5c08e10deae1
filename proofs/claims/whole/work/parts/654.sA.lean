theorem d_Ch_chosenByPlace_0 : decode b_Ch_chosenByPlace 0 = .ok (.aload_n 0, 1) := by decide +kernel
theorem d_Ch_chosenByPlace_1 : decode b_Ch_chosenByPlace 1 = .ok (.iconst 0, 1) := by decide +kernel
theorem d_Ch_chosenByPlace_2 : decode b_Ch_chosenByPlace 2 = .ok (.invokevirtual 86, 3) := by decide +kernel
theorem d_Ch_chosenByPlace_5 : decode b_Ch_chosenByPlace 5 = .ok (.lstore_n 1, 1) := by decide +kernel
theorem d_Ch_chosenByPlace_6 : decode b_Ch_chosenByPlace 6 = .ok (.lload_n 1, 1) := by decide +kernel
theorem d_Ch_chosenByPlace_7 : decode b_Ch_chosenByPlace 7 = .ok (.lconst 1, 1) := by decide +kernel
theorem d_Ch_chosenByPlace_8 : decode b_Ch_chosenByPlace 8 = .ok (.lcmp, 1) := by decide +kernel
theorem d_Ch_chosenByPlace_9 : decode b_Ch_chosenByPlace 9 = .ok (.ifCond .lt 13, 3) := by decide +kernel
theorem d_Ch_chosenByPlace_12 : decode b_Ch_chosenByPlace 12 = .ok (.lload_n 1, 1) := by decide +kernel
theorem d_Ch_chosenByPlace_13 : decode b_Ch_chosenByPlace 13 = .ok (.aload_n 0, 1) := by decide +kernel
theorem d_Ch_chosenByPlace_14 : decode b_Ch_chosenByPlace 14 = .ok (.invokevirtual 75, 3) := by decide +kernel
theorem d_Ch_chosenByPlace_17 : decode b_Ch_chosenByPlace 17 = .ok (.i2l, 1) := by decide +kernel
theorem d_Ch_chosenByPlace_18 : decode b_Ch_chosenByPlace 18 = .ok (.lcmp, 1) := by decide +kernel
theorem d_Ch_chosenByPlace_19 : decode b_Ch_chosenByPlace 19 = .ok (.ifCond .lt 8, 3) := by decide +kernel
theorem d_Ch_chosenByPlace_22 : decode b_Ch_chosenByPlace 22 = .ok (.iconst 3, 1) := by decide +kernel
theorem d_Ch_chosenByPlace_23 : decode b_Ch_chosenByPlace 23 = .ok (.invokestatic 40, 3) := by decide +kernel
theorem d_Ch_chosenByPlace_26 : decode b_Ch_chosenByPlace 26 = .ok (.areturn, 1) := by decide +kernel
theorem d_Ch_chosenByPlace_27 : decode b_Ch_chosenByPlace 27 = .ok (.aload_n 0, 1) := by decide +kernel
theorem d_Ch_chosenByPlace_28 : decode b_Ch_chosenByPlace 28 = .ok (.lload_n 1, 1) := by decide +kernel
theorem d_Ch_chosenByPlace_29 : decode b_Ch_chosenByPlace 29 = .ok (.l2i, 1) := by decide +kernel
theorem d_Ch_chosenByPlace_30 : decode b_Ch_chosenByPlace 30 = .ok (.invokevirtual 13, 3) := by decide +kernel
theorem d_Ch_chosenByPlace_33 : decode b_Ch_chosenByPlace 33 = .ok (.areturn, 1) := by decide +kernel
theorem p_Ch_chosenByPlace_b22 (d : Nat)   (h : gk_H) : gk_P gw_R (d + 8) y_Ch_chosenByPlace b_Ch_chosenByPlace 3 (some (.object "ValueAlgebra$Value")) [] (f_Ch_chosenByPlace_b22   h) 22 [] [] h := by
  unfold f_Ch_chosenByPlace_b22
  refine gk_iconst (pc := 22) (3 : Int32) d_Ch_chosenByPlace_22 rfl ?_
  refine gk_callS (pc := 23) (d := (d + 7)) (w' := gv_R) (as := [.int (3 : Int32)]) (n := 1) d_Ch_chosenByPlace_23 rfl rfl (Nat.le_of_ble_eq_true rfl) tw_1318 tw_236 tw_97 cw_Va_ofError hy_Va_ofError (Nat.le_of_ble_eq_true rfl) (p_Va_ofError (d + 5) (3 : Int32) h) fun x1 h1 => ?_
  exact gk_aret (pc := 26) rfl d_Ch_chosenByPlace_26 rfl (Or.inl ⟨_, rfl⟩)
theorem w_Ch_chosenByPlace (d : Nat) (a0 : Option Nat) (h : gk_H) : gk_P gw_R (d + 8) y_Ch_chosenByPlace b_Ch_chosenByPlace 3 (some (.object "ValueAlgebra$Value")) [] (f_Ch_chosenByPlace a0 h) 0 [(0, va_rf a0)] [] h := by
  unfold f_Ch_chosenByPlace
  refine gk_aload_n (pc := 0) 0 d_Ch_chosenByPlace_0 rfl ?_
  refine gk_iconst (pc := 1) (0 : Int32) d_Ch_chosenByPlace_1 rfl ?_
  refine gk_callV (pc := 2) (d := (d + 7)) (w' := gv_J) (as := [.int (0 : Int32)]) (n := 1) 4 d_Ch_chosenByPlace_2 rfl rfl rfl rfl (Nat.le_of_ble_eq_true rfl) tw_1317 tw_1065 tw_1066 tw_96 cw_Ar_whole hy_Ar_whole (Nat.le_of_ble_eq_true rfl) (p_Ar_whole d a0 (0 : Int32) h) fun x1 h1 => ?_
  refine gk_lstore_n (pc := 5) (L' := [(1, .long x1), (0, va_rf a0)]) d_Ch_chosenByPlace_5 (Nat.le_of_ble_eq_true rfl) (by simp [gk_s1, gk_s2, gk_cat_rf, gk_catI, gk_catJ, gk_catD] <;> decide) ?_
  refine gk_lload_n (pc := 6) 0 d_Ch_chosenByPlace_6 rfl ?_
  refine gk_lconst (pc := 7) (1 : Int64) d_Ch_chosenByPlace_7 rfl ?_
  refine gk_lcmp (pc := 8) d_Ch_chosenByPlace_8 ?_
  refine gk_if_lt (pc := 9) 22 d_Ch_chosenByPlace_9 rfl (fun _ => ?_) (fun _ => ?_)
  · refine gk_weak [] (L' := []) rfl ?_
    exact p_Ch_chosenByPlace_b22 d h1
  · refine gk_lload_n (pc := 12) 0 d_Ch_chosenByPlace_12 rfl ?_
    refine gk_aload_n (pc := 13) 1 d_Ch_chosenByPlace_13 rfl ?_
    refine gk_callV (pc := 14) (d := (d + 7)) (w' := gv_I) (as := []) (n := 0) 4 d_Ch_chosenByPlace_14 rfl rfl rfl rfl (Nat.le_of_ble_eq_true rfl) tw_1309 tw_1030 tw_1031 tw_96 cw_Ar_howMany hy_Ar_howMany (Nat.le_of_ble_eq_true rfl) (p_Ar_howMany (d + 7) a0 h1) fun x2 h2 => ?_
    refine gk_i2l (pc := 17) d_Ch_chosenByPlace_17 ?_
    refine gk_lcmp (pc := 18) d_Ch_chosenByPlace_18 ?_
    refine gk_if_lt (pc := 19) 27 d_Ch_chosenByPlace_19 rfl (fun _ => ?_) (fun _ => ?_)
    · refine gk_aload_n (pc := 27) 1 d_Ch_chosenByPlace_27 rfl ?_
      refine gk_lload_n (pc := 28) 0 d_Ch_chosenByPlace_28 rfl ?_
      refine gk_l2i (pc := 29) d_Ch_chosenByPlace_29 ?_
      refine gk_callV (pc := 30) (d := (d + 7)) (w' := gv_R) (as := [.int (Int64.toInt32 x1)]) (n := 1) 4 d_Ch_chosenByPlace_30 rfl rfl rfl rfl (Nat.le_of_ble_eq_true rfl) tw_1308 tw_1034 tw_1035 tw_96 cw_Ar_raw hy_Ar_raw (Nat.le_of_ble_eq_true rfl) (p_Ar_raw (d + 7) a0 (Int64.toInt32 x1) h2) fun x3 h3 => ?_
      exact gk_aret (pc := 33) rfl d_Ch_chosenByPlace_33 rfl (Or.inl ⟨_, rfl⟩)
    · refine gk_weak [] (L' := []) rfl ?_
      exact p_Ch_chosenByPlace_b22 d h2
theorem p_Ch_chosenByPlace (d : Nat) (a0 : Option Nat) (h : gk_H) : ∀ r h1, f_Ch_chosenByPlace a0 h = some (r, h1) → gk_M (d + 8) y_Ch_chosenByPlace b_Ch_chosenByPlace 3 (some (.object "ValueAlgebra$Value")) [va_rf a0] h (.inl (gv_R r)) h1 :=
  fun r h1 e => gk_M_of2 (by decide +kernel) (by simp [lv_args, gk_cat_rf, gk_catI, gk_catJ, gk_catD, gv_V, gv_I, gv_J, gv_D, gv_R]) (by simp [lg_sl, gk_cat_rf, gk_catI, gk_catJ, gk_catD, gv_V, gv_I, gv_J, gv_D, gv_R]) (w_Ch_chosenByPlace d a0 h r h1 e)
theorem d_Ch_isMended_0 : decode b_Ch_isMended 0 = .ok (.aload_n 1, 1) := by decide +kernel
theorem d_Ch_isMended_1 : decode b_Ch_isMended 1 = .ok (.getfield 79, 3) := by decide +kernel
theorem d_Ch_isMended_4 : decode b_Ch_isMended 4 = .ok (.iconst 4, 1) := by decide +kernel
theorem d_Ch_isMended_5 : decode b_Ch_isMended 5 = .ok (.if_icmp .ne 22, 3) := by decide +kernel
theorem d_Ch_isMended_8 : decode b_Ch_isMended 8 = .ok (.iload_n 0, 1) := by decide +kernel
theorem d_Ch_isMended_9 : decode b_Ch_isMended 9 = .ok (.bipush 36, 2) := by decide +kernel
theorem d_Ch_isMended_11 : decode b_Ch_isMended 11 = .ok (.if_icmp .eq 12, 3) := by decide +kernel
theorem d_Ch_isMended_14 : decode b_Ch_isMended 14 = .ok (.aload_n 1, 1) := by decide +kernel
theorem d_Ch_isMended_15 : decode b_Ch_isMended 15 = .ok (.getfield 83, 3) := by decide +kernel
theorem d_Ch_isMended_18 : decode b_Ch_isMended 18 = .ok (.bipush 7, 2) := by decide +kernel
theorem d_Ch_isMended_20 : decode b_Ch_isMended 20 = .ok (.if_icmp .ne 7, 3) := by decide +kernel
theorem d_Ch_isMended_23 : decode b_Ch_isMended 23 = .ok (.iconst 1, 1) := by decide +kernel
theorem d_Ch_isMended_24 : decode b_Ch_isMended 24 = .ok (.goto 4, 3) := by decide +kernel
theorem d_Ch_isMended_27 : decode b_Ch_isMended 27 = .ok (.iconst 0, 1) := by decide +kernel
theorem d_Ch_isMended_28 : decode b_Ch_isMended 28 = .ok (.ireturn, 1) := by decide +kernel
theorem p_Ch_isMended_b28 (d : Nat)  (s0 : Int32) (h : gk_H) : gk_P gw_I d y_Ch_isMended b_Ch_isMended 2 (some .boolean) [] (f_Ch_isMended_b28  s0 h) 28 [] [.int s0] h := by
  unfold f_Ch_isMended_b28
  exact gk_zret (pc := 28) rfl d_Ch_isMended_28 rfl
theorem p_Ch_isMended_b27 (d : Nat)   (h : gk_H) : gk_P gw_I d y_Ch_isMended b_Ch_isMended 2 (some .boolean) [] (f_Ch_isMended_b27   h) 27 [] [] h := by
  unfold f_Ch_isMended_b27
  refine gk_iconst (pc := 27) (0 : Int32) d_Ch_isMended_27 rfl ?_
  exact p_Ch_isMended_b28 d (0 : Int32) h
theorem p_Ch_isMended_b23 (d : Nat)   (h : gk_H) : gk_P gw_I d y_Ch_isMended b_Ch_isMended 2 (some .boolean) [] (f_Ch_isMended_b23   h) 23 [] [] h := by
  unfold f_Ch_isMended_b23
  refine gk_iconst (pc := 23) (1 : Int32) d_Ch_isMended_23 rfl ?_
  refine gk_goto (pc := 24) 28 d_Ch_isMended_24 rfl ?_
  exact p_Ch_isMended_b28 d (1 : Int32) h
theorem w_Ch_isMended (d : Nat) (a0 : Int32) (a1 : Option Nat) (h : gk_H) : gk_P gw_I d y_Ch_isMended b_Ch_isMended 2 (some .boolean) [] (f_Ch_isMended a0 a1 h) 0 [(0, .int a0), (1, va_rf a1)] [] h := by
  unfold f_Ch_isMended
  refine gk_aload_n (pc := 0) 1 d_Ch_isMended_0 rfl ?_
  refine gk_getI (pc := 1) 2 0 d_Ch_isMended_1 rfl (Nat.le_of_ble_eq_true rfl) tw_187 fun x1 => ?_
  refine gk_iconst (pc := 4) (4 : Int32) d_Ch_isMended_4 rfl ?_
  refine gk_icmp_ne (pc := 5) 27 d_Ch_isMended_5 rfl (fun _ => ?_) (fun _ => ?_)
  · refine gk_iload_n (pc := 8) 0 d_Ch_isMended_8 rfl ?_
    refine gk_bipush (pc := 9) (36 : Int32) d_Ch_isMended_9 rfl ?_
    refine gk_icmp_eq (pc := 11) 23 d_Ch_isMended_11 rfl (fun _ => ?_) (fun _ => ?_)
    · refine gk_weak [] (L' := []) rfl ?_
      exact p_Ch_isMended_b23 d h
    · refine gk_aload_n (pc := 14) 1 d_Ch_isMended_14 rfl ?_
      refine gk_getI (pc := 15) 2 1 d_Ch_isMended_15 rfl (Nat.le_of_ble_eq_true rfl) tw_194 fun x2 => ?_
      refine gk_bipush (pc := 18) (7 : Int32) d_Ch_isMended_18 rfl ?_
      refine gk_icmp_ne (pc := 20) 27 d_Ch_isMended_20 rfl (fun _ => ?_) (fun _ => ?_)
      · refine gk_weak [] (L' := []) rfl ?_
        exact p_Ch_isMended_b23 d h
      · refine gk_weak [] (L' := []) rfl ?_
        exact p_Ch_isMended_b27 d h
  · refine gk_weak [] (L' := []) rfl ?_
    exact p_Ch_isMended_b27 d h
theorem p_Ch_isMended (d : Nat) (a0 : Int32) (a1 : Option Nat) (h : gk_H) : ∀ r h1, f_Ch_isMended a0 a1 h = some (r, h1) → gk_M d y_Ch_isMended b_Ch_isMended 2 (some .boolean) [.int a0, va_rf a1] h (.inl (gv_I r)) h1 :=
  fun r h1 e => gk_M_of2 (by decide +kernel) (by simp [lv_args, gk_cat_rf, gk_catI, gk_catJ, gk_catD, gv_V, gv_I, gv_J, gv_D, gv_R]) (by simp [lg_sl, gk_cat_rf, gk_catI, gk_catJ, gk_catD, gv_V, gv_I, gv_J, gv_D, gv_R]) (w_Ch_isMended d a0 a1 h r h1 e)
theorem d_Ch_chosenByTruth_0 : decode b_Ch_chosenByTruth 0 = .ok (.aload_n 0, 1) := by decide +kernel
theorem d_Ch_chosenByTruth_1 : decode b_Ch_chosenByTruth 1 = .ok (.iconst 0, 1) := by decide +kernel
theorem d_Ch_chosenByTruth_2 : decode b_Ch_chosenByTruth 2 = .ok (.invokevirtual 30, 3) := by decide +kernel
theorem d_Ch_chosenByTruth_5 : decode b_Ch_chosenByTruth 5 = .ok (.ifCond .eq 9, 3) := by decide +kernel
theorem d_Ch_chosenByTruth_8 : decode b_Ch_chosenByTruth 8 = .ok (.aload_n 0, 1) := by decide +kernel
theorem d_Ch_chosenByTruth_9 : decode b_Ch_chosenByTruth 9 = .ok (.iconst 1, 1) := by decide +kernel
theorem d_Ch_chosenByTruth_10 : decode b_Ch_chosenByTruth 10 = .ok (.invokevirtual 13, 3) := by decide +kernel
theorem d_Ch_chosenByTruth_13 : decode b_Ch_chosenByTruth 13 = .ok (.areturn, 1) := by decide +kernel
theorem d_Ch_chosenByTruth_14 : decode b_Ch_chosenByTruth 14 = .ok (.aload_n 0, 1) := by decide +kernel
theorem d_Ch_chosenByTruth_15 : decode b_Ch_chosenByTruth 15 = .ok (.invokevirtual 75, 3) := by decide +kernel
theorem d_Ch_chosenByTruth_18 : decode b_Ch_chosenByTruth 18 = .ok (.iconst 2, 1) := by decide +kernel
theorem d_Ch_chosenByTruth_19 : decode b_Ch_chosenByTruth 19 = .ok (.if_icmp .le 11, 3) := by decide +kernel
theorem d_Ch_chosenByTruth_22 : decode b_Ch_chosenByTruth 22 = .ok (.aload_n 0, 1) := by decide +kernel
theorem d_Ch_chosenByTruth_23 : decode b_Ch_chosenByTruth 23 = .ok (.iconst 2, 1) := by decide +kernel
theorem d_Ch_chosenByTruth_24 : decode b_Ch_chosenByTruth 24 = .ok (.invokevirtual 13, 3) := by decide +kernel
theorem d_Ch_chosenByTruth_27 : decode b_Ch_chosenByTruth 27 = .ok (.goto 7, 3) := by decide +kernel
theorem d_Ch_chosenByTruth_30 : decode b_Ch_chosenByTruth 30 = .ok (.iconst 0, 1) := by decide +kernel
theorem d_Ch_chosenByTruth_31 : decode b_Ch_chosenByTruth 31 = .ok (.invokestatic 34, 3) := by decide +kernel
theorem d_Ch_chosenByTruth_34 : decode b_Ch_chosenByTruth 34 = .ok (.areturn, 1) := by decide +kernel
theorem p_Ch_chosenByTruth_b34 (d : Nat)  (s0 : Option Nat) (h : gk_H) : gk_P gw_R (d + 6) y_Ch_chosenByTruth b_Ch_chosenByTruth 1 (some (.object "ValueAlgebra$Value")) [] (f_Ch_chosenByTruth_b34  s0 h) 34 [] [va_rf s0] h := by
  unfold f_Ch_chosenByTruth_b34
  exact gk_aret (pc := 34) rfl d_Ch_chosenByTruth_34 rfl (Or.inl ⟨_, rfl⟩)
theorem w_Ch_chosenByTruth (d : Nat) (a0 : Option Nat) (h : gk_H) : gk_P gw_R (d + 6) y_Ch_chosenByTruth b_Ch_chosenByTruth 1 (some (.object "ValueAlgebra$Value")) [] (f_Ch_chosenByTruth a0 h) 0 [(0, va_rf a0)] [] h := by
  unfold f_Ch_chosenByTruth
  refine gk_aload_n (pc := 0) 0 d_Ch_chosenByTruth_0 rfl ?_
  refine gk_iconst (pc := 1) (0 : Int32) d_Ch_chosenByTruth_1 rfl ?_
  refine gk_callV (pc := 2) (d := (d + 5)) (w' := gv_I) (as := [.int (0 : Int32)]) (n := 1) 4 d_Ch_chosenByTruth_2 rfl rfl rfl rfl (Nat.le_of_ble_eq_true rfl) tw_1303 tw_1304 tw_1305 tw_96 cw_Ar_truth hy_Ar_truth (Nat.le_of_ble_eq_true rfl) (p_Ar_truth d a0 (0 : Int32) h) fun x1 h1 => ?_
  refine gk_if_eq (pc := 5) 14 d_Ch_chosenByTruth_5 rfl (fun _ => ?_) (fun _ => ?_)
  · refine gk_aload_n (pc := 14) 0 d_Ch_chosenByTruth_14 rfl ?_
    refine gk_callV (pc := 15) (d := (d + 5)) (w' := gv_I) (as := []) (n := 0) 4 d_Ch_chosenByTruth_15 rfl rfl rfl rfl (Nat.le_of_ble_eq_true rfl) tw_1309 tw_1030 tw_1031 tw_96 cw_Ar_howMany hy_Ar_howMany (Nat.le_of_ble_eq_true rfl) (p_Ar_howMany (d + 5) a0 h1) fun x2 h2 => ?_
    refine gk_iconst (pc := 18) (2 : Int32) d_Ch_chosenByTruth_18 rfl ?_
    refine gk_icmp_le (pc := 19) 30 d_Ch_chosenByTruth_19 rfl (fun _ => ?_) (fun _ => ?_)
    · refine gk_iconst (pc := 30) (0 : Int32) d_Ch_chosenByTruth_30 rfl ?_
      refine gk_callS (pc := 31) (d := (d + 5)) (w' := gv_R) (as := [.int (0 : Int32)]) (n := 1) d_Ch_chosenByTruth_31 rfl rfl (Nat.le_of_ble_eq_true rfl) tw_1310 tw_739 tw_97 cw_Va_ofTruth hy_Va_ofTruth (Nat.le_of_ble_eq_true rfl) (p_Va_ofTruth (d + 3) (0 : Int32) h2) fun x3 h3 => ?_
      refine gk_weak [] (L' := []) rfl ?_
      exact p_Ch_chosenByTruth_b34 d x3 h3
    · refine gk_aload_n (pc := 22) 0 d_Ch_chosenByTruth_22 rfl ?_
      refine gk_iconst (pc := 23) (2 : Int32) d_Ch_chosenByTruth_23 rfl ?_
      refine gk_callV (pc := 24) (d := (d + 5)) (w' := gv_R) (as := [.int (2 : Int32)]) (n := 1) 4 d_Ch_chosenByTruth_24 rfl rfl rfl rfl (Nat.le_of_ble_eq_true rfl) tw_1308 tw_1034 tw_1035 tw_96 cw_Ar_raw hy_Ar_raw (Nat.le_of_ble_eq_true rfl) (p_Ar_raw (d + 5) a0 (2 : Int32) h2) fun x4 h4 => ?_
      refine gk_goto (pc := 27) 34 d_Ch_chosenByTruth_27 rfl ?_
      refine gk_weak [] (L' := []) rfl ?_
      exact p_Ch_chosenByTruth_b34 d x4 h4
  · refine gk_aload_n (pc := 8) 0 d_Ch_chosenByTruth_8 rfl ?_
    refine gk_iconst (pc := 9) (1 : Int32) d_Ch_chosenByTruth_9 rfl ?_
    refine gk_callV (pc := 10) (d := (d + 5)) (w' := gv_R) (as := [.int (1 : Int32)]) (n := 1) 4 d_Ch_chosenByTruth_10 rfl rfl rfl rfl (Nat.le_of_ble_eq_true rfl) tw_1308 tw_1034 tw_1035 tw_96 cw_Ar_raw hy_Ar_raw (Nat.le_of_ble_eq_true rfl) (p_Ar_raw (d + 5) a0 (1 : Int32) h1) fun x5 h5 => ?_
    exact gk_aret (pc := 13) rfl d_Ch_chosenByTruth_13 rfl (Or.inl ⟨_, rfl⟩)
theorem p_Ch_chosenByTruth (d : Nat) (a0 : Option Nat) (h : gk_H) : ∀ r h1, f_Ch_chosenByTruth a0 h = some (r, h1) → gk_M (d + 6) y_Ch_chosenByTruth b_Ch_chosenByTruth 1 (some (.object "ValueAlgebra$Value")) [va_rf a0] h (.inl (gv_R r)) h1 :=
  fun r h1 e => gk_M_of2 (by decide +kernel) (by simp [lv_args, gk_cat_rf, gk_catI, gk_catJ, gk_catD, gv_V, gv_I, gv_J, gv_D, gv_R]) (by simp [lg_sl, gk_cat_rf, gk_catI, gk_catJ, gk_catD, gv_V, gv_I, gv_J, gv_D, gv_R]) (w_Ch_chosenByTruth d a0 h r h1 e)
theorem d_Ch_isSo_0 : decode b_Ch_isSo 0 = .ok (.iload_n 0, 1) := by decide +kernel
theorem d_Ch_isSo_1 : decode b_Ch_isSo 1 = .ok (.tableswitch 131 46 51 #[39, 52, 66, 80, 94, 108], 39) := by decide +kernel
theorem d_Ch_isSo_40 : decode b_Ch_isSo 40 = .ok (.aload_n 1, 1) := by decide +kernel
theorem d_Ch_isSo_41 : decode b_Ch_isSo 41 = .ok (.getfield 79, 3) := by decide +kernel
theorem d_Ch_isSo_44 : decode b_Ch_isSo 44 = .ok (.ifCond .ne 7, 3) := by decide +kernel
theorem d_Ch_isSo_47 : decode b_Ch_isSo 47 = .ok (.iconst 1, 1) := by decide +kernel
theorem d_Ch_isSo_48 : decode b_Ch_isSo 48 = .ok (.goto 4, 3) := by decide +kernel
theorem d_Ch_isSo_51 : decode b_Ch_isSo 51 = .ok (.iconst 0, 1) := by decide +kernel
theorem d_Ch_isSo_52 : decode b_Ch_isSo 52 = .ok (.ireturn, 1) := by decide +kernel
theorem d_Ch_isSo_53 : decode b_Ch_isSo 53 = .ok (.aload_n 1, 1) := by decide +kernel
theorem d_Ch_isSo_54 : decode b_Ch_isSo 54 = .ok (.getfield 79, 3) := by decide +kernel
theorem d_Ch_isSo_57 : decode b_Ch_isSo 57 = .ok (.iconst 1, 1) := by decide +kernel
theorem d_Ch_isSo_58 : decode b_Ch_isSo 58 = .ok (.if_icmp .ne 7, 3) := by decide +kernel
theorem d_Ch_isSo_61 : decode b_Ch_isSo 61 = .ok (.iconst 1, 1) := by decide +kernel
theorem d_Ch_isSo_62 : decode b_Ch_isSo 62 = .ok (.goto 4, 3) := by decide +kernel
theorem d_Ch_isSo_65 : decode b_Ch_isSo 65 = .ok (.iconst 0, 1) := by decide +kernel
theorem d_Ch_isSo_66 : decode b_Ch_isSo 66 = .ok (.ireturn, 1) := by decide +kernel
theorem d_Ch_isSo_67 : decode b_Ch_isSo 67 = .ok (.aload_n 1, 1) := by decide +kernel
theorem d_Ch_isSo_68 : decode b_Ch_isSo 68 = .ok (.getfield 79, 3) := by decide +kernel
theorem d_Ch_isSo_71 : decode b_Ch_isSo 71 = .ok (.iconst 2, 1) := by decide +kernel
theorem d_Ch_isSo_72 : decode b_Ch_isSo 72 = .ok (.if_icmp .ne 7, 3) := by decide +kernel
theorem d_Ch_isSo_75 : decode b_Ch_isSo 75 = .ok (.iconst 1, 1) := by decide +kernel
theorem d_Ch_isSo_76 : decode b_Ch_isSo 76 = .ok (.goto 4, 3) := by decide +kernel
theorem d_Ch_isSo_79 : decode b_Ch_isSo 79 = .ok (.iconst 0, 1) := by decide +kernel
theorem d_Ch_isSo_80 : decode b_Ch_isSo 80 = .ok (.ireturn, 1) := by decide +kernel
theorem d_Ch_isSo_81 : decode b_Ch_isSo 81 = .ok (.aload_n 1, 1) := by decide +kernel
theorem d_Ch_isSo_82 : decode b_Ch_isSo 82 = .ok (.getfield 79, 3) := by decide +kernel
theorem d_Ch_isSo_85 : decode b_Ch_isSo 85 = .ok (.iconst 3, 1) := by decide +kernel
theorem d_Ch_isSo_86 : decode b_Ch_isSo 86 = .ok (.if_icmp .ne 7, 3) := by decide +kernel
theorem d_Ch_isSo_89 : decode b_Ch_isSo 89 = .ok (.iconst 1, 1) := by decide +kernel
theorem d_Ch_isSo_90 : decode b_Ch_isSo 90 = .ok (.goto 4, 3) := by decide +kernel
theorem d_Ch_isSo_93 : decode b_Ch_isSo 93 = .ok (.iconst 0, 1) := by decide +kernel
theorem d_Ch_isSo_94 : decode b_Ch_isSo 94 = .ok (.ireturn, 1) := by decide +kernel
theorem d_Ch_isSo_95 : decode b_Ch_isSo 95 = .ok (.aload_n 1, 1) := by decide +kernel
theorem d_Ch_isSo_96 : decode b_Ch_isSo 96 = .ok (.getfield 79, 3) := by decide +kernel
theorem d_Ch_isSo_99 : decode b_Ch_isSo 99 = .ok (.iconst 4, 1) := by decide +kernel
theorem d_Ch_isSo_100 : decode b_Ch_isSo 100 = .ok (.if_icmp .ne 7, 3) := by decide +kernel
theorem d_Ch_isSo_103 : decode b_Ch_isSo 103 = .ok (.iconst 1, 1) := by decide +kernel
theorem d_Ch_isSo_104 : decode b_Ch_isSo 104 = .ok (.goto 4, 3) := by decide +kernel
theorem d_Ch_isSo_107 : decode b_Ch_isSo 107 = .ok (.iconst 0, 1) := by decide +kernel
theorem d_Ch_isSo_108 : decode b_Ch_isSo 108 = .ok (.ireturn, 1) := by decide +kernel
theorem d_Ch_isSo_109 : decode b_Ch_isSo 109 = .ok (.aload_n 1, 1) := by decide +kernel
theorem d_Ch_isSo_110 : decode b_Ch_isSo 110 = .ok (.getfield 79, 3) := by decide +kernel
theorem d_Ch_isSo_113 : decode b_Ch_isSo 113 = .ok (.iconst 4, 1) := by decide +kernel
theorem d_Ch_isSo_114 : decode b_Ch_isSo 114 = .ok (.if_icmp .ne 16, 3) := by decide +kernel
theorem d_Ch_isSo_117 : decode b_Ch_isSo 117 = .ok (.aload_n 1, 1) := by decide +kernel
theorem d_Ch_isSo_118 : decode b_Ch_isSo 118 = .ok (.getfield 83, 3) := by decide +kernel
theorem d_Ch_isSo_121 : decode b_Ch_isSo 121 = .ok (.bipush 7, 2) := by decide +kernel
theorem d_Ch_isSo_123 : decode b_Ch_isSo 123 = .ok (.if_icmp .ne 7, 3) := by decide +kernel
theorem d_Ch_isSo_126 : decode b_Ch_isSo 126 = .ok (.iconst 1, 1) := by decide +kernel
theorem d_Ch_isSo_127 : decode b_Ch_isSo 127 = .ok (.goto 4, 3) := by decide +kernel
theorem d_Ch_isSo_130 : decode b_Ch_isSo 130 = .ok (.iconst 0, 1) := by decide +kernel
theorem d_Ch_isSo_131 : decode b_Ch_isSo 131 = .ok (.ireturn, 1) := by decide +kernel
theorem d_Ch_isSo_132 : decode b_Ch_isSo 132 = .ok (.iconst 0, 1) := by decide +kernel
theorem d_Ch_isSo_133 : decode b_Ch_isSo 133 = .ok (.ireturn, 1) := by decide +kernel
theorem p_Ch_isSo_b52 (d : Nat)  (s0 : Int32) (h : gk_H) : gk_P gw_I d y_Ch_isSo b_Ch_isSo 2 (some .boolean) [] (f_Ch_isSo_b52  s0 h) 52 [] [.int s0] h := by
  unfold f_Ch_isSo_b52
  exact gk_zret (pc := 52) rfl d_Ch_isSo_52 rfl
theorem p_Ch_isSo_b66 (d : Nat)  (s0 : Int32) (h : gk_H) : gk_P gw_I d y_Ch_isSo b_Ch_isSo 2 (some .boolean) [] (f_Ch_isSo_b66  s0 h) 66 [] [.int s0] h := by
  unfold f_Ch_isSo_b66
  exact gk_zret (pc := 66) rfl d_Ch_isSo_66 rfl
theorem p_Ch_isSo_b80 (d : Nat)  (s0 : Int32) (h : gk_H) : gk_P gw_I d y_Ch_isSo b_Ch_isSo 2 (some .boolean) [] (f_Ch_isSo_b80  s0 h) 80 [] [.int s0] h := by
  unfold f_Ch_isSo_b80
  exact gk_zret (pc := 80) rfl d_Ch_isSo_80 rfl
theorem p_Ch_isSo_b94 (d : Nat)  (s0 : Int32) (h : gk_H) : gk_P gw_I d y_Ch_isSo b_Ch_isSo 2 (some .boolean) [] (f_Ch_isSo_b94  s0 h) 94 [] [.int s0] h := by
  unfold f_Ch_isSo_b94
  exact gk_zret (pc := 94) rfl d_Ch_isSo_94 rfl
theorem p_Ch_isSo_b108 (d : Nat)  (s0 : Int32) (h : gk_H) : gk_P gw_I d y_Ch_isSo b_Ch_isSo 2 (some .boolean) [] (f_Ch_isSo_b108  s0 h) 108 [] [.int s0] h := by
  unfold f_Ch_isSo_b108
  exact gk_zret (pc := 108) rfl d_Ch_isSo_108 rfl
theorem p_Ch_isSo_b131 (d : Nat)  (s0 : Int32) (h : gk_H) : gk_P gw_I d y_Ch_isSo b_Ch_isSo 2 (some .boolean) [] (f_Ch_isSo_b131  s0 h) 131 [] [.int s0] h := by
  unfold f_Ch_isSo_b131
  exact gk_zret (pc := 131) rfl d_Ch_isSo_131 rfl
theorem p_Ch_isSo_b130 (d : Nat)   (h : gk_H) : gk_P gw_I d y_Ch_isSo b_Ch_isSo 2 (some .boolean) [] (f_Ch_isSo_b130   h) 130 [] [] h := by
  unfold f_Ch_isSo_b130
  refine gk_iconst (pc := 130) (0 : Int32) d_Ch_isSo_130 rfl ?_
  exact p_Ch_isSo_b131 d (0 : Int32) h
theorem w_Ch_isSo (d : Nat) (a0 : Int32) (a1 : Option Nat) (h : gk_H) : gk_P gw_I d y_Ch_isSo b_Ch_isSo 2 (some .boolean) [] (f_Ch_isSo a0 a1 h) 0 [(0, .int a0), (1, va_rf a1)] [] h := by
  unfold f_Ch_isSo
  refine gk_iload_n (pc := 0) 0 d_Ch_isSo_0 rfl ?_
  refine gk_ite (fun z1_0 => ?_) (fun z1_0 => ?_)
  · refine gk_tsw_in (pc := 1) (46 : Int32) 40 d_Ch_isSo_1 z1_0 (by decide) (by decide) rfl rfl ?_
    refine gk_aload_n (pc := 40) 1 d_Ch_isSo_40 rfl ?_
    refine gk_getI (pc := 41) 2 0 d_Ch_isSo_41 rfl (Nat.le_of_ble_eq_true rfl) tw_187 fun x1 => ?_
    refine gk_if_ne (pc := 44) 51 d_Ch_isSo_44 rfl (fun _ => ?_) (fun _ => ?_)
    · refine gk_iconst (pc := 47) (1 : Int32) d_Ch_isSo_47 rfl ?_
      refine gk_goto (pc := 48) 52 d_Ch_isSo_48 rfl ?_
      refine gk_weak [] (L' := []) rfl ?_
      exact p_Ch_isSo_b52 d (1 : Int32) h
    · refine gk_iconst (pc := 51) (0 : Int32) d_Ch_isSo_51 rfl ?_
      refine gk_weak [] (L' := []) rfl ?_
      exact p_Ch_isSo_b52 d (0 : Int32) h
  ·
    refine gk_ite (fun z1_1 => ?_) (fun z1_1 => ?_)
    · refine gk_tsw_in (pc := 1) (47 : Int32) 53 d_Ch_isSo_1 z1_1 (by decide) (by decide) rfl rfl ?_
      refine gk_aload_n (pc := 53) 1 d_Ch_isSo_53 rfl ?_
      refine gk_getI (pc := 54) 2 0 d_Ch_isSo_54 rfl (Nat.le_of_ble_eq_true rfl) tw_187 fun x2 => ?_
      refine gk_iconst (pc := 57) (1 : Int32) d_Ch_isSo_57 rfl ?_
      refine gk_icmp_ne (pc := 58) 65 d_Ch_isSo_58 rfl (fun _ => ?_) (fun _ => ?_)
      · refine gk_iconst (pc := 61) (1 : Int32) d_Ch_isSo_61 rfl ?_
        refine gk_goto (pc := 62) 66 d_Ch_isSo_62 rfl ?_
        refine gk_weak [] (L' := []) rfl ?_
        exact p_Ch_isSo_b66 d (1 : Int32) h
      · refine gk_iconst (pc := 65) (0 : Int32) d_Ch_isSo_65 rfl ?_
        refine gk_weak [] (L' := []) rfl ?_
        exact p_Ch_isSo_b66 d (0 : Int32) h
    ·
      refine gk_ite (fun z1_2 => ?_) (fun z1_2 => ?_)
      · refine gk_tsw_in (pc := 1) (48 : Int32) 67 d_Ch_isSo_1 z1_2 (by decide) (by decide) rfl rfl ?_
        refine gk_aload_n (pc := 67) 1 d_Ch_isSo_67 rfl ?_
        refine gk_getI (pc := 68) 2 0 d_Ch_isSo_68 rfl (Nat.le_of_ble_eq_true rfl) tw_187 fun x3 => ?_
        refine gk_iconst (pc := 71) (2 : Int32) d_Ch_isSo_71 rfl ?_
        refine gk_icmp_ne (pc := 72) 79 d_Ch_isSo_72 rfl (fun _ => ?_) (fun _ => ?_)
        · refine gk_iconst (pc := 75) (1 : Int32) d_Ch_isSo_75 rfl ?_
          refine gk_goto (pc := 76) 80 d_Ch_isSo_76 rfl ?_
          refine gk_weak [] (L' := []) rfl ?_
          exact p_Ch_isSo_b80 d (1 : Int32) h
        · refine gk_iconst (pc := 79) (0 : Int32) d_Ch_isSo_79 rfl ?_
          refine gk_weak [] (L' := []) rfl ?_
          exact p_Ch_isSo_b80 d (0 : Int32) h
      ·
        refine gk_ite (fun z1_3 => ?_) (fun z1_3 => ?_)
        · refine gk_tsw_in (pc := 1) (49 : Int32) 81 d_Ch_isSo_1 z1_3 (by decide) (by decide) rfl rfl ?_
          refine gk_aload_n (pc := 81) 1 d_Ch_isSo_81 rfl ?_
          refine gk_getI (pc := 82) 2 0 d_Ch_isSo_82 rfl (Nat.le_of_ble_eq_true rfl) tw_187 fun x4 => ?_
          refine gk_iconst (pc := 85) (3 : Int32) d_Ch_isSo_85 rfl ?_
          refine gk_icmp_ne (pc := 86) 93 d_Ch_isSo_86 rfl (fun _ => ?_) (fun _ => ?_)
          · refine gk_iconst (pc := 89) (1 : Int32) d_Ch_isSo_89 rfl ?_
            refine gk_goto (pc := 90) 94 d_Ch_isSo_90 rfl ?_
            refine gk_weak [] (L' := []) rfl ?_
            exact p_Ch_isSo_b94 d (1 : Int32) h
          · refine gk_iconst (pc := 93) (0 : Int32) d_Ch_isSo_93 rfl ?_
            refine gk_weak [] (L' := []) rfl ?_
            exact p_Ch_isSo_b94 d (0 : Int32) h
        ·
          refine gk_ite (fun z1_4 => ?_) (fun z1_4 => ?_)
          · refine gk_tsw_in (pc := 1) (50 : Int32) 95 d_Ch_isSo_1 z1_4 (by decide) (by decide) rfl rfl ?_
            refine gk_aload_n (pc := 95) 1 d_Ch_isSo_95 rfl ?_
            refine gk_getI (pc := 96) 2 0 d_Ch_isSo_96 rfl (Nat.le_of_ble_eq_true rfl) tw_187 fun x5 => ?_
            refine gk_iconst (pc := 99) (4 : Int32) d_Ch_isSo_99 rfl ?_
            refine gk_icmp_ne (pc := 100) 107 d_Ch_isSo_100 rfl (fun _ => ?_) (fun _ => ?_)
            · refine gk_iconst (pc := 103) (1 : Int32) d_Ch_isSo_103 rfl ?_
              refine gk_goto (pc := 104) 108 d_Ch_isSo_104 rfl ?_
              refine gk_weak [] (L' := []) rfl ?_
              exact p_Ch_isSo_b108 d (1 : Int32) h
            · refine gk_iconst (pc := 107) (0 : Int32) d_Ch_isSo_107 rfl ?_
              refine gk_weak [] (L' := []) rfl ?_
              exact p_Ch_isSo_b108 d (0 : Int32) h
          ·
            refine gk_ite (fun z1_5 => ?_) (fun z1_5 => ?_)
            · refine gk_tsw_in (pc := 1) (51 : Int32) 109 d_Ch_isSo_1 z1_5 (by decide) (by decide) rfl rfl ?_
              refine gk_aload_n (pc := 109) 1 d_Ch_isSo_109 rfl ?_
              refine gk_getI (pc := 110) 2 0 d_Ch_isSo_110 rfl (Nat.le_of_ble_eq_true rfl) tw_187 fun x6 => ?_
              refine gk_iconst (pc := 113) (4 : Int32) d_Ch_isSo_113 rfl ?_
              refine gk_icmp_ne (pc := 114) 130 d_Ch_isSo_114 rfl (fun _ => ?_) (fun _ => ?_)
              · refine gk_aload_n (pc := 117) 1 d_Ch_isSo_117 rfl ?_
                refine gk_getI (pc := 118) 2 1 d_Ch_isSo_118 rfl (Nat.le_of_ble_eq_true rfl) tw_194 fun x7 => ?_
                refine gk_bipush (pc := 121) (7 : Int32) d_Ch_isSo_121 rfl ?_
                refine gk_icmp_ne (pc := 123) 130 d_Ch_isSo_123 rfl (fun _ => ?_) (fun _ => ?_)
                · refine gk_iconst (pc := 126) (1 : Int32) d_Ch_isSo_126 rfl ?_
                  refine gk_goto (pc := 127) 131 d_Ch_isSo_127 rfl ?_
                  refine gk_weak [] (L' := []) rfl ?_
                  exact p_Ch_isSo_b131 d (1 : Int32) h
                · refine gk_weak [] (L' := []) rfl ?_
                  exact p_Ch_isSo_b130 d h
              · refine gk_weak [] (L' := []) rfl ?_
                exact p_Ch_isSo_b130 d h
            ·
              refine gk_tsw_out (pc := 1) 132 d_Ch_isSo_1 (by have e0 := gk_neT z1_0 (by decide : (46 : Int32).toInt = 46); have e1 := gk_neT z1_1 (by decide : (47 : Int32).toInt = 47); have e2 := gk_neT z1_2 (by decide : (48 : Int32).toInt = 48); have e3 := gk_neT z1_3 (by decide : (49 : Int32).toInt = 49); have e4 := gk_neT z1_4 (by decide : (50 : Int32).toInt = 50); have e5 := gk_neT z1_5 (by decide : (51 : Int32).toInt = 51); omega) rfl ?_
              refine gk_iconst (pc := 132) (0 : Int32) d_Ch_isSo_132 rfl ?_
              exact gk_zret (pc := 133) rfl d_Ch_isSo_133 rfl
theorem p_Ch_isSo (d : Nat) (a0 : Int32) (a1 : Option Nat) (h : gk_H) : ∀ r h1, f_Ch_isSo a0 a1 h = some (r, h1) → gk_M d y_Ch_isSo b_Ch_isSo 2 (some .boolean) [.int a0, va_rf a1] h (.inl (gv_I r)) h1 :=
  fun r h1 e => gk_M_of2 (by decide +kernel) (by simp [lv_args, gk_cat_rf, gk_catI, gk_catJ, gk_catD, gv_V, gv_I, gv_J, gv_D, gv_R]) (by simp [lg_sl, gk_cat_rf, gk_catI, gk_catJ, gk_catD, gv_V, gv_I, gv_J, gv_D, gv_R]) (w_Ch_isSo d a0 a1 h r h1 e)
theorem d_Ch_answer_0 : decode b_Ch_answer 0 = .ok (.iload_n 0, 1) := by decide +kernel
theorem d_Ch_answer_1 : decode b_Ch_answer 1 = .ok (.tableswitch 218 35 55 #[99, 104, 104, 126, 131, 131, 131, 137, 154, 160, 160, 218, 218, 218, 218, 218, 218, 175, 184, 196, 209], 99) := by decide +kernel
theorem d_Ch_answer_100 : decode b_Ch_answer 100 = .ok (.aload_n 1, 1) := by decide +kernel
theorem d_Ch_answer_101 : decode b_Ch_answer 101 = .ok (.invokestatic 7, 3) := by decide +kernel
theorem d_Ch_answer_104 : decode b_Ch_answer 104 = .ok (.areturn, 1) := by decide +kernel
theorem d_Ch_answer_105 : decode b_Ch_answer 105 = .ok (.aload_n 1, 1) := by decide +kernel
theorem d_Ch_answer_106 : decode b_Ch_answer 106 = .ok (.iload_n 0, 1) := by decide +kernel
theorem d_Ch_answer_107 : decode b_Ch_answer 107 = .ok (.aload_n 1, 1) := by decide +kernel
theorem d_Ch_answer_108 : decode b_Ch_answer 108 = .ok (.iconst 0, 1) := by decide +kernel
theorem d_Ch_answer_109 : decode b_Ch_answer 109 = .ok (.invokevirtual 13, 3) := by decide +kernel
theorem d_Ch_answer_112 : decode b_Ch_answer 112 = .ok (.invokestatic 19, 3) := by decide +kernel
theorem d_Ch_answer_115 : decode b_Ch_answer 115 = .ok (.ifCond .eq 7, 3) := by decide +kernel
theorem d_Ch_answer_118 : decode b_Ch_answer 118 = .ok (.iconst 1, 1) := by decide +kernel
theorem d_Ch_answer_119 : decode b_Ch_answer 119 = .ok (.goto 4, 3) := by decide +kernel
theorem d_Ch_answer_122 : decode b_Ch_answer 122 = .ok (.iconst 0, 1) := by decide +kernel
theorem d_Ch_answer_123 : decode b_Ch_answer 123 = .ok (.invokevirtual 13, 3) := by decide +kernel
theorem d_Ch_answer_126 : decode b_Ch_answer 126 = .ok (.areturn, 1) := by decide +kernel
theorem d_Ch_answer_127 : decode b_Ch_answer 127 = .ok (.aload_n 1, 1) := by decide +kernel
theorem d_Ch_answer_128 : decode b_Ch_answer 128 = .ok (.invokestatic 23, 3) := by decide +kernel
theorem d_Ch_answer_131 : decode b_Ch_answer 131 = .ok (.areturn, 1) := by decide +kernel
theorem d_Ch_answer_132 : decode b_Ch_answer 132 = .ok (.iload_n 0, 1) := by decide +kernel
theorem d_Ch_answer_133 : decode b_Ch_answer 133 = .ok (.aload_n 1, 1) := by decide +kernel
theorem d_Ch_answer_134 : decode b_Ch_answer 134 = .ok (.invokestatic 26, 3) := by decide +kernel
theorem d_Ch_answer_137 : decode b_Ch_answer 137 = .ok (.areturn, 1) := by decide +kernel
theorem d_Ch_answer_138 : decode b_Ch_answer 138 = .ok (.aload_n 1, 1) := by decide +kernel
theorem d_Ch_answer_139 : decode b_Ch_answer 139 = .ok (.iconst 0, 1) := by decide +kernel
theorem d_Ch_answer_140 : decode b_Ch_answer 140 = .ok (.invokevirtual 30, 3) := by decide +kernel
theorem d_Ch_answer_143 : decode b_Ch_answer 143 = .ok (.ifCond .ne 7, 3) := by decide +kernel
theorem d_Ch_answer_146 : decode b_Ch_answer 146 = .ok (.iconst 1, 1) := by decide +kernel
theorem d_Ch_answer_147 : decode b_Ch_answer 147 = .ok (.goto 4, 3) := by decide +kernel
theorem d_Ch_answer_150 : decode b_Ch_answer 150 = .ok (.iconst 0, 1) := by decide +kernel
theorem d_Ch_answer_151 : decode b_Ch_answer 151 = .ok (.invokestatic 34, 3) := by decide +kernel
theorem d_Ch_answer_154 : decode b_Ch_answer 154 = .ok (.areturn, 1) := by decide +kernel
theorem d_Ch_answer_155 : decode b_Ch_answer 155 = .ok (.bipush 7, 2) := by decide +kernel
theorem d_Ch_answer_157 : decode b_Ch_answer 157 = .ok (.invokestatic 40, 3) := by decide +kernel
theorem d_Ch_answer_160 : decode b_Ch_answer 160 = .ok (.areturn, 1) := by decide +kernel
theorem d_Ch_answer_161 : decode b_Ch_answer 161 = .ok (.iload_n 0, 1) := by decide +kernel
theorem d_Ch_answer_162 : decode b_Ch_answer 162 = .ok (.bipush 44, 2) := by decide +kernel
theorem d_Ch_answer_164 : decode b_Ch_answer 164 = .ok (.if_icmp .ne 7, 3) := by decide +kernel
theorem d_Ch_answer_167 : decode b_Ch_answer 167 = .ok (.iconst 1, 1) := by decide +kernel
theorem d_Ch_answer_168 : decode b_Ch_answer 168 = .ok (.goto 4, 3) := by decide +kernel
theorem d_Ch_answer_171 : decode b_Ch_answer 171 = .ok (.iconst 0, 1) := by decide +kernel
theorem d_Ch_answer_172 : decode b_Ch_answer 172 = .ok (.invokestatic 34, 3) := by decide +kernel
theorem d_Ch_answer_175 : decode b_Ch_answer 175 = .ok (.areturn, 1) := by decide +kernel
theorem d_Ch_answer_176 : decode b_Ch_answer 176 = .ok (.aload_n 1, 1) := by decide +kernel
theorem d_Ch_answer_177 : decode b_Ch_answer 177 = .ok (.iconst 0, 1) := by decide +kernel
theorem d_Ch_answer_178 : decode b_Ch_answer 178 = .ok (.invokevirtual 43, 3) := by decide +kernel
theorem d_Ch_answer_181 : decode b_Ch_answer 181 = .ok (.invokestatic 46, 3) := by decide +kernel
theorem d_Ch_answer_184 : decode b_Ch_answer 184 = .ok (.areturn, 1) := by decide +kernel
theorem d_Ch_answer_185 : decode b_Ch_answer 185 = .ok (.aload_n 1, 1) := by decide +kernel
theorem d_Ch_answer_186 : decode b_Ch_answer 186 = .ok (.iconst 0, 1) := by decide +kernel
theorem d_Ch_answer_187 : decode b_Ch_answer 187 = .ok (.invokevirtual 43, 3) := by decide +kernel
theorem d_Ch_answer_190 : decode b_Ch_answer 190 = .ok (.getfield 50, 3) := by decide +kernel
theorem d_Ch_answer_193 : decode b_Ch_answer 193 = .ok (.invokestatic 54, 3) := by decide +kernel
theorem d_Ch_answer_196 : decode b_Ch_answer 196 = .ok (.areturn, 1) := by decide +kernel
theorem d_Ch_answer_197 : decode b_Ch_answer 197 = .ok (.aload_n 1, 1) := by decide +kernel
theorem d_Ch_answer_198 : decode b_Ch_answer 198 = .ok (.iconst 0, 1) := by decide +kernel
theorem d_Ch_answer_199 : decode b_Ch_answer 199 = .ok (.invokevirtual 13, 3) := by decide +kernel
theorem d_Ch_answer_202 : decode b_Ch_answer 202 = .ok (.invokestatic 58, 3) := by decide +kernel
theorem d_Ch_answer_205 : decode b_Ch_answer 205 = .ok (.i2d, 1) := by decide +kernel
theorem d_Ch_answer_206 : decode b_Ch_answer 206 = .ok (.invokestatic 62, 3) := by decide +kernel
theorem d_Ch_answer_209 : decode b_Ch_answer 209 = .ok (.areturn, 1) := by decide +kernel
theorem d_Ch_answer_210 : decode b_Ch_answer 210 = .ok (.aload_n 1, 1) := by decide +kernel
theorem d_Ch_answer_211 : decode b_Ch_answer 211 = .ok (.iconst 0, 1) := by decide +kernel
theorem d_Ch_answer_212 : decode b_Ch_answer 212 = .ok (.invokevirtual 66, 3) := by decide +kernel
theorem d_Ch_answer_215 : decode b_Ch_answer 215 = .ok (.invokestatic 69, 3) := by decide +kernel
theorem d_Ch_answer_218 : decode b_Ch_answer 218 = .ok (.areturn, 1) := by decide +kernel
theorem d_Ch_answer_219 : decode b_Ch_answer 219 = .ok (.iload_n 0, 1) := by decide +kernel
theorem d_Ch_answer_220 : decode b_Ch_answer 220 = .ok (.aload_n 1, 1) := by decide +kernel
theorem d_Ch_answer_221 : decode b_Ch_answer 221 = .ok (.iconst 0, 1) := by decide +kernel
theorem d_Ch_answer_222 : decode b_Ch_answer 222 = .ok (.invokevirtual 66, 3) := by decide +kernel
theorem d_Ch_answer_225 : decode b_Ch_answer 225 = .ok (.invokestatic 72, 3) := by decide +kernel
theorem d_Ch_answer_228 : decode b_Ch_answer 228 = .ok (.invokestatic 34, 3) := by decide +kernel
theorem d_Ch_answer_231 : decode b_Ch_answer 231 = .ok (.areturn, 1) := by decide +kernel
theorem p_Ch_answer_b219 (d : Nat)  (v0 : Int32) (v1 : Option Nat) (h : gk_H) : gk_P gw_R (d + 9) y_Ch_answer b_Ch_answer 2 (some (.object "ValueAlgebra$Value")) [] (f_Ch_answer_b219  v0 v1 h) 219 [(0, .int v0), (1, va_rf v1)] [] h := by
  unfold f_Ch_answer_b219
  refine gk_iload_n (pc := 219) 0 d_Ch_answer_219 rfl ?_
  refine gk_aload_n (pc := 220) 1 d_Ch_answer_220 rfl ?_
  refine gk_iconst (pc := 221) (0 : Int32) d_Ch_answer_221 rfl ?_
  refine gk_callV (pc := 222) (d := (d + 8)) (w' := gv_R) (as := [.int (0 : Int32)]) (n := 1) 4 d_Ch_answer_222 rfl rfl rfl rfl (Nat.le_of_ble_eq_true rfl) tw_1337 tw_796 tw_797 tw_96 cw_Ar_single hy_Ar_single (Nat.le_of_ble_eq_true rfl) (p_Ar_single (d + 8) v1 (0 : Int32) h) fun x1 h1 => ?_
  refine gk_callS (pc := 225) (d := (d + 8)) (w' := gv_I) (as := [.int v0, va_rf x1]) (n := 2) d_Ch_answer_225 rfl rfl (Nat.le_of_ble_eq_true rfl) tw_1341 tw_1342 tw_121 cw_Ch_isSo hy_Ch_isSo (Nat.le_of_ble_eq_true rfl) (p_Ch_isSo (d + 8) v0 x1 h1) fun x2 h2 => ?_
  refine gk_callS (pc := 228) (d := (d + 8)) (w' := gv_R) (as := [.int x2]) (n := 1) d_Ch_answer_228 rfl rfl (Nat.le_of_ble_eq_true rfl) tw_1310 tw_739 tw_97 cw_Va_ofTruth hy_Va_ofTruth (Nat.le_of_ble_eq_true rfl) (p_Va_ofTruth (d + 6) x2 h2) fun x3 h3 => ?_
  exact gk_aret (pc := 231) rfl d_Ch_answer_231 rfl (Or.inl ⟨_, rfl⟩)
theorem p_Ch_answer_b123 (d : Nat)  (s0 : Option Nat) (s1 : Int32) (h : gk_H) : gk_P gw_R (d + 9) y_Ch_answer b_Ch_answer 2 (some (.object "ValueAlgebra$Value")) [] (f_Ch_answer_b123  s0 s1 h) 123 [] [.int s1, va_rf s0] h := by
  unfold f_Ch_answer_b123
  refine gk_callV (pc := 123) (d := (d + 8)) (w' := gv_R) (as := [.int s1]) (n := 1) 4 d_Ch_answer_123 rfl rfl rfl rfl (Nat.le_of_ble_eq_true rfl) tw_1308 tw_1034 tw_1035 tw_96 cw_Ar_raw hy_Ar_raw (Nat.le_of_ble_eq_true rfl) (p_Ar_raw (d + 8) s0 s1 h) fun x1 h1 => ?_
  exact gk_aret (pc := 126) rfl d_Ch_answer_126 rfl (Or.inl ⟨_, rfl⟩)
theorem p_Ch_answer_b105 (d : Nat)  (v0 : Int32) (v1 : Option Nat) (h : gk_H) : gk_P gw_R (d + 9) y_Ch_answer b_Ch_answer 2 (some (.object "ValueAlgebra$Value")) [] (f_Ch_answer_b105  v0 v1 h) 105 [(0, .int v0), (1, va_rf v1)] [] h := by
  unfold f_Ch_answer_b105
  refine gk_aload_n (pc := 105) 1 d_Ch_answer_105 rfl ?_
  refine gk_iload_n (pc := 106) 0 d_Ch_answer_106 rfl ?_
  refine gk_aload_n (pc := 107) 1 d_Ch_answer_107 rfl ?_
  refine gk_iconst (pc := 108) (0 : Int32) d_Ch_answer_108 rfl ?_
  refine gk_callV (pc := 109) (d := (d + 8)) (w' := gv_R) (as := [.int (0 : Int32)]) (n := 1) 4 d_Ch_answer_109 rfl rfl rfl rfl (by simp [gk_cat_rf, gk_catI, gk_catJ, gk_catD, gv_V, gv_I, gv_J, gv_D, gv_R]) tw_1308 tw_1034 tw_1035 tw_96 cw_Ar_raw hy_Ar_raw (Nat.le_of_ble_eq_true rfl) (p_Ar_raw (d + 8) v1 (0 : Int32) h) fun x1 h1 => ?_
  refine gk_callS (pc := 112) (d := (d + 8)) (w' := gv_I) (as := [.int v0, va_rf x1]) (n := 2) d_Ch_answer_112 rfl rfl (by simp [gk_cat_rf, gk_catI, gk_catJ, gk_catD, gv_V, gv_I, gv_J, gv_D, gv_R]) tw_1311 tw_1312 tw_121 cw_Ch_isMended hy_Ch_isMended (Nat.le_of_ble_eq_true rfl) (p_Ch_isMended (d + 8) v0 x1 h1) fun x2 h2 => ?_
  refine gk_if_eq (pc := 115) 122 d_Ch_answer_115 rfl (fun _ => ?_) (fun _ => ?_)
  · refine gk_iconst (pc := 122) (0 : Int32) d_Ch_answer_122 rfl ?_
    refine gk_weak [] (L' := []) rfl ?_
    exact p_Ch_answer_b123 d v1 (0 : Int32) h2
  · refine gk_iconst (pc := 118) (1 : Int32) d_Ch_answer_118 rfl ?_
    refine gk_goto (pc := 119) 123 d_Ch_answer_119 rfl ?_
    refine gk_weak [] (L' := []) rfl ?_
    exact p_Ch_answer_b123 d v1 (1 : Int32) h2
theorem p_Ch_answer_b132 (d : Nat)  (v0 : Int32) (v1 : Option Nat) (h : gk_H) : gk_P gw_R (d + 9) y_Ch_answer b_Ch_answer 2 (some (.object "ValueAlgebra$Value")) [] (f_Ch_answer_b132  v0 v1 h) 132 [(0, .int v0), (1, va_rf v1)] [] h := by
  unfold f_Ch_answer_b132
  refine gk_iload_n (pc := 132) 0 d_Ch_answer_132 rfl ?_
  refine gk_aload_n (pc := 133) 1 d_Ch_answer_133 rfl ?_
  refine gk_callS (pc := 134) (d := (d + 8)) (w' := gv_R) (as := [.int v0, va_rf v1]) (n := 2) d_Ch_answer_134 rfl rfl (Nat.le_of_ble_eq_true rfl) tw_1319 tw_1320 tw_121 cw_Ch_ofTruths hy_Ch_ofTruths (Nat.le_of_ble_eq_true rfl) (p_Ch_ofTruths (d + 2) v0 v1 h) fun x1 h1 => ?_
  exact gk_aret (pc := 137) rfl d_Ch_answer_137 rfl (Or.inl ⟨_, rfl⟩)
theorem p_Ch_answer_b151 (d : Nat)  (s0 : Int32) (h : gk_H) : gk_P gw_R (d + 9) y_Ch_answer b_Ch_answer 2 (some (.object "ValueAlgebra$Value")) [] (f_Ch_answer_b151  s0 h) 151 [] [.int s0] h := by
  unfold f_Ch_answer_b151
  refine gk_callS (pc := 151) (d := (d + 8)) (w' := gv_R) (as := [.int s0]) (n := 1) d_Ch_answer_151 rfl rfl (Nat.le_of_ble_eq_true rfl) tw_1310 tw_739 tw_97 cw_Va_ofTruth hy_Va_ofTruth (Nat.le_of_ble_eq_true rfl) (p_Va_ofTruth (d + 6) s0 h) fun x1 h1 => ?_
  exact gk_aret (pc := 154) rfl d_Ch_answer_154 rfl (Or.inl ⟨_, rfl⟩)
theorem p_Ch_answer_b172 (d : Nat)  (s0 : Int32) (h : gk_H) : gk_P gw_R (d + 9) y_Ch_answer b_Ch_answer 2 (some (.object "ValueAlgebra$Value")) [] (f_Ch_answer_b172  s0 h) 172 [] [.int s0] h := by
  unfold f_Ch_answer_b172
  refine gk_callS (pc := 172) (d := (d + 8)) (w' := gv_R) (as := [.int s0]) (n := 1) d_Ch_answer_172 rfl rfl (Nat.le_of_ble_eq_true rfl) tw_1310 tw_739 tw_97 cw_Va_ofTruth hy_Va_ofTruth (Nat.le_of_ble_eq_true rfl) (p_Va_ofTruth (d + 6) s0 h) fun x1 h1 => ?_
  exact gk_aret (pc := 175) rfl d_Ch_answer_175 rfl (Or.inl ⟨_, rfl⟩)
theorem p_Ch_answer_b161 (d : Nat)  (v0 : Int32) (h : gk_H) : gk_P gw_R (d + 9) y_Ch_answer b_Ch_answer 2 (some (.object "ValueAlgebra$Value")) [] (f_Ch_answer_b161  v0 h) 161 [(0, .int v0)] [] h := by
  unfold f_Ch_answer_b161
  refine gk_iload_n (pc := 161) 0 d_Ch_answer_161 rfl ?_
  refine gk_bipush (pc := 162) (44 : Int32) d_Ch_answer_162 rfl ?_
  refine gk_icmp_ne (pc := 164) 171 d_Ch_answer_164 rfl (fun _ => ?_) (fun _ => ?_)
  · refine gk_iconst (pc := 167) (1 : Int32) d_Ch_answer_167 rfl ?_
    refine gk_goto (pc := 168) 172 d_Ch_answer_168 rfl ?_
    refine gk_weak [] (L' := []) rfl ?_
    exact p_Ch_answer_b172 d (1 : Int32) h
  · refine gk_iconst (pc := 171) (0 : Int32) d_Ch_answer_171 rfl ?_
    refine gk_weak [] (L' := []) rfl ?_
    exact p_Ch_answer_b172 d (0 : Int32) h
theorem w_Ch_answer (d : Nat) (a0 : Int32) (a1 : Option Nat) (h : gk_H) : gk_P gw_R (d + 9) y_Ch_answer b_Ch_answer 2 (some (.object "ValueAlgebra$Value")) [] (f_Ch_answer a0 a1 h) 0 [(0, .int a0), (1, va_rf a1)] [] h := by
  unfold f_Ch_answer
  refine gk_iload_n (pc := 0) 0 d_Ch_answer_0 rfl ?_
  refine gk_ite (fun z1_0 => ?_) (fun z1_0 => ?_)
  · refine gk_tsw_in (pc := 1) (35 : Int32) 100 d_Ch_answer_1 z1_0 (by decide) (by decide) rfl rfl ?_
    refine gk_aload_n (pc := 100) 1 d_Ch_answer_100 rfl ?_
    refine gk_callS (pc := 101) (d := (d + 8)) (w' := gv_R) (as := [va_rf a1]) (n := 1) d_Ch_answer_101 rfl rfl (Nat.le_of_ble_eq_true rfl) tw_1300 tw_1301 tw_121 cw_Ch_chosenByTruth hy_Ch_chosenByTruth (Nat.le_of_ble_eq_true rfl) (p_Ch_chosenByTruth (d + 2) a1 h) fun x1 h1 => ?_
    exact gk_aret (pc := 104) rfl d_Ch_answer_104 rfl (Or.inl ⟨_, rfl⟩)
  ·
    refine gk_ite (fun z1_1 => ?_) (fun z1_1 => ?_)
    · refine gk_tsw_in (pc := 1) (36 : Int32) 105 d_Ch_answer_1 z1_1 (by decide) (by decide) rfl rfl ?_
      exact p_Ch_answer_b105 d a0 a1 h
    ·
      refine gk_ite (fun z1_2 => ?_) (fun z1_2 => ?_)
      · refine gk_tsw_in (pc := 1) (37 : Int32) 105 d_Ch_answer_1 z1_2 (by decide) (by decide) rfl rfl ?_
        exact p_Ch_answer_b105 d a0 a1 h
      ·
        refine gk_ite (fun z1_3 => ?_) (fun z1_3 => ?_)
        · refine gk_tsw_in (pc := 1) (38 : Int32) 127 d_Ch_answer_1 z1_3 (by decide) (by decide) rfl rfl ?_
          refine gk_aload_n (pc := 127) 1 d_Ch_answer_127 rfl ?_
          refine gk_callS (pc := 128) (d := (d + 8)) (w' := gv_R) (as := [va_rf a1]) (n := 1) d_Ch_answer_128 rfl rfl (Nat.le_of_ble_eq_true rfl) tw_1314 tw_1315 tw_121 cw_Ch_chosenByPlace hy_Ch_chosenByPlace (Nat.le_of_ble_eq_true rfl) (p_Ch_chosenByPlace d a1 h) fun x2 h2 => ?_
          exact gk_aret (pc := 131) rfl d_Ch_answer_131 rfl (Or.inl ⟨_, rfl⟩)
        ·
          refine gk_ite (fun z1_4 => ?_) (fun z1_4 => ?_)
          · refine gk_tsw_in (pc := 1) (39 : Int32) 132 d_Ch_answer_1 z1_4 (by decide) (by decide) rfl rfl ?_
            exact p_Ch_answer_b132 d a0 a1 h
          ·
            refine gk_ite (fun z1_5 => ?_) (fun z1_5 => ?_)
            · refine gk_tsw_in (pc := 1) (40 : Int32) 132 d_Ch_answer_1 z1_5 (by decide) (by decide) rfl rfl ?_
              exact p_Ch_answer_b132 d a0 a1 h
            ·
              refine gk_ite (fun z1_6 => ?_) (fun z1_6 => ?_)
              · refine gk_tsw_in (pc := 1) (41 : Int32) 132 d_Ch_answer_1 z1_6 (by decide) (by decide) rfl rfl ?_
                exact p_Ch_answer_b132 d a0 a1 h
              ·
                refine gk_ite (fun z1_7 => ?_) (fun z1_7 => ?_)
                · refine gk_tsw_in (pc := 1) (42 : Int32) 138 d_Ch_answer_1 z1_7 (by decide) (by decide) rfl rfl ?_
                  refine gk_aload_n (pc := 138) 1 d_Ch_answer_138 rfl ?_
                  refine gk_iconst (pc := 139) (0 : Int32) d_Ch_answer_139 rfl ?_
                  refine gk_callV (pc := 140) (d := (d + 8)) (w' := gv_I) (as := [.int (0 : Int32)]) (n := 1) 4 d_Ch_answer_140 rfl rfl rfl rfl (Nat.le_of_ble_eq_true rfl) tw_1303 tw_1304 tw_1305 tw_96 cw_Ar_truth hy_Ar_truth (Nat.le_of_ble_eq_true rfl) (p_Ar_truth (d + 3) a1 (0 : Int32) h) fun x3 h3 => ?_
                  refine gk_if_ne (pc := 143) 150 d_Ch_answer_143 rfl (fun _ => ?_) (fun _ => ?_)
                  · refine gk_iconst (pc := 146) (1 : Int32) d_Ch_answer_146 rfl ?_
                    refine gk_goto (pc := 147) 151 d_Ch_answer_147 rfl ?_
                    refine gk_weak [] (L' := []) rfl ?_
                    exact p_Ch_answer_b151 d (1 : Int32) h3
                  · refine gk_iconst (pc := 150) (0 : Int32) d_Ch_answer_150 rfl ?_
                    refine gk_weak [] (L' := []) rfl ?_
                    exact p_Ch_answer_b151 d (0 : Int32) h3
                ·
                  refine gk_ite (fun z1_8 => ?_) (fun z1_8 => ?_)
                  · refine gk_tsw_in (pc := 1) (43 : Int32) 155 d_Ch_answer_1 z1_8 (by decide) (by decide) rfl rfl ?_
                    refine gk_bipush (pc := 155) (7 : Int32) d_Ch_answer_155 rfl ?_
                    refine gk_callS (pc := 157) (d := (d + 8)) (w' := gv_R) (as := [.int (7 : Int32)]) (n := 1) d_Ch_answer_157 rfl rfl (Nat.le_of_ble_eq_true rfl) tw_1318 tw_236 tw_97 cw_Va_ofError hy_Va_ofError (Nat.le_of_ble_eq_true rfl) (p_Va_ofError (d + 6) (7 : Int32) h) fun x4 h4 => ?_
                    exact gk_aret (pc := 160) rfl d_Ch_answer_160 rfl (Or.inl ⟨_, rfl⟩)
                  ·
                    refine gk_ite (fun z1_9 => ?_) (fun z1_9 => ?_)
                    · refine gk_tsw_in (pc := 1) (44 : Int32) 161 d_Ch_answer_1 z1_9 (by decide) (by decide) rfl rfl ?_
                      refine gk_weak [0] (L' := [(0, .int a0)]) rfl ?_
                      exact p_Ch_answer_b161 d a0 h
                    ·
                      refine gk_ite (fun z1_10 => ?_) (fun z1_10 => ?_)
                      · refine gk_tsw_in (pc := 1) (45 : Int32) 161 d_Ch_answer_1 z1_10 (by decide) (by decide) rfl rfl ?_
                        refine gk_weak [0] (L' := [(0, .int a0)]) rfl ?_
                        exact p_Ch_answer_b161 d a0 h
                      ·
                        refine gk_ite (fun z1_11 => ?_) (fun z1_11 => ?_)
                        · refine gk_tsw_in (pc := 1) (46 : Int32) 219 d_Ch_answer_1 z1_11 (by decide) (by decide) rfl rfl ?_
                          exact p_Ch_answer_b219 d a0 a1 h
                        ·
                          refine gk_ite (fun z1_12 => ?_) (fun z1_12 => ?_)
                          · refine gk_tsw_in (pc := 1) (47 : Int32) 219 d_Ch_answer_1 z1_12 (by decide) (by decide) rfl rfl ?_
                            exact p_Ch_answer_b219 d a0 a1 h
                          ·
                            refine gk_ite (fun z1_13 => ?_) (fun z1_13 => ?_)
                            · refine gk_tsw_in (pc := 1) (48 : Int32) 219 d_Ch_answer_1 z1_13 (by decide) (by decide) rfl rfl ?_
                              exact p_Ch_answer_b219 d a0 a1 h
                            ·
                              refine gk_ite (fun z1_14 => ?_) (fun z1_14 => ?_)
                              · refine gk_tsw_in (pc := 1) (49 : Int32) 219 d_Ch_answer_1 z1_14 (by decide) (by decide) rfl rfl ?_
                                exact p_Ch_answer_b219 d a0 a1 h
                              ·
                                refine gk_ite (fun z1_15 => ?_) (fun z1_15 => ?_)
                                · refine gk_tsw_in (pc := 1) (50 : Int32) 219 d_Ch_answer_1 z1_15 (by decide) (by decide) rfl rfl ?_
                                  exact p_Ch_answer_b219 d a0 a1 h
                                ·
                                  refine gk_ite (fun z1_16 => ?_) (fun z1_16 => ?_)
                                  · refine gk_tsw_in (pc := 1) (51 : Int32) 219 d_Ch_answer_1 z1_16 (by decide) (by decide) rfl rfl ?_
                                    exact p_Ch_answer_b219 d a0 a1 h
                                  ·
                                    refine gk_ite (fun z1_17 => ?_) (fun z1_17 => ?_)
                                    · refine gk_tsw_in (pc := 1) (52 : Int32) 176 d_Ch_answer_1 z1_17 (by decide) (by decide) rfl rfl ?_
                                      refine gk_aload_n (pc := 176) 1 d_Ch_answer_176 rfl ?_
                                      refine gk_iconst (pc := 177) (0 : Int32) d_Ch_answer_177 rfl ?_
                                      refine gk_callV (pc := 178) (d := (d + 8)) (w' := gv_R) (as := [.int (0 : Int32)]) (n := 1) 4 d_Ch_answer_178 rfl rfl rfl rfl (Nat.le_of_ble_eq_true rfl) tw_1328 tw_792 tw_793 tw_96 cw_Ar_sound hy_Ar_sound (Nat.le_of_ble_eq_true rfl) (p_Ar_sound (d + 7) a1 (0 : Int32) h) fun x5 h5 => ?_
                                      refine gk_callS (pc := 181) (d := (d + 8)) (w' := gv_R) (as := [va_rf x5]) (n := 1) d_Ch_answer_181 rfl rfl (Nat.le_of_ble_eq_true rfl) tw_1329 tw_1330 tw_121 cw_Ch_asNumber hy_Ch_asNumber (Nat.le_of_ble_eq_true rfl) (p_Ch_asNumber (d + 5) x5 h5) fun x6 h6 => ?_
                                      exact gk_aret (pc := 184) rfl d_Ch_answer_184 rfl (Or.inl ⟨_, rfl⟩)
                                    ·
                                      refine gk_ite (fun z1_18 => ?_) (fun z1_18 => ?_)
                                      · refine gk_tsw_in (pc := 1) (53 : Int32) 185 d_Ch_answer_1 z1_18 (by decide) (by decide) rfl rfl ?_
                                        refine gk_aload_n (pc := 185) 1 d_Ch_answer_185 rfl ?_
                                        refine gk_iconst (pc := 186) (0 : Int32) d_Ch_answer_186 rfl ?_
                                        refine gk_callV (pc := 187) (d := (d + 8)) (w' := gv_R) (as := [.int (0 : Int32)]) (n := 1) 4 d_Ch_answer_187 rfl rfl rfl rfl (Nat.le_of_ble_eq_true rfl) tw_1328 tw_792 tw_793 tw_96 cw_Ar_sound hy_Ar_sound (Nat.le_of_ble_eq_true rfl) (p_Ar_sound (d + 7) a1 (0 : Int32) h) fun x7 h7 => ?_
                                        refine gk_getR (pc := 190) 2 3 d_Ch_answer_190 rfl (Nat.le_of_ble_eq_true rfl) tw_206 fun x8 => ?_
                                        refine gk_callS (pc := 193) (d := (d + 8)) (w' := gv_R) (as := [va_rf x8]) (n := 1) d_Ch_answer_193 rfl rfl (Nat.le_of_ble_eq_true rfl) tw_1333 tw_663 tw_97 cw_Va_ofText hy_Va_ofText (Nat.le_of_ble_eq_true rfl) (p_Va_ofText (d + 6) x8 h7) fun x9 h8 => ?_
                                        exact gk_aret (pc := 196) rfl d_Ch_answer_196 rfl (Or.inl ⟨_, rfl⟩)
                                      ·
                                        refine gk_ite (fun z1_19 => ?_) (fun z1_19 => ?_)
                                        · refine gk_tsw_in (pc := 1) (54 : Int32) 197 d_Ch_answer_1 z1_19 (by decide) (by decide) rfl rfl ?_
                                          refine gk_aload_n (pc := 197) 1 d_Ch_answer_197 rfl ?_
                                          refine gk_iconst (pc := 198) (0 : Int32) d_Ch_answer_198 rfl ?_
                                          refine gk_callV (pc := 199) (d := (d + 8)) (w' := gv_R) (as := [.int (0 : Int32)]) (n := 1) 4 d_Ch_answer_199 rfl rfl rfl rfl (Nat.le_of_ble_eq_true rfl) tw_1308 tw_1034 tw_1035 tw_96 cw_Ar_raw hy_Ar_raw (Nat.le_of_ble_eq_true rfl) (p_Ar_raw (d + 8) a1 (0 : Int32) h) fun x10 h9 => ?_
                                          refine gk_callS (pc := 202) (d := (d + 8)) (w' := gv_I) (as := [va_rf x10]) (n := 1) d_Ch_answer_202 rfl rfl (Nat.le_of_ble_eq_true rfl) tw_1334 tw_1335 tw_121 cw_Ch_typeOf hy_Ch_typeOf (Nat.le_of_ble_eq_true rfl) (p_Ch_typeOf (d + 8) x10 h9) fun x11 h10 => ?_
                                          refine gk_i2d (pc := 205) d_Ch_answer_205 ?_
                                          refine gk_callS (pc := 206) (d := (d + 8)) (w' := gv_R) (as := [.double (FP.i2d x11)]) (n := 1) d_Ch_answer_206 rfl rfl (Nat.le_of_ble_eq_true rfl) tw_1332 tw_317 tw_97 cw_Va_ofNumber hy_Va_ofNumber (Nat.le_of_ble_eq_true rfl) (p_Va_ofNumber (d + 6) (FP.i2d x11) h10) fun x12 h11 => ?_
                                          exact gk_aret (pc := 209) rfl d_Ch_answer_209 rfl (Or.inl ⟨_, rfl⟩)
                                        ·
                                          refine gk_ite (fun z1_20 => ?_) (fun z1_20 => ?_)
                                          · refine gk_tsw_in (pc := 1) (55 : Int32) 210 d_Ch_answer_1 z1_20 (by decide) (by decide) rfl rfl ?_
                                            refine gk_aload_n (pc := 210) 1 d_Ch_answer_210 rfl ?_
                                            refine gk_iconst (pc := 211) (0 : Int32) d_Ch_answer_211 rfl ?_
                                            refine gk_callV (pc := 212) (d := (d + 8)) (w' := gv_R) (as := [.int (0 : Int32)]) (n := 1) 4 d_Ch_answer_212 rfl rfl rfl rfl (Nat.le_of_ble_eq_true rfl) tw_1337 tw_796 tw_797 tw_96 cw_Ar_single hy_Ar_single (Nat.le_of_ble_eq_true rfl) (p_Ar_single (d + 8) a1 (0 : Int32) h) fun x13 h12 => ?_
                                            refine gk_callS (pc := 215) (d := (d + 8)) (w' := gv_R) (as := [va_rf x13]) (n := 1) d_Ch_answer_215 rfl rfl (Nat.le_of_ble_eq_true rfl) tw_1338 tw_1339 tw_121 cw_Ch_errorNumber hy_Ch_errorNumber (Nat.le_of_ble_eq_true rfl) (p_Ch_errorNumber (d + 5) x13 h12) fun x14 h13 => ?_
                                            exact gk_aret (pc := 218) rfl d_Ch_answer_218 rfl (Or.inl ⟨_, rfl⟩)
                                          ·
                                            refine gk_tsw_out (pc := 1) 219 d_Ch_answer_1 (by have e0 := gk_neT z1_0 (by decide : (35 : Int32).toInt = 35); have e1 := gk_neT z1_1 (by decide : (36 : Int32).toInt = 36); have e2 := gk_neT z1_2 (by decide : (37 : Int32).toInt = 37); have e3 := gk_neT z1_3 (by decide : (38 : Int32).toInt = 38); have e4 := gk_neT z1_4 (by decide : (39 : Int32).toInt = 39); have e5 := gk_neT z1_5 (by decide : (40 : Int32).toInt = 40); have e6 := gk_neT z1_6 (by decide : (41 : Int32).toInt = 41); have e7 := gk_neT z1_7 (by decide : (42 : Int32).toInt = 42); have e8 := gk_neT z1_8 (by decide : (43 : Int32).toInt = 43); have e9 := gk_neT z1_9 (by decide : (44 : Int32).toInt = 44); have e10 := gk_neT z1_10 (by decide : (45 : Int32).toInt = 45); have e11 := gk_neT z1_11 (by decide : (46 : Int32).toInt = 46); have e12 := gk_neT z1_12 (by decide : (47 : Int32).toInt = 47); have e13 := gk_neT z1_13 (by decide : (48 : Int32).toInt = 48); have e14 := gk_neT z1_14 (by decide : (49 : Int32).toInt = 49); have e15 := gk_neT z1_15 (by decide : (50 : Int32).toInt = 50); have e16 := gk_neT z1_16 (by decide : (51 : Int32).toInt = 51); have e17 := gk_neT z1_17 (by decide : (52 : Int32).toInt = 52); have e18 := gk_neT z1_18 (by decide : (53 : Int32).toInt = 53); have e19 := gk_neT z1_19 (by decide : (54 : Int32).toInt = 54); have e20 := gk_neT z1_20 (by decide : (55 : Int32).toInt = 55); omega) rfl ?_
                                            exact p_Ch_answer_b219 d a0 a1 h
theorem p_Ch_answer (d : Nat) (a0 : Int32) (a1 : Option Nat) (h : gk_H) : ∀ r h1, f_Ch_answer a0 a1 h = some (r, h1) → gk_M (d + 9) y_Ch_answer b_Ch_answer 2 (some (.object "ValueAlgebra$Value")) [.int a0, va_rf a1] h (.inl (gv_R r)) h1 :=
  fun r h1 e => gk_M_of2 (by decide +kernel) (by simp [lv_args, gk_cat_rf, gk_catI, gk_catJ, gk_catD, gv_V, gv_I, gv_J, gv_D, gv_R]) (by simp [lg_sl, gk_cat_rf, gk_catI, gk_catJ, gk_catD, gv_V, gv_I, gv_J, gv_D, gv_R]) (w_Ch_answer d a0 a1 h r h1 e)
theorem d_Wo_numeralOf_0 : decode b_Wo_numeralOf 0 = .ok (.aload_n 0, 1) := by decide +kernel
theorem d_Wo_numeralOf_1 : decode b_Wo_numeralOf 1 = .ok (.invokestatic 179, 3) := by decide +kernel
theorem d_Wo_numeralOf_4 : decode b_Wo_numeralOf 4 = .ok (.ifCond .eq 13, 3) := by decide +kernel
theorem d_Wo_numeralOf_7 : decode b_Wo_numeralOf 7 = .ok (.aload_n 0, 1) := by decide +kernel
theorem d_Wo_numeralOf_8 : decode b_Wo_numeralOf 8 = .ok (.invokestatic 183, 3) := by decide +kernel
theorem d_Wo_numeralOf_11 : decode b_Wo_numeralOf 11 = .ok (.invokestatic 21, 3) := by decide +kernel
theorem d_Wo_numeralOf_14 : decode b_Wo_numeralOf 14 = .ok (.goto 7, 3) := by decide +kernel
theorem d_Wo_numeralOf_17 : decode b_Wo_numeralOf 17 = .ok (.iconst 3, 1) := by decide +kernel
theorem d_Wo_numeralOf_18 : decode b_Wo_numeralOf 18 = .ok (.invokestatic 89, 3) := by decide +kernel
theorem d_Wo_numeralOf_21 : decode b_Wo_numeralOf 21 = .ok (.areturn, 1) := by decide +kernel
theorem p_Wo_numeralOf_b21 (d : Nat)  (s0 : Option Nat) (h : gk_H) : gk_P gw_R (d + 6) y_Wo_numeralOf b_Wo_numeralOf 1 (some (.object "ValueAlgebra$Value")) [] (f_Wo_numeralOf_b21  s0 h) 21 [] [va_rf s0] h := by
  unfold f_Wo_numeralOf_b21
  exact gk_aret (pc := 21) rfl d_Wo_numeralOf_21 rfl (Or.inl ⟨_, rfl⟩)
theorem w_Wo_numeralOf (d : Nat) (a0 : Option Nat) (h : gk_H) : gk_P gw_R (d + 6) y_Wo_numeralOf b_Wo_numeralOf 1 (some (.object "ValueAlgebra$Value")) [] (f_Wo_numeralOf a0 h) 0 [(0, va_rf a0)] [] h := by
  unfold f_Wo_numeralOf
  refine gk_aload_n (pc := 0) 0 d_Wo_numeralOf_0 rfl ?_
  refine gk_callS (pc := 1) (d := (d + 5)) (w' := gv_I) (as := [va_rf a0]) (n := 1) d_Wo_numeralOf_1 rfl rfl (Nat.le_of_ble_eq_true rfl) tw_1440 tw_804 tw_116 cw_Le_isNumeral hy_Le_isNumeral (Nat.le_of_ble_eq_true rfl) (p_Le_isNumeral d a0 h) fun x1 h1 => ?_
  refine gk_if_eq (pc := 4) 17 d_Wo_numeralOf_4 rfl (fun _ => ?_) (fun _ => ?_)
  · refine gk_iconst (pc := 17) (3 : Int32) d_Wo_numeralOf_17 rfl ?_
    refine gk_callS (pc := 18) (d := (d + 5)) (w' := gv_R) (as := [.int (3 : Int32)]) (n := 1) d_Wo_numeralOf_18 rfl rfl (Nat.le_of_ble_eq_true rfl) tw_1354 tw_236 tw_97 cw_Va_ofError hy_Va_ofError (Nat.le_of_ble_eq_true rfl) (p_Va_ofError (d + 3) (3 : Int32) h1) fun x2 h2 => ?_
    refine gk_weak [] (L' := []) rfl ?_
    exact p_Wo_numeralOf_b21 d x2 h2
  · refine gk_aload_n (pc := 7) 0 d_Wo_numeralOf_7 rfl ?_
    refine gk_callS (pc := 8) (d := (d + 5)) (w' := gv_D) (as := [va_rf a0]) (n := 1) d_Wo_numeralOf_8 rfl rfl (Nat.le_of_ble_eq_true rfl) tw_1441 tw_829 tw_116 cw_Le_numeral hy_Le_numeral (Nat.le_of_ble_eq_true rfl) (p_Le_numeral (d + 1) a0 h1) fun x3 h3 => ?_
    refine gk_callS (pc := 11) (d := (d + 5)) (w' := gv_R) (as := [.double x3]) (n := 1) d_Wo_numeralOf_11 rfl rfl (Nat.le_of_ble_eq_true rfl) tw_1349 tw_317 tw_97 cw_Va_ofNumber hy_Va_ofNumber (Nat.le_of_ble_eq_true rfl) (p_Va_ofNumber (d + 3) x3 h3) fun x4 h4 => ?_
    refine gk_goto (pc := 14) 21 d_Wo_numeralOf_14 rfl ?_
    refine gk_weak [] (L' := []) rfl ?_
    exact p_Wo_numeralOf_b21 d x4 h4
theorem p_Wo_numeralOf (d : Nat) (a0 : Option Nat) (h : gk_H) : ∀ r h1, f_Wo_numeralOf a0 h = some (r, h1) → gk_M (d + 6) y_Wo_numeralOf b_Wo_numeralOf 1 (some (.object "ValueAlgebra$Value")) [va_rf a0] h (.inl (gv_R r)) h1 :=
  fun r h1 e => gk_M_of2 (by decide +kernel) (by simp [lv_args, gk_cat_rf, gk_catI, gk_catJ, gk_catD, gv_V, gv_I, gv_J, gv_D, gv_R]) (by simp [lg_sl, gk_cat_rf, gk_catI, gk_catJ, gk_catD, gv_V, gv_I, gv_J, gv_D, gv_R]) (w_Wo_numeralOf d a0 h r h1 e)
theorem d_Wo_codeOf_0 : decode b_Wo_codeOf 0 = .ok (.aload_n 0, 1) := by decide +kernel
theorem d_Wo_codeOf_1 : decode b_Wo_codeOf 1 = .ok (.invokevirtual 150, 3) := by decide +kernel
theorem d_Wo_codeOf_4 : decode b_Wo_codeOf 4 = .ok (.ifCond .eq 10, 3) := by decide +kernel
theorem d_Wo_codeOf_7 : decode b_Wo_codeOf 7 = .ok (.iconst 3, 1) := by decide +kernel
theorem d_Wo_codeOf_8 : decode b_Wo_codeOf 8 = .ok (.invokestatic 89, 3) := by decide +kernel
theorem d_Wo_codeOf_11 : decode b_Wo_codeOf 11 = .ok (.goto 12, 3) := by decide +kernel
theorem d_Wo_codeOf_14 : decode b_Wo_codeOf 14 = .ok (.aload_n 0, 1) := by decide +kernel
theorem d_Wo_codeOf_15 : decode b_Wo_codeOf 15 = .ok (.iconst 0, 1) := by decide +kernel
theorem d_Wo_codeOf_16 : decode b_Wo_codeOf 16 = .ok (.invokevirtual 116, 3) := by decide +kernel
theorem d_Wo_codeOf_19 : decode b_Wo_codeOf 19 = .ok (.i2d, 1) := by decide +kernel
theorem d_Wo_codeOf_20 : decode b_Wo_codeOf 20 = .ok (.invokestatic 21, 3) := by decide +kernel
theorem d_Wo_codeOf_23 : decode b_Wo_codeOf 23 = .ok (.areturn, 1) := by decide +kernel
theorem p_Wo_codeOf_b23 (d : Nat)  (s0 : Option Nat) (h : gk_H) : gk_P gw_R (d + 4) y_Wo_codeOf b_Wo_codeOf 1 (some (.object "ValueAlgebra$Value")) [] (f_Wo_codeOf_b23  s0 h) 23 [] [va_rf s0] h := by
  unfold f_Wo_codeOf_b23
  exact gk_aret (pc := 23) rfl d_Wo_codeOf_23 rfl (Or.inl ⟨_, rfl⟩)
theorem w_Wo_codeOf (d : Nat) (a0 : Option Nat) (h : gk_H) : gk_P gw_R (d + 4) y_Wo_codeOf b_Wo_codeOf 1 (some (.object "ValueAlgebra$Value")) [] (f_Wo_codeOf a0 h) 0 [(0, va_rf a0)] [] h := by
  unfold f_Wo_codeOf
  refine gk_aload_n (pc := 0) 0 d_Wo_codeOf_0 rfl ?_
  refine gk_callV (pc := 1) (d := (d + 3)) (w' := gv_I) (as := []) (n := 0) 0 d_Wo_codeOf_1 rfl rfl rfl rfl (Nat.le_of_ble_eq_true rfl) tw_1401 tw_1043 tw_1044 tw_94 cw_St_isEmpty hy_St_isEmpty (Nat.le_of_ble_eq_true rfl) (p_St_isEmpty (d + 3) a0 h) fun x1 h1 => ?_
  refine gk_if_eq (pc := 4) 14 d_Wo_codeOf_4 rfl (fun _ => ?_) (fun _ => ?_)
  · refine gk_aload_n (pc := 14) 0 d_Wo_codeOf_14 rfl ?_
    refine gk_iconst (pc := 15) (0 : Int32) d_Wo_codeOf_15 rfl ?_
    refine gk_callV (pc := 16) (d := (d + 3)) (w' := gv_I) (as := [.int (0 : Int32)]) (n := 1) 0 d_Wo_codeOf_16 rfl rfl rfl rfl (Nat.le_of_ble_eq_true rfl) tw_1375 tw_811 tw_812 tw_94 cw_St_charAt hy_St_charAt (Nat.le_of_ble_eq_true rfl) (p_St_charAt d a0 (0 : Int32) h1) fun x2 h2 => ?_
    refine gk_i2d (pc := 19) d_Wo_codeOf_19 ?_
    refine gk_callS (pc := 20) (d := (d + 3)) (w' := gv_R) (as := [.double (FP.i2d x2)]) (n := 1) d_Wo_codeOf_20 rfl rfl (Nat.le_of_ble_eq_true rfl) tw_1349 tw_317 tw_97 cw_Va_ofNumber hy_Va_ofNumber (Nat.le_of_ble_eq_true rfl) (p_Va_ofNumber (d + 1) (FP.i2d x2) h2) fun x3 h3 => ?_
    refine gk_weak [] (L' := []) rfl ?_
    exact p_Wo_codeOf_b23 d x3 h3
  · refine gk_iconst (pc := 7) (3 : Int32) d_Wo_codeOf_7 rfl ?_
    refine gk_callS (pc := 8) (d := (d + 3)) (w' := gv_R) (as := [.int (3 : Int32)]) (n := 1) d_Wo_codeOf_8 rfl rfl (Nat.le_of_ble_eq_true rfl) tw_1354 tw_236 tw_97 cw_Va_ofError hy_Va_ofError (Nat.le_of_ble_eq_true rfl) (p_Va_ofError (d + 1) (3 : Int32) h1) fun x4 h4 => ?_
    refine gk_goto (pc := 11) 23 d_Wo_codeOf_11 rfl ?_
    refine gk_weak [] (L' := []) rfl ?_
    exact p_Wo_codeOf_b23 d x4 h4
theorem p_Wo_codeOf (d : Nat) (a0 : Option Nat) (h : gk_H) : ∀ r h1, f_Wo_codeOf a0 h = some (r, h1) → gk_M (d + 4) y_Wo_codeOf b_Wo_codeOf 1 (some (.object "ValueAlgebra$Value")) [va_rf a0] h (.inl (gv_R r)) h1 :=
  fun r h1 e => gk_M_of2 (by decide +kernel) (by simp [lv_args, gk_cat_rf, gk_catI, gk_catJ, gk_catD, gv_V, gv_I, gv_J, gv_D, gv_R]) (by simp [lg_sl, gk_cat_rf, gk_catI, gk_catJ, gk_catD, gv_V, gv_I, gv_J, gv_D, gv_R]) (w_Wo_codeOf d a0 h r h1 e)
theorem d_Wo_character_0 : decode b_Wo_character 0 = .ok (.lload_n 0, 1) := by decide +kernel
theorem d_Wo_character_1 : decode b_Wo_character 1 = .ok (.ldc2_w 175, 3) := by decide +kernel
theorem d_Wo_character_4 : decode b_Wo_character 4 = .ok (.lcmp, 1) := by decide +kernel
theorem d_Wo_character_5 : decode b_Wo_character 5 = .ok (.ifCond .lt 11, 3) := by decide +kernel
theorem d_Wo_character_8 : decode b_Wo_character 8 = .ok (.lload_n 0, 1) := by decide +kernel
theorem d_Wo_character_9 : decode b_Wo_character 9 = .ok (.ldc2_w 177, 3) := by decide +kernel
theorem d_Wo_character_12 : decode b_Wo_character 12 = .ok (.lcmp, 1) := by decide +kernel
theorem d_Wo_character_13 : decode b_Wo_character 13 = .ok (.ifCond .le 8, 3) := by decide +kernel
theorem d_Wo_character_16 : decode b_Wo_character 16 = .ok (.iconst 3, 1) := by decide +kernel
theorem d_Wo_character_17 : decode b_Wo_character 17 = .ok (.invokestatic 89, 3) := by decide +kernel
theorem d_Wo_character_20 : decode b_Wo_character 20 = .ok (.areturn, 1) := by decide +kernel
theorem d_Wo_character_21 : decode b_Wo_character 21 = .ok (.new 113, 3) := by decide +kernel
theorem d_Wo_character_24 : decode b_Wo_character 24 = .ok (.dup, 1) := by decide +kernel
theorem d_Wo_character_25 : decode b_Wo_character 25 = .ok (.invokespecial 115, 3) := by decide +kernel
theorem d_Wo_character_28 : decode b_Wo_character 28 = .ok (.astore_n 2, 1) := by decide +kernel
theorem d_Wo_character_29 : decode b_Wo_character 29 = .ok (.aload_n 2, 1) := by decide +kernel
theorem d_Wo_character_30 : decode b_Wo_character 30 = .ok (.lload_n 0, 1) := by decide +kernel
theorem d_Wo_character_31 : decode b_Wo_character 31 = .ok (.l2i, 1) := by decide +kernel
theorem d_Wo_character_32 : decode b_Wo_character 32 = .ok (.i2c, 1) := by decide +kernel
theorem d_Wo_character_33 : decode b_Wo_character 33 = .ok (.invokevirtual 129, 3) := by decide +kernel
theorem d_Wo_character_36 : decode b_Wo_character 36 = .ok (.pop, 1) := by decide +kernel
theorem d_Wo_character_37 : decode b_Wo_character 37 = .ok (.aload_n 2, 1) := by decide +kernel
theorem d_Wo_character_38 : decode b_Wo_character 38 = .ok (.invokevirtual 137, 3) := by decide +kernel
theorem d_Wo_character_41 : decode b_Wo_character 41 = .ok (.invokestatic 110, 3) := by decide +kernel
theorem d_Wo_character_44 : decode b_Wo_character 44 = .ok (.areturn, 1) := by decide +kernel
theorem p_Wo_character_b16 (d : Nat)   (h : gk_H) : gk_P gw_R (d + 6) y_Wo_character b_Wo_character 3 (some (.object "ValueAlgebra$Value")) [] (f_Wo_character_b16   h) 16 [] [] h := by
  unfold f_Wo_character_b16
  refine gk_iconst (pc := 16) (3 : Int32) d_Wo_character_16 rfl ?_
  refine gk_callS (pc := 17) (d := (d + 5)) (w' := gv_R) (as := [.int (3 : Int32)]) (n := 1) d_Wo_character_17 rfl rfl (Nat.le_of_ble_eq_true rfl) tw_1354 tw_236 tw_97 cw_Va_ofError hy_Va_ofError (Nat.le_of_ble_eq_true rfl) (p_Va_ofError (d + 3) (3 : Int32) h) fun x1 h1 => ?_
  exact gk_aret (pc := 20) rfl d_Wo_character_20 rfl (Or.inl ⟨_, rfl⟩)
theorem w_Wo_character (d : Nat) (a0 : Int64) (h : gk_H) : gk_P gw_R (d + 6) y_Wo_character b_Wo_character 3 (some (.object "ValueAlgebra$Value")) [] (f_Wo_character a0 h) 0 [(0, .long a0)] [] h := by
  unfold f_Wo_character
  refine gk_lload_n (pc := 0) 0 d_Wo_character_0 rfl ?_
  refine gk_ldc2 (pc := 1) tw_1432 d_Wo_character_1 ?_
  refine gk_lcmp (pc := 4) d_Wo_character_4 ?_
  refine gk_if_lt (pc := 5) 16 d_Wo_character_5 rfl (fun _ => ?_) (fun _ => ?_)
  · refine gk_weak [] (L' := []) rfl ?_
    exact p_Wo_character_b16 d h
  · refine gk_lload_n (pc := 8) 0 d_Wo_character_8 rfl ?_
    refine gk_ldc2 (pc := 9) tw_1433 d_Wo_character_9 ?_
    refine gk_lcmp (pc := 12) d_Wo_character_12 ?_
    refine gk_if_le (pc := 13) 21 d_Wo_character_13 rfl (fun _ => ?_) (fun _ => ?_)
    · refine gk_newO (pc := 21) 1 4 d_Wo_character_21 rfl tw_1373 tw_136 tw_93 fun x1 h1 => ?_
      refine gk_dup (pc := 24) d_Wo_character_24 (gk_cat_rf _) ?_
      refine gk_callI (pc := 25) (d := (d + 5)) (w' := gv_V) (as := []) (n := 0) 1 d_Wo_character_25 rfl rfl (by simp [gk_cat_rf, gk_catI, gk_catJ, gk_catD, gv_V, gv_I, gv_J, gv_D, gv_R]) tw_1374 tw_138 tw_93 cw_SB_init rfl hy_SB_init (Nat.le_of_ble_eq_true rfl) (p_SB_init (d + 3) x1 h1) fun _ h2 => ?_
      refine gk_astore_n (pc := 28) (L' := [(2, va_rf x1), (0, .long a0)]) d_Wo_character_28 (Nat.le_of_ble_eq_true rfl) rfl ?_
      refine gk_aload_n (pc := 29) 0 d_Wo_character_29 rfl ?_
      refine gk_lload_n (pc := 30) 1 d_Wo_character_30 rfl ?_
      refine gk_l2i (pc := 31) d_Wo_character_31 ?_
      refine gk_i2c (pc := 32) d_Wo_character_32 ?_
      refine gk_callV (pc := 33) (d := (d + 5)) (w' := gv_R) (as := [.int (UInt32.toInt32 (Int32.toUInt32 (Int64.toInt32 a0) % 65536))]) (n := 1) 1 d_Wo_character_33 rfl rfl rfl rfl (Nat.le_of_ble_eq_true rfl) tw_1380 tw_430 tw_431 tw_93 cw_SB_append_C hy_SB_append_C (Nat.le_of_ble_eq_true rfl) (p_SB_append_C d x1 (UInt32.toInt32 (Int32.toUInt32 (Int64.toInt32 a0) % 65536)) h2) fun x2 h3 => ?_
      refine gk_pop (pc := 36) d_Wo_character_36 (gk_cat_rf _) ?_
      refine gk_aload_n (pc := 37) 0 d_Wo_character_37 rfl ?_
      refine gk_callV (pc := 38) (d := (d + 5)) (w' := gv_R) (as := []) (n := 0) 1 d_Wo_character_38 rfl rfl rfl rfl (Nat.le_of_ble_eq_true rfl) tw_1384 tw_532 tw_533 tw_93 cw_SB_toString hy_SB_toString (Nat.le_of_ble_eq_true rfl) (p_SB_toString d x1 h3) fun x3 h4 => ?_
      refine gk_callS (pc := 41) (d := (d + 5)) (w' := gv_R) (as := [va_rf x3]) (n := 1) d_Wo_character_41 rfl rfl (Nat.le_of_ble_eq_true rfl) tw_1365 tw_663 tw_97 cw_Va_ofText hy_Va_ofText (Nat.le_of_ble_eq_true rfl) (p_Va_ofText (d + 3) x3 h4) fun x4 h5 => ?_
      exact gk_aret (pc := 44) rfl d_Wo_character_44 rfl (Or.inl ⟨_, rfl⟩)
    · refine gk_weak [] (L' := []) rfl ?_
      exact p_Wo_character_b16 d h
theorem p_Wo_character (d : Nat) (a0 : Int64) (h : gk_H) : ∀ r h1, f_Wo_character a0 h = some (r, h1) → gk_M (d + 6) y_Wo_character b_Wo_character 3 (some (.object "ValueAlgebra$Value")) [.long a0] h (.inl (gv_R r)) h1 :=
  fun r h1 e => gk_M_of2 (by decide +kernel) (by simp [lv_args, gk_cat_rf, gk_catI, gk_catJ, gk_catD, gv_V, gv_I, gv_J, gv_D, gv_R]) (by simp [lg_sl, gk_cat_rf, gk_catI, gk_catJ, gk_catD, gv_V, gv_I, gv_J, gv_D, gv_R]) (w_Wo_character d a0 h r h1 e)
theorem d_Li_firstPlace_0 : decode b_Li_firstPlace 0 = .ok (.aload_n 0, 1) := by decide +kernel
theorem d_Li_firstPlace_1 : decode b_Li_firstPlace 1 = .ok (.aload_n 1, 1) := by decide +kernel
theorem d_Li_firstPlace_2 : decode b_Li_firstPlace 2 = .ok (.iconst 1, 1) := by decide +kernel
theorem d_Li_firstPlace_3 : decode b_Li_firstPlace 3 = .ok (.invokevirtual 43, 3) := by decide +kernel
theorem d_Li_firstPlace_6 : decode b_Li_firstPlace 6 = .ok (.iload_n 2, 1) := by decide +kernel
theorem d_Li_firstPlace_7 : decode b_Li_firstPlace 7 = .ok (.iconst 0, 1) := by decide +kernel
theorem d_Li_firstPlace_8 : decode b_Li_firstPlace 8 = .ok (.invokestatic 47, 3) := by decide +kernel
theorem d_Li_firstPlace_11 : decode b_Li_firstPlace 11 = .ok (.istore_n 3, 1) := by decide +kernel
theorem d_Li_firstPlace_12 : decode b_Li_firstPlace 12 = .ok (.iload_n 3, 1) := by decide +kernel
theorem d_Li_firstPlace_13 : decode b_Li_firstPlace 13 = .ok (.aload_n 1, 1) := by decide +kernel
theorem d_Li_firstPlace_14 : decode b_Li_firstPlace 14 = .ok (.invokevirtual 27, 3) := by decide +kernel
theorem d_Li_firstPlace_17 : decode b_Li_firstPlace 17 = .ok (.if_icmp .gt 29, 3) := by decide +kernel
theorem d_Li_firstPlace_20 : decode b_Li_firstPlace 20 = .ok (.iload_n 3, 1) := by decide +kernel
theorem d_Li_firstPlace_21 : decode b_Li_firstPlace 21 = .ok (.aload_n 0, 1) := by decide +kernel
theorem d_Li_firstPlace_22 : decode b_Li_firstPlace 22 = .ok (.getfield 19, 3) := by decide +kernel
theorem d_Li_firstPlace_25 : decode b_Li_firstPlace 25 = .ok (.arraylength, 1) := by decide +kernel
theorem d_Li_firstPlace_26 : decode b_Li_firstPlace 26 = .ok (.if_icmp .ge 20, 3) := by decide +kernel
theorem d_Li_firstPlace_29 : decode b_Li_firstPlace 29 = .ok (.aload_n 0, 1) := by decide +kernel
theorem d_Li_firstPlace_30 : decode b_Li_firstPlace 30 = .ok (.getfield 19, 3) := by decide +kernel
theorem d_Li_firstPlace_33 : decode b_Li_firstPlace 33 = .ok (.iload_n 3, 1) := by decide +kernel
theorem d_Li_firstPlace_34 : decode b_Li_firstPlace 34 = .ok (.baload, 1) := by decide +kernel
theorem d_Li_firstPlace_35 : decode b_Li_firstPlace 35 = .ok (.ifCond .eq 5, 3) := by decide +kernel
theorem d_Li_firstPlace_38 : decode b_Li_firstPlace 38 = .ok (.iload_n 3, 1) := by decide +kernel
theorem d_Li_firstPlace_39 : decode b_Li_firstPlace 39 = .ok (.ireturn, 1) := by decide +kernel
theorem d_Li_firstPlace_40 : decode b_Li_firstPlace 40 = .ok (.iinc 3 1, 3) := by decide +kernel
theorem d_Li_firstPlace_43 : decode b_Li_firstPlace 43 = .ok (.goto (-31), 3) := by decide +kernel
theorem d_Li_firstPlace_46 : decode b_Li_firstPlace 46 = .ok (.iconst (-1), 1) := by decide +kernel
theorem d_Li_firstPlace_47 : decode b_Li_firstPlace 47 = .ok (.ireturn, 1) := by decide +kernel
theorem p_Li_firstPlace_b46 (d : Nat)   (h : gk_H) : gk_P gw_I (d + 5) y_Li_firstPlace b_Li_firstPlace 4 (some .int) [] (f_Li_firstPlace_b46   h) 46 [] [] h := by
  unfold f_Li_firstPlace_b46
  refine gk_iconst (pc := 46) (-1 : Int32) d_Li_firstPlace_46 rfl ?_
  exact gk_iret (pc := 47) rfl d_Li_firstPlace_47 rfl
theorem p_Li_firstPlace_b12 (d : Nat)  : ∀ (fu : Nat) (v0 : Option Nat) (v1 : Option Nat) (v3 : Int32) (h : gk_H), gk_P gw_I (d + 5) y_Li_firstPlace b_Li_firstPlace 4 (some .int) [] (f_Li_firstPlace_b12  fu v0 v1 v3 h) 12 [(0, va_rf v0), (1, va_rf v1), (3, .int v3)] [] h := by
  intro fu
  induction fu with
  | zero => intros; exact gk_none
  | succ fu q12 =>
    intro v0 v1 v3 h
    rw [f_Li_firstPlace_b12]
    refine gk_iload_n (pc := 12) 2 d_Li_firstPlace_12 rfl ?_
    refine gk_aload_n (pc := 13) 1 d_Li_firstPlace_13 rfl ?_
    refine gk_callV (pc := 14) (d := (d + 4)) (w' := gv_I) (as := []) (n := 0) 0 d_Li_firstPlace_14 rfl rfl rfl rfl (Nat.le_of_ble_eq_true rfl) tw_1153 tw_613 tw_614 tw_94 cw_St_length hy_St_length (Nat.le_of_ble_eq_true rfl) (p_St_length (d + 3) v1 h) fun x1 h1 => ?_
    refine gk_icmp_gt (pc := 17) 46 d_Li_firstPlace_17 rfl (fun _ => ?_) (fun _ => ?_)
    · refine gk_weak [] (L' := []) rfl ?_
      exact p_Li_firstPlace_b46 d h1
    · refine gk_iload_n (pc := 20) 2 d_Li_firstPlace_20 rfl ?_
      refine gk_aload_n (pc := 21) 0 d_Li_firstPlace_21 rfl ?_
      refine gk_getR (pc := 22) 3 3 d_Li_firstPlace_22 rfl (Nat.le_of_ble_eq_true rfl) tw_247 fun x2 => ?_
      refine gk_alen (pc := 25) d_Li_firstPlace_25 fun x3 => ?_
      refine gk_icmp_ge (pc := 26) 46 d_Li_firstPlace_26 rfl (fun _ => ?_) (fun _ => ?_)
      · refine gk_weak [] (L' := []) rfl ?_
        exact p_Li_firstPlace_b46 d h1
      · refine gk_aload_n (pc := 29) 0 d_Li_firstPlace_29 rfl ?_
        refine gk_getR (pc := 30) 3 3 d_Li_firstPlace_30 rfl (Nat.le_of_ble_eq_true rfl) tw_247 fun x4 => ?_
        refine gk_iload_n (pc := 33) 2 d_Li_firstPlace_33 rfl ?_
        refine gk_zald (pc := 34) d_Li_firstPlace_34 fun x5 => ?_
        refine gk_if_eq (pc := 35) 40 d_Li_firstPlace_35 rfl (fun _ => ?_) (fun _ => ?_)
        · refine gk_iincN (pc := 40) 2 (1 : Int32) (L' := fun x6 => [(3, .int x6), (0, va_rf v0), (1, va_rf v1)]) d_Li_firstPlace_40 rfl rfl (Nat.le_of_ble_eq_true rfl) (fun _ => rfl) fun x6 => ?_
          refine gk_goto (pc := 43) 12 d_Li_firstPlace_43 rfl ?_
          refine gk_weak [1, 2, 0] (L' := [(0, va_rf v0), (1, va_rf v1), (3, .int x6)]) rfl ?_
          exact q12 v0 v1 x6 h1
        · refine gk_iload_n (pc := 38) 2 d_Li_firstPlace_38 rfl ?_
          exact gk_iret (pc := 39) rfl d_Li_firstPlace_39 rfl
theorem w_Li_firstPlace (d : Nat) (a0 : Option Nat) (a1 : Option Nat) (a2 : Int32) (h : gk_H) : gk_P gw_I (d + 5) y_Li_firstPlace b_Li_firstPlace 4 (some .int) [] (f_Li_firstPlace a0 a1 a2 h) 0 [(0, va_rf a0), (1, va_rf a1), (2, .int a2)] [] h := by
  unfold f_Li_firstPlace
  refine gk_aload_n (pc := 0) 0 d_Li_firstPlace_0 rfl ?_
  refine gk_aload_n (pc := 1) 1 d_Li_firstPlace_1 rfl ?_
  refine gk_iconst (pc := 2) (1 : Int32) d_Li_firstPlace_2 rfl ?_
  refine gk_callV (pc := 3) (d := (d + 4)) (w' := gv_V) (as := [va_rf a1, .int (1 : Int32)]) (n := 2) 3 d_Li_firstPlace_3 rfl rfl rfl rfl (Nat.le_of_ble_eq_true rfl) tw_1184 tw_1186 tw_9 tw_98 cw_Li_look hy_Li_look (Nat.le_of_ble_eq_true rfl) (p_Li_look d a0 a1 (1 : Int32) h) fun _ h1 => ?_
  refine gk_iload_n (pc := 6) 2 d_Li_firstPlace_6 rfl ?_
  refine gk_iconst (pc := 7) (0 : Int32) d_Li_firstPlace_7 rfl ?_
  refine gk_callS (pc := 8) (d := (d + 4)) (w' := gv_I) (as := [.int a2, .int (0 : Int32)]) (n := 2) d_Li_firstPlace_8 rfl rfl (Nat.le_of_ble_eq_true rfl) tw_1416 tw_448 tw_106 cw_Ma_max_II hy_Ma_max_II (Nat.le_of_ble_eq_true rfl) (p_Ma_max_II (d + 4) a2 (0 : Int32) h1) fun x1 h2 => ?_
  refine gk_istore_n (pc := 11) (L' := [(3, .int x1), (0, va_rf a0), (1, va_rf a1), (2, .int a2)]) d_Li_firstPlace_11 (Nat.le_of_ble_eq_true rfl) rfl ?_
  refine gk_weak [1, 2, 0] (L' := [(0, va_rf a0), (1, va_rf a1), (3, .int x1)]) rfl ?_
  exact p_Li_firstPlace_b12 d gk_F a0 a1 x1 h2
theorem p_Li_firstPlace (d : Nat) (a0 : Option Nat) (a1 : Option Nat) (a2 : Int32) (h : gk_H) : ∀ r h1, f_Li_firstPlace a0 a1 a2 h = some (r, h1) → gk_M (d + 5) y_Li_firstPlace b_Li_firstPlace 4 (some .int) [va_rf a0, va_rf a1, .int a2] h (.inl (gv_I r)) h1 :=
  fun r h1 e => gk_M_of2 (by decide +kernel) (by simp [lv_args, gk_cat_rf, gk_catI, gk_catJ, gk_catD, gv_V, gv_I, gv_J, gv_D, gv_R]) (by simp [lg_sl, gk_cat_rf, gk_catI, gk_catJ, gk_catD, gv_V, gv_I, gv_J, gv_D, gv_R]) (w_Li_firstPlace d a0 a1 a2 h r h1 e)
theorem d_Le_standsAt_0 : decode b_Le_standsAt 0 = .ok (.iload_n 2, 1) := by decide +kernel
theorem d_Le_standsAt_1 : decode b_Le_standsAt 1 = .ok (.ifCond .lt 16, 3) := by decide +kernel
theorem d_Le_standsAt_4 : decode b_Le_standsAt 4 = .ok (.iload_n 2, 1) := by decide +kernel
theorem d_Le_standsAt_5 : decode b_Le_standsAt 5 = .ok (.aload_n 0, 1) := by decide +kernel
theorem d_Le_standsAt_6 : decode b_Le_standsAt 6 = .ok (.invokevirtual 15, 3) := by decide +kernel
theorem d_Le_standsAt_9 : decode b_Le_standsAt 9 = .ok (.iadd, 1) := by decide +kernel
theorem d_Le_standsAt_10 : decode b_Le_standsAt 10 = .ok (.aload_n 1, 1) := by decide +kernel
theorem d_Le_standsAt_11 : decode b_Le_standsAt 11 = .ok (.invokevirtual 15, 3) := by decide +kernel
theorem d_Le_standsAt_14 : decode b_Le_standsAt 14 = .ok (.if_icmp .le 5, 3) := by decide +kernel
theorem d_Le_standsAt_17 : decode b_Le_standsAt 17 = .ok (.iconst 0, 1) := by decide +kernel
theorem d_Le_standsAt_18 : decode b_Le_standsAt 18 = .ok (.ireturn, 1) := by decide +kernel
theorem d_Le_standsAt_19 : decode b_Le_standsAt 19 = .ok (.iconst 0, 1) := by decide +kernel
theorem d_Le_standsAt_20 : decode b_Le_standsAt 20 = .ok (.istore_n 3, 1) := by decide +kernel
theorem d_Le_standsAt_21 : decode b_Le_standsAt 21 = .ok (.iload_n 3, 1) := by decide +kernel
theorem d_Le_standsAt_22 : decode b_Le_standsAt 22 = .ok (.aload_n 0, 1) := by decide +kernel
theorem d_Le_standsAt_23 : decode b_Le_standsAt 23 = .ok (.invokevirtual 15, 3) := by decide +kernel
theorem d_Le_standsAt_26 : decode b_Le_standsAt 26 = .ok (.if_icmp .ge 26, 3) := by decide +kernel
theorem d_Le_standsAt_29 : decode b_Le_standsAt 29 = .ok (.aload_n 0, 1) := by decide +kernel
theorem d_Le_standsAt_30 : decode b_Le_standsAt 30 = .ok (.iload_n 3, 1) := by decide +kernel
theorem d_Le_standsAt_31 : decode b_Le_standsAt 31 = .ok (.invokevirtual 27, 3) := by decide +kernel
theorem d_Le_standsAt_34 : decode b_Le_standsAt 34 = .ok (.aload_n 1, 1) := by decide +kernel
theorem d_Le_standsAt_35 : decode b_Le_standsAt 35 = .ok (.iload_n 2, 1) := by decide +kernel
theorem d_Le_standsAt_36 : decode b_Le_standsAt 36 = .ok (.iload_n 3, 1) := by decide +kernel
theorem d_Le_standsAt_37 : decode b_Le_standsAt 37 = .ok (.iadd, 1) := by decide +kernel
theorem d_Le_standsAt_38 : decode b_Le_standsAt 38 = .ok (.invokevirtual 27, 3) := by decide +kernel
theorem d_Le_standsAt_41 : decode b_Le_standsAt 41 = .ok (.if_icmp .eq 5, 3) := by decide +kernel
theorem d_Le_standsAt_44 : decode b_Le_standsAt 44 = .ok (.iconst 0, 1) := by decide +kernel
theorem d_Le_standsAt_45 : decode b_Le_standsAt 45 = .ok (.ireturn, 1) := by decide +kernel
theorem d_Le_standsAt_46 : decode b_Le_standsAt 46 = .ok (.iinc 3 1, 3) := by decide +kernel
theorem d_Le_standsAt_49 : decode b_Le_standsAt 49 = .ok (.goto (-28), 3) := by decide +kernel
theorem d_Le_standsAt_52 : decode b_Le_standsAt 52 = .ok (.iconst 1, 1) := by decide +kernel
theorem d_Le_standsAt_53 : decode b_Le_standsAt 53 = .ok (.ireturn, 1) := by decide +kernel
theorem p_Le_standsAt_b17 (d : Nat)   (h : gk_H) : gk_P gw_I (d + 4) y_Le_standsAt b_Le_standsAt 4 (some .boolean) [] (f_Le_standsAt_b17   h) 17 [] [] h := by
  unfold f_Le_standsAt_b17
  refine gk_iconst (pc := 17) (0 : Int32) d_Le_standsAt_17 rfl ?_
  exact gk_zret (pc := 18) rfl d_Le_standsAt_18 rfl
theorem p_Le_standsAt_b21 (d : Nat)  : ∀ (fu : Nat) (v0 : Option Nat) (v1 : Option Nat) (v2 : Int32) (v3 : Int32) (h : gk_H), gk_P gw_I (d + 4) y_Le_standsAt b_Le_standsAt 4 (some .boolean) [] (f_Le_standsAt_b21  fu v0 v1 v2 v3 h) 21 [(0, va_rf v0), (1, va_rf v1), (2, .int v2), (3, .int v3)] [] h := by
  intro fu
  induction fu with
  | zero => intros; exact gk_none
  | succ fu q21 =>
    intro v0 v1 v2 v3 h
    rw [f_Le_standsAt_b21]
    refine gk_iload_n (pc := 21) 3 d_Le_standsAt_21 rfl ?_
    refine gk_aload_n (pc := 22) 0 d_Le_standsAt_22 rfl ?_
    refine gk_callV (pc := 23) (d := (d + 3)) (w' := gv_I) (as := []) (n := 0) 0 d_Le_standsAt_23 rfl rfl rfl rfl (Nat.le_of_ble_eq_true rfl) tw_809 tw_613 tw_614 tw_94 cw_St_length hy_St_length (Nat.le_of_ble_eq_true rfl) (p_St_length (d + 2) v0 h) fun x1 h1 => ?_
    refine gk_icmp_ge (pc := 26) 52 d_Le_standsAt_26 rfl (fun _ => ?_) (fun _ => ?_)
    · refine gk_iconst (pc := 52) (1 : Int32) d_Le_standsAt_52 rfl ?_
      exact gk_zret (pc := 53) rfl d_Le_standsAt_53 rfl
    · refine gk_aload_n (pc := 29) 0 d_Le_standsAt_29 rfl ?_
      refine gk_iload_n (pc := 30) 3 d_Le_standsAt_30 rfl ?_
      refine gk_callV (pc := 31) (d := (d + 3)) (w' := gv_I) (as := [.int v3]) (n := 1) 0 d_Le_standsAt_31 rfl rfl rfl rfl (Nat.le_of_ble_eq_true rfl) tw_810 tw_811 tw_812 tw_94 cw_St_charAt hy_St_charAt (Nat.le_of_ble_eq_true rfl) (p_St_charAt d v0 v3 h1) fun x2 h2 => ?_
      refine gk_aload_n (pc := 34) 1 d_Le_standsAt_34 rfl ?_
      refine gk_iload_n (pc := 35) 2 d_Le_standsAt_35 rfl ?_
      refine gk_iload_n (pc := 36) 3 d_Le_standsAt_36 rfl ?_
      refine gk_iadd (pc := 37) d_Le_standsAt_37 ?_
      refine gk_callV (pc := 38) (d := (d + 3)) (w' := gv_I) (as := [.int (v2 + v3)]) (n := 1) 0 d_Le_standsAt_38 rfl rfl rfl rfl (Nat.le_of_ble_eq_true rfl) tw_810 tw_811 tw_812 tw_94 cw_St_charAt hy_St_charAt (Nat.le_of_ble_eq_true rfl) (p_St_charAt d v1 (v2 + v3) h2) fun x3 h3 => ?_
      refine gk_icmp_eq (pc := 41) 46 d_Le_standsAt_41 rfl (fun _ => ?_) (fun _ => ?_)
      · refine gk_iincN (pc := 46) 3 (1 : Int32) (L' := fun x4 => [(3, .int x4), (0, va_rf v0), (1, va_rf v1), (2, .int v2)]) d_Le_standsAt_46 rfl rfl (Nat.le_of_ble_eq_true rfl) (fun _ => rfl) fun x4 => ?_
        refine gk_goto (pc := 49) 21 d_Le_standsAt_49 rfl ?_
        refine gk_weak [1, 2, 3, 0] (L' := [(0, va_rf v0), (1, va_rf v1), (2, .int v2), (3, .int x4)]) rfl ?_
        exact q21 v0 v1 v2 x4 h3
      · refine gk_iconst (pc := 44) (0 : Int32) d_Le_standsAt_44 rfl ?_
        exact gk_zret (pc := 45) rfl d_Le_standsAt_45 rfl
theorem w_Le_standsAt (d : Nat) (a0 : Option Nat) (a1 : Option Nat) (a2 : Int32) (h : gk_H) : gk_P gw_I (d + 4) y_Le_standsAt b_Le_standsAt 4 (some .boolean) [] (f_Le_standsAt a0 a1 a2 h) 0 [(0, va_rf a0), (1, va_rf a1), (2, .int a2)] [] h := by
  unfold f_Le_standsAt
  refine gk_iload_n (pc := 0) 2 d_Le_standsAt_0 rfl ?_
  refine gk_if_lt (pc := 1) 17 d_Le_standsAt_1 rfl (fun _ => ?_) (fun _ => ?_)
  · refine gk_weak [] (L' := []) rfl ?_
    exact p_Le_standsAt_b17 d h
  · refine gk_iload_n (pc := 4) 2 d_Le_standsAt_4 rfl ?_
    refine gk_aload_n (pc := 5) 0 d_Le_standsAt_5 rfl ?_
    refine gk_callV (pc := 6) (d := (d + 3)) (w' := gv_I) (as := []) (n := 0) 0 d_Le_standsAt_6 rfl rfl rfl rfl (Nat.le_of_ble_eq_true rfl) tw_809 tw_613 tw_614 tw_94 cw_St_length hy_St_length (Nat.le_of_ble_eq_true rfl) (p_St_length (d + 2) a0 h) fun x1 h1 => ?_
    refine gk_iadd (pc := 9) d_Le_standsAt_9 ?_
    refine gk_aload_n (pc := 10) 1 d_Le_standsAt_10 rfl ?_
    refine gk_callV (pc := 11) (d := (d + 3)) (w' := gv_I) (as := []) (n := 0) 0 d_Le_standsAt_11 rfl rfl rfl rfl (Nat.le_of_ble_eq_true rfl) tw_809 tw_613 tw_614 tw_94 cw_St_length hy_St_length (Nat.le_of_ble_eq_true rfl) (p_St_length (d + 2) a1 h1) fun x2 h2 => ?_
    refine gk_icmp_le (pc := 14) 19 d_Le_standsAt_14 rfl (fun _ => ?_) (fun _ => ?_)
    · refine gk_iconst (pc := 19) (0 : Int32) d_Le_standsAt_19 rfl ?_
      refine gk_istore_n (pc := 20) (L' := [(3, .int (0 : Int32)), (0, va_rf a0), (1, va_rf a1), (2, .int a2)]) d_Le_standsAt_20 (Nat.le_of_ble_eq_true rfl) rfl ?_
      refine gk_weak [1, 2, 3, 0] (L' := [(0, va_rf a0), (1, va_rf a1), (2, .int a2), (3, .int (0 : Int32))]) rfl ?_
      exact p_Le_standsAt_b21 d gk_F a0 a1 a2 (0 : Int32) h2
    · refine gk_weak [] (L' := []) rfl ?_
      exact p_Le_standsAt_b17 d h2
theorem p_Le_standsAt (d : Nat) (a0 : Option Nat) (a1 : Option Nat) (a2 : Int32) (h : gk_H) : ∀ r h1, f_Le_standsAt a0 a1 a2 h = some (r, h1) → gk_M (d + 4) y_Le_standsAt b_Le_standsAt 4 (some .boolean) [va_rf a0, va_rf a1, .int a2] h (.inl (gv_I r)) h1 :=
  fun r h1 e => gk_M_of2 (by decide +kernel) (by simp [lv_args, gk_cat_rf, gk_catI, gk_catJ, gk_catD, gv_V, gv_I, gv_J, gv_D, gv_R]) (by simp [lg_sl, gk_cat_rf, gk_catI, gk_catJ, gk_catD, gv_V, gv_I, gv_J, gv_D, gv_R]) (w_Le_standsAt d a0 a1 a2 h r h1 e)
theorem d_Wo_firstPlace_0 : decode b_Wo_firstPlace 0 = .ok (.iload_n 2, 1) := by decide +kernel
theorem d_Wo_firstPlace_1 : decode b_Wo_firstPlace 1 = .ok (.istore_n 3, 1) := by decide +kernel
theorem d_Wo_firstPlace_2 : decode b_Wo_firstPlace 2 = .ok (.iload_n 3, 1) := by decide +kernel
theorem d_Wo_firstPlace_3 : decode b_Wo_firstPlace 3 = .ok (.aload_n 1, 1) := by decide +kernel
theorem d_Wo_firstPlace_4 : decode b_Wo_firstPlace 4 = .ok (.invokevirtual 15, 3) := by decide +kernel
theorem d_Wo_firstPlace_7 : decode b_Wo_firstPlace 7 = .ok (.if_icmp .gt 20, 3) := by decide +kernel
theorem d_Wo_firstPlace_10 : decode b_Wo_firstPlace 10 = .ok (.aload_n 0, 1) := by decide +kernel
theorem d_Wo_firstPlace_11 : decode b_Wo_firstPlace 11 = .ok (.aload_n 1, 1) := by decide +kernel
theorem d_Wo_firstPlace_12 : decode b_Wo_firstPlace 12 = .ok (.iload_n 3, 1) := by decide +kernel
theorem d_Wo_firstPlace_13 : decode b_Wo_firstPlace 13 = .ok (.invokestatic 154, 3) := by decide +kernel
theorem d_Wo_firstPlace_16 : decode b_Wo_firstPlace 16 = .ok (.ifCond .eq 5, 3) := by decide +kernel
theorem d_Wo_firstPlace_19 : decode b_Wo_firstPlace 19 = .ok (.iload_n 3, 1) := by decide +kernel
theorem d_Wo_firstPlace_20 : decode b_Wo_firstPlace 20 = .ok (.ireturn, 1) := by decide +kernel
theorem d_Wo_firstPlace_21 : decode b_Wo_firstPlace 21 = .ok (.iinc 3 1, 3) := by decide +kernel
theorem d_Wo_firstPlace_24 : decode b_Wo_firstPlace 24 = .ok (.goto (-22), 3) := by decide +kernel
theorem d_Wo_firstPlace_27 : decode b_Wo_firstPlace 27 = .ok (.iconst (-1), 1) := by decide +kernel
theorem d_Wo_firstPlace_28 : decode b_Wo_firstPlace 28 = .ok (.ireturn, 1) := by decide +kernel
theorem p_Wo_firstPlace_b2 (d : Nat)  : ∀ (fu : Nat) (v0 : Option Nat) (v1 : Option Nat) (v3 : Int32) (h : gk_H), gk_P gw_I (d + 5) y_Wo_firstPlace b_Wo_firstPlace 4 (some .int) [] (f_Wo_firstPlace_b2  fu v0 v1 v3 h) 2 [(0, va_rf v0), (1, va_rf v1), (3, .int v3)] [] h := by
  intro fu
  induction fu with
  | zero => intros; exact gk_none
  | succ fu q2 =>
    intro v0 v1 v3 h
    rw [f_Wo_firstPlace_b2]
    refine gk_iload_n (pc := 2) 2 d_Wo_firstPlace_2 rfl ?_
    refine gk_aload_n (pc := 3) 1 d_Wo_firstPlace_3 rfl ?_
    refine gk_callV (pc := 4) (d := (d + 4)) (w' := gv_I) (as := []) (n := 0) 0 d_Wo_firstPlace_4 rfl rfl rfl rfl (Nat.le_of_ble_eq_true rfl) tw_1348 tw_613 tw_614 tw_94 cw_St_length hy_St_length (Nat.le_of_ble_eq_true rfl) (p_St_length (d + 3) v1 h) fun x1 h1 => ?_
    refine gk_icmp_gt (pc := 7) 27 d_Wo_firstPlace_7 rfl (fun _ => ?_) (fun _ => ?_)
    · refine gk_iconst (pc := 27) (-1 : Int32) d_Wo_firstPlace_27 rfl ?_
      exact gk_iret (pc := 28) rfl d_Wo_firstPlace_28 rfl
    · refine gk_aload_n (pc := 10) 0 d_Wo_firstPlace_10 rfl ?_
      refine gk_aload_n (pc := 11) 1 d_Wo_firstPlace_11 rfl ?_
      refine gk_iload_n (pc := 12) 2 d_Wo_firstPlace_12 rfl ?_
      refine gk_callS (pc := 13) (d := (d + 4)) (w' := gv_I) (as := [va_rf v0, va_rf v1, .int v3]) (n := 3) d_Wo_firstPlace_13 rfl rfl (Nat.le_of_ble_eq_true rfl) tw_1402 tw_1403 tw_116 cw_Le_standsAt hy_Le_standsAt (Nat.le_of_ble_eq_true rfl) (p_Le_standsAt d v0 v1 v3 h1) fun x2 h2 => ?_
      refine gk_if_eq (pc := 16) 21 d_Wo_firstPlace_16 rfl (fun _ => ?_) (fun _ => ?_)
      · refine gk_iincN (pc := 21) 2 (1 : Int32) (L' := fun x3 => [(3, .int x3), (0, va_rf v0), (1, va_rf v1)]) d_Wo_firstPlace_21 rfl rfl (Nat.le_of_ble_eq_true rfl) (fun _ => rfl) fun x3 => ?_
        refine gk_goto (pc := 24) 2 d_Wo_firstPlace_24 rfl ?_
        refine gk_weak [1, 2, 0] (L' := [(0, va_rf v0), (1, va_rf v1), (3, .int x3)]) rfl ?_
        exact q2 v0 v1 x3 h2
      · refine gk_iload_n (pc := 19) 2 d_Wo_firstPlace_19 rfl ?_
        exact gk_iret (pc := 20) rfl d_Wo_firstPlace_20 rfl
theorem w_Wo_firstPlace (d : Nat) (a0 : Option Nat) (a1 : Option Nat) (a2 : Int32) (h : gk_H) : gk_P gw_I (d + 5) y_Wo_firstPlace b_Wo_firstPlace 4 (some .int) [] (f_Wo_firstPlace a0 a1 a2 h) 0 [(0, va_rf a0), (1, va_rf a1), (2, .int a2)] [] h := by
  unfold f_Wo_firstPlace
  refine gk_iload_n (pc := 0) 2 d_Wo_firstPlace_0 rfl ?_
  refine gk_istore_n (pc := 1) (L' := [(3, .int a2), (0, va_rf a0), (1, va_rf a1), (2, .int a2)]) d_Wo_firstPlace_1 (Nat.le_of_ble_eq_true rfl) rfl ?_
  refine gk_weak [1, 2, 0] (L' := [(0, va_rf a0), (1, va_rf a1), (3, .int a2)]) rfl ?_
  exact p_Wo_firstPlace_b2 d gk_F a0 a1 a2 h
theorem p_Wo_firstPlace (d : Nat) (a0 : Option Nat) (a1 : Option Nat) (a2 : Int32) (h : gk_H) : ∀ r h1, f_Wo_firstPlace a0 a1 a2 h = some (r, h1) → gk_M (d + 5) y_Wo_firstPlace b_Wo_firstPlace 4 (some .int) [va_rf a0, va_rf a1, .int a2] h (.inl (gv_I r)) h1 :=
  fun r h1 e => gk_M_of2 (by decide +kernel) (by simp [lv_args, gk_cat_rf, gk_catI, gk_catJ, gk_catD, gv_V, gv_I, gv_J, gv_D, gv_R]) (by simp [lg_sl, gk_cat_rf, gk_catI, gk_catJ, gk_catD, gv_V, gv_I, gv_J, gv_D, gv_R]) (w_Wo_firstPlace d a0 a1 a2 h r h1 e)
theorem d_Wo_found_0 : decode b_Wo_found 0 = .ok (.aload_n 1, 1) := by decide +kernel
theorem d_Wo_found_1 : decode b_Wo_found 1 = .ok (.iconst 0, 1) := by decide +kernel
theorem d_Wo_found_2 : decode b_Wo_found 2 = .ok (.invokevirtual 9, 3) := by decide +kernel
theorem d_Wo_found_5 : decode b_Wo_found 5 = .ok (.astore_n 2, 1) := by decide +kernel
theorem d_Wo_found_6 : decode b_Wo_found 6 = .ok (.aload_n 1, 1) := by decide +kernel
theorem d_Wo_found_7 : decode b_Wo_found 7 = .ok (.iconst 1, 1) := by decide +kernel
theorem d_Wo_found_8 : decode b_Wo_found 8 = .ok (.invokevirtual 9, 3) := by decide +kernel
theorem d_Wo_found_11 : decode b_Wo_found 11 = .ok (.astore_n 3, 1) := by decide +kernel
theorem d_Wo_found_12 : decode b_Wo_found 12 = .ok (.aload_n 1, 1) := by decide +kernel
theorem d_Wo_found_13 : decode b_Wo_found 13 = .ok (.iconst 2, 1) := by decide +kernel
theorem d_Wo_found_14 : decode b_Wo_found 14 = .ok (.lconst 1, 1) := by decide +kernel
theorem d_Wo_found_15 : decode b_Wo_found 15 = .ok (.invokevirtual 27, 3) := by decide +kernel
theorem d_Wo_found_18 : decode b_Wo_found 18 = .ok (.lstore 4, 2) := by decide +kernel
theorem d_Wo_found_20 : decode b_Wo_found 20 = .ok (.lload 4, 2) := by decide +kernel
theorem d_Wo_found_22 : decode b_Wo_found 22 = .ok (.lconst 1, 1) := by decide +kernel
theorem d_Wo_found_23 : decode b_Wo_found 23 = .ok (.lcmp, 1) := by decide +kernel
theorem d_Wo_found_24 : decode b_Wo_found 24 = .ok (.ifCond .lt 16, 3) := by decide +kernel
theorem d_Wo_found_27 : decode b_Wo_found 27 = .ok (.lload 4, 2) := by decide +kernel
theorem d_Wo_found_29 : decode b_Wo_found 29 = .ok (.aload_n 3, 1) := by decide +kernel
theorem d_Wo_found_30 : decode b_Wo_found 30 = .ok (.invokevirtual 15, 3) := by decide +kernel
theorem d_Wo_found_33 : decode b_Wo_found 33 = .ok (.iconst 1, 1) := by decide +kernel
theorem d_Wo_found_34 : decode b_Wo_found 34 = .ok (.iadd, 1) := by decide +kernel
theorem d_Wo_found_35 : decode b_Wo_found 35 = .ok (.i2l, 1) := by decide +kernel
theorem d_Wo_found_36 : decode b_Wo_found 36 = .ok (.lcmp, 1) := by decide +kernel
theorem d_Wo_found_37 : decode b_Wo_found 37 = .ok (.ifCond .le 8, 3) := by decide +kernel
theorem d_Wo_found_40 : decode b_Wo_found 40 = .ok (.iconst 3, 1) := by decide +kernel
theorem d_Wo_found_41 : decode b_Wo_found 41 = .ok (.invokestatic 89, 3) := by decide +kernel
theorem d_Wo_found_44 : decode b_Wo_found 44 = .ok (.areturn, 1) := by decide +kernel
theorem d_Wo_found_45 : decode b_Wo_found 45 = .ok (.iload_n 0, 1) := by decide +kernel
theorem d_Wo_found_46 : decode b_Wo_found 46 = .ok (.bipush 69, 2) := by decide +kernel
theorem d_Wo_found_48 : decode b_Wo_found 48 = .ok (.if_icmp .ne 29, 3) := by decide +kernel
theorem d_Wo_found_51 : decode b_Wo_found 51 = .ok (.aload_n 1, 1) := by decide +kernel
theorem d_Wo_found_52 : decode b_Wo_found 52 = .ok (.getfield 158, 3) := by decide +kernel
theorem d_Wo_found_55 : decode b_Wo_found 55 = .ok (.aload_n 2, 1) := by decide +kernel
theorem d_Wo_found_56 : decode b_Wo_found 56 = .ok (.invokevirtual 162, 3) := by decide +kernel
theorem d_Wo_found_59 : decode b_Wo_found 59 = .ok (.aload_n 1, 1) := by decide +kernel
theorem d_Wo_found_60 : decode b_Wo_found 60 = .ok (.getfield 158, 3) := by decide +kernel
theorem d_Wo_found_63 : decode b_Wo_found 63 = .ok (.aload_n 3, 1) := by decide +kernel
theorem d_Wo_found_64 : decode b_Wo_found 64 = .ok (.lload 4, 2) := by decide +kernel
theorem d_Wo_found_66 : decode b_Wo_found 66 = .ok (.l2i, 1) := by decide +kernel
theorem d_Wo_found_67 : decode b_Wo_found 67 = .ok (.iconst 1, 1) := by decide +kernel
theorem d_Wo_found_68 : decode b_Wo_found 68 = .ok (.isub, 1) := by decide +kernel
theorem d_Wo_found_69 : decode b_Wo_found 69 = .ok (.invokevirtual 168, 3) := by decide +kernel
theorem d_Wo_found_72 : decode b_Wo_found 72 = .ok (.istore 6, 2) := by decide +kernel
theorem d_Wo_found_74 : decode b_Wo_found 74 = .ok (.goto 15, 3) := by decide +kernel
theorem d_Wo_found_77 : decode b_Wo_found 77 = .ok (.aload_n 2, 1) := by decide +kernel
theorem d_Wo_found_78 : decode b_Wo_found 78 = .ok (.aload_n 3, 1) := by decide +kernel
theorem d_Wo_found_79 : decode b_Wo_found 79 = .ok (.lload 4, 2) := by decide +kernel
theorem d_Wo_found_81 : decode b_Wo_found 81 = .ok (.l2i, 1) := by decide +kernel
theorem d_Wo_found_82 : decode b_Wo_found 82 = .ok (.iconst 1, 1) := by decide +kernel
theorem d_Wo_found_83 : decode b_Wo_found 83 = .ok (.isub, 1) := by decide +kernel
theorem d_Wo_found_84 : decode b_Wo_found 84 = .ok (.invokestatic 172, 3) := by decide +kernel
theorem d_Wo_found_87 : decode b_Wo_found 87 = .ok (.istore 6, 2) := by decide +kernel
theorem d_Wo_found_89 : decode b_Wo_found 89 = .ok (.iload 6, 2) := by decide +kernel
theorem d_Wo_found_91 : decode b_Wo_found 91 = .ok (.iconst (-1), 1) := by decide +kernel
theorem d_Wo_found_92 : decode b_Wo_found 92 = .ok (.if_icmp .ne 10, 3) := by decide +kernel
theorem d_Wo_found_95 : decode b_Wo_found 95 = .ok (.iconst 3, 1) := by decide +kernel
theorem d_Wo_found_96 : decode b_Wo_found 96 = .ok (.invokestatic 89, 3) := by decide +kernel
theorem d_Wo_found_99 : decode b_Wo_found 99 = .ok (.goto 11, 3) := by decide +kernel
theorem d_Wo_found_102 : decode b_Wo_found 102 = .ok (.iload 6, 2) := by decide +kernel
theorem d_Wo_found_104 : decode b_Wo_found 104 = .ok (.iconst 1, 1) := by decide +kernel
theorem d_Wo_found_105 : decode b_Wo_found 105 = .ok (.iadd, 1) := by decide +kernel
theorem d_Wo_found_106 : decode b_Wo_found 106 = .ok (.i2d, 1) := by decide +kernel
theorem d_Wo_found_107 : decode b_Wo_found 107 = .ok (.invokestatic 21, 3) := by decide +kernel
theorem d_Wo_found_110 : decode b_Wo_found 110 = .ok (.areturn, 1) := by decide +kernel
theorem p_Wo_found_b40 (d : Nat)   (h : gk_H) : gk_P gw_R (d + 9) y_Wo_found b_Wo_found 7 (some (.object "ValueAlgebra$Value")) [] (f_Wo_found_b40   h) 40 [] [] h := by
  unfold f_Wo_found_b40
  refine gk_iconst (pc := 40) (3 : Int32) d_Wo_found_40 rfl ?_
  refine gk_callS (pc := 41) (d := (d + 8)) (w' := gv_R) (as := [.int (3 : Int32)]) (n := 1) d_Wo_found_41 rfl rfl (Nat.le_of_ble_eq_true rfl) tw_1354 tw_236 tw_97 cw_Va_ofError hy_Va_ofError (Nat.le_of_ble_eq_true rfl) (p_Va_ofError (d + 6) (3 : Int32) h) fun x1 h1 => ?_
  exact gk_aret (pc := 44) rfl d_Wo_found_44 rfl (Or.inl ⟨_, rfl⟩)
theorem p_Wo_found_b110 (d : Nat)  (s0 : Option Nat) (h : gk_H) : gk_P gw_R (d + 9) y_Wo_found b_Wo_found 7 (some (.object "ValueAlgebra$Value")) [] (f_Wo_found_b110  s0 h) 110 [] [va_rf s0] h := by
  unfold f_Wo_found_b110
  exact gk_aret (pc := 110) rfl d_Wo_found_110 rfl (Or.inl ⟨_, rfl⟩)
theorem p_Wo_found_b89 (d : Nat)  (v6 : Int32) (h : gk_H) : gk_P gw_R (d + 9) y_Wo_found b_Wo_found 7 (some (.object "ValueAlgebra$Value")) [] (f_Wo_found_b89  v6 h) 89 [(6, .int v6)] [] h := by
  unfold f_Wo_found_b89
  refine gk_iload (pc := 89) 0 d_Wo_found_89 rfl ?_
  refine gk_iconst (pc := 91) (-1 : Int32) d_Wo_found_91 rfl ?_
  refine gk_icmp_ne (pc := 92) 102 d_Wo_found_92 rfl (fun _ => ?_) (fun _ => ?_)
  · refine gk_iconst (pc := 95) (3 : Int32) d_Wo_found_95 rfl ?_
    refine gk_callS (pc := 96) (d := (d + 8)) (w' := gv_R) (as := [.int (3 : Int32)]) (n := 1) d_Wo_found_96 rfl rfl (Nat.le_of_ble_eq_true rfl) tw_1354 tw_236 tw_97 cw_Va_ofError hy_Va_ofError (Nat.le_of_ble_eq_true rfl) (p_Va_ofError (d + 6) (3 : Int32) h) fun x1 h1 => ?_
    refine gk_goto (pc := 99) 110 d_Wo_found_99 rfl ?_
    refine gk_weak [] (L' := []) rfl ?_
    exact p_Wo_found_b110 d x1 h1
  · refine gk_iload (pc := 102) 0 d_Wo_found_102 rfl ?_
    refine gk_iconst (pc := 104) (1 : Int32) d_Wo_found_104 rfl ?_
    refine gk_iadd (pc := 105) d_Wo_found_105 ?_
    refine gk_i2d (pc := 106) d_Wo_found_106 ?_
    refine gk_callS (pc := 107) (d := (d + 8)) (w' := gv_R) (as := [.double (FP.i2d (v6 + (1 : Int32)))]) (n := 1) d_Wo_found_107 rfl rfl (Nat.le_of_ble_eq_true rfl) tw_1349 tw_317 tw_97 cw_Va_ofNumber hy_Va_ofNumber (Nat.le_of_ble_eq_true rfl) (p_Va_ofNumber (d + 6) (FP.i2d (v6 + (1 : Int32))) h) fun x2 h2 => ?_
    refine gk_weak [] (L' := []) rfl ?_
    exact p_Wo_found_b110 d x2 h2
theorem w_Wo_found (d : Nat) (a0 : Int32) (a1 : Option Nat) (h : gk_H) : gk_P gw_R (d + 9) y_Wo_found b_Wo_found 7 (some (.object "ValueAlgebra$Value")) [] (f_Wo_found a0 a1 h) 0 [(0, .int a0), (1, va_rf a1)] [] h := by
  unfold f_Wo_found
  refine gk_aload_n (pc := 0) 1 d_Wo_found_0 rfl ?_
  refine gk_iconst (pc := 1) (0 : Int32) d_Wo_found_1 rfl ?_
  refine gk_callV (pc := 2) (d := (d + 8)) (w' := gv_R) (as := [.int (0 : Int32)]) (n := 1) 4 d_Wo_found_2 rfl rfl rfl rfl (Nat.le_of_ble_eq_true rfl) tw_1347 tw_886 tw_887 tw_96 cw_Ar_lettersOf hy_Ar_lettersOf (Nat.le_of_ble_eq_true rfl) (p_Ar_lettersOf d a1 (0 : Int32) h) fun x1 h1 => ?_
  refine gk_astore_n (pc := 5) (L' := [(2, va_rf x1), (0, .int a0), (1, va_rf a1)]) d_Wo_found_5 (Nat.le_of_ble_eq_true rfl) (by simp [gk_s1, gk_s2, gk_cat_rf, gk_catI, gk_catJ, gk_catD] <;> decide) ?_
  refine gk_aload_n (pc := 6) 2 d_Wo_found_6 rfl ?_
  refine gk_iconst (pc := 7) (1 : Int32) d_Wo_found_7 rfl ?_
  refine gk_callV (pc := 8) (d := (d + 8)) (w' := gv_R) (as := [.int (1 : Int32)]) (n := 1) 4 d_Wo_found_8 rfl rfl rfl rfl (Nat.le_of_ble_eq_true rfl) tw_1347 tw_886 tw_887 tw_96 cw_Ar_lettersOf hy_Ar_lettersOf (Nat.le_of_ble_eq_true rfl) (p_Ar_lettersOf d a1 (1 : Int32) h1) fun x2 h2 => ?_
  refine gk_astore_n (pc := 11) (L' := [(3, va_rf x2), (2, va_rf x1), (0, .int a0), (1, va_rf a1)]) d_Wo_found_11 (Nat.le_of_ble_eq_true rfl) (by simp [gk_s1, gk_s2, gk_cat_rf, gk_catI, gk_catJ, gk_catD] <;> decide) ?_
  refine gk_aload_n (pc := 12) 3 d_Wo_found_12 rfl ?_
  refine gk_iconst (pc := 13) (2 : Int32) d_Wo_found_13 rfl ?_
  refine gk_lconst (pc := 14) (1 : Int64) d_Wo_found_14 rfl ?_
  refine gk_callV (pc := 15) (d := (d + 8)) (w' := gv_J) (as := [.int (2 : Int32), .long (1 : Int64)]) (n := 2) 4 d_Wo_found_15 rfl rfl rfl rfl (Nat.le_of_ble_eq_true rfl) tw_1350 tw_1286 tw_1287 tw_96 cw_Ar_wholeOr hy_Ar_wholeOr (Nat.le_of_ble_eq_true rfl) (p_Ar_wholeOr d a1 (2 : Int32) (1 : Int64) h2) fun x3 h3 => ?_
  refine gk_lstore (pc := 18) (L' := [(4, .long x3), (3, va_rf x2), (2, va_rf x1), (0, .int a0), (1, va_rf a1)]) d_Wo_found_18 (Nat.le_of_ble_eq_true rfl) (by simp [gk_s1, gk_s2, gk_cat_rf, gk_catI, gk_catJ, gk_catD] <;> decide) ?_
  refine gk_lload (pc := 20) 0 d_Wo_found_20 rfl ?_
  refine gk_lconst (pc := 22) (1 : Int64) d_Wo_found_22 rfl ?_
  refine gk_lcmp (pc := 23) d_Wo_found_23 ?_
  refine gk_if_lt (pc := 24) 40 d_Wo_found_24 rfl (fun _ => ?_) (fun _ => ?_)
  · refine gk_weak [] (L' := []) rfl ?_
    exact p_Wo_found_b40 d h3
  · refine gk_lload (pc := 27) 0 d_Wo_found_27 rfl ?_
    refine gk_aload_n (pc := 29) 1 d_Wo_found_29 rfl ?_
    refine gk_callV (pc := 30) (d := (d + 8)) (w' := gv_I) (as := []) (n := 0) 0 d_Wo_found_30 rfl rfl rfl rfl (Nat.le_of_ble_eq_true rfl) tw_1348 tw_613 tw_614 tw_94 cw_St_length hy_St_length (Nat.le_of_ble_eq_true rfl) (p_St_length (d + 7) x2 h3) fun x4 h4 => ?_
    refine gk_iconst (pc := 33) (1 : Int32) d_Wo_found_33 rfl ?_
    refine gk_iadd (pc := 34) d_Wo_found_34 ?_
    refine gk_i2l (pc := 35) d_Wo_found_35 ?_
    refine gk_lcmp (pc := 36) d_Wo_found_36 ?_
    refine gk_if_le (pc := 37) 45 d_Wo_found_37 rfl (fun _ => ?_) (fun _ => ?_)
    · refine gk_iload_n (pc := 45) 3 d_Wo_found_45 rfl ?_
      refine gk_bipush (pc := 46) (69 : Int32) d_Wo_found_46 rfl ?_
      refine gk_icmp_ne (pc := 48) 77 d_Wo_found_48 rfl (fun _ => ?_) (fun _ => ?_)
      · refine gk_aload_n (pc := 51) 4 d_Wo_found_51 rfl ?_
        refine gk_getR (pc := 52) 4 8 d_Wo_found_52 rfl (Nat.le_of_ble_eq_true rfl) tw_270 fun x5 => ?_
        refine gk_aload_n (pc := 55) 2 d_Wo_found_55 rfl ?_
        refine gk_callV (pc := 56) (d := (d + 8)) (w' := gv_V) (as := [va_rf x1]) (n := 1) 3 d_Wo_found_56 rfl rfl rfl rfl (Nat.le_of_ble_eq_true rfl) tw_1411 tw_1150 tw_1151 tw_98 cw_Li_prepare hy_Li_prepare (Nat.le_of_ble_eq_true rfl) (p_Li_prepare (d + 4) x5 x1 h4) fun _ h5 => ?_
        refine gk_aload_n (pc := 59) 4 d_Wo_found_59 rfl ?_
        refine gk_getR (pc := 60) 4 8 d_Wo_found_60 rfl (Nat.le_of_ble_eq_true rfl) tw_270 fun x6 => ?_
        refine gk_aload_n (pc := 63) 1 d_Wo_found_63 rfl ?_
        refine gk_lload (pc := 64) 0 d_Wo_found_64 rfl ?_
        refine gk_l2i (pc := 66) d_Wo_found_66 ?_
        refine gk_iconst (pc := 67) (1 : Int32) d_Wo_found_67 rfl ?_
        refine gk_isub (pc := 68) d_Wo_found_68 ?_
        refine gk_callV (pc := 69) (d := (d + 8)) (w' := gv_I) (as := [va_rf x2, .int ((Int64.toInt32 x3) - (1 : Int32))]) (n := 2) 3 d_Wo_found_69 rfl rfl rfl rfl (Nat.le_of_ble_eq_true rfl) tw_1412 tw_1413 tw_1414 tw_98 cw_Li_firstPlace hy_Li_firstPlace (Nat.le_of_ble_eq_true rfl) (p_Li_firstPlace (d + 3) x6 x2 ((Int64.toInt32 x3) - (1 : Int32)) h5) fun x7 h6 => ?_
        refine gk_istore (pc := 72) (L' := [(6, .int x7), (4, .long x3), (3, va_rf x2), (2, va_rf x1), (0, .int a0), (1, va_rf a1)]) d_Wo_found_72 (Nat.le_of_ble_eq_true rfl) rfl ?_
        refine gk_goto (pc := 74) 89 d_Wo_found_74 rfl ?_
        refine gk_weak [0] (L' := [(6, .int x7)]) rfl ?_
        exact p_Wo_found_b89 d x7 h6
      · refine gk_aload_n (pc := 77) 2 d_Wo_found_77 rfl ?_
        refine gk_aload_n (pc := 78) 1 d_Wo_found_78 rfl ?_
        refine gk_lload (pc := 79) 0 d_Wo_found_79 rfl ?_
        refine gk_l2i (pc := 81) d_Wo_found_81 ?_
        refine gk_iconst (pc := 82) (1 : Int32) d_Wo_found_82 rfl ?_
        refine gk_isub (pc := 83) d_Wo_found_83 ?_
        refine gk_callS (pc := 84) (d := (d + 8)) (w' := gv_I) (as := [va_rf x1, va_rf x2, .int ((Int64.toInt32 x3) - (1 : Int32))]) (n := 3) d_Wo_found_84 rfl rfl (Nat.le_of_ble_eq_true rfl) tw_1417 tw_1418 tw_122 cw_Wo_firstPlace hy_Wo_firstPlace (Nat.le_of_ble_eq_true rfl) (p_Wo_firstPlace (d + 3) x1 x2 ((Int64.toInt32 x3) - (1 : Int32)) h4) fun x8 h7 => ?_
        refine gk_istore (pc := 87) (L' := [(6, .int x8), (4, .long x3), (3, va_rf x2), (2, va_rf x1), (0, .int a0), (1, va_rf a1)]) d_Wo_found_87 (Nat.le_of_ble_eq_true rfl) rfl ?_
        refine gk_weak [0] (L' := [(6, .int x8)]) rfl ?_
        exact p_Wo_found_b89 d x8 h7
    · refine gk_weak [] (L' := []) rfl ?_
      exact p_Wo_found_b40 d h4
theorem p_Wo_found (d : Nat) (a0 : Int32) (a1 : Option Nat) (h : gk_H) : ∀ r h1, f_Wo_found a0 a1 h = some (r, h1) → gk_M (d + 9) y_Wo_found b_Wo_found 7 (some (.object "ValueAlgebra$Value")) [.int a0, va_rf a1] h (.inl (gv_R r)) h1 :=
  fun r h1 e => gk_M_of2 (by decide +kernel) (by simp [lv_args, gk_cat_rf, gk_catI, gk_catJ, gk_catD, gv_V, gv_I, gv_J, gv_D, gv_R]) (by simp [lg_sl, gk_cat_rf, gk_catI, gk_catJ, gk_catD, gv_V, gv_I, gv_J, gv_D, gv_R]) (w_Wo_found d a0 a1 h r h1 e)
theorem d_Wo_part_0 : decode b_Wo_part 0 = .ok (.aload_n 0, 1) := by decide +kernel
theorem d_Wo_part_1 : decode b_Wo_part 1 = .ok (.invokevirtual 15, 3) := by decide +kernel
theorem d_Wo_part_4 : decode b_Wo_part 4 = .ok (.istore 5, 2) := by decide +kernel
theorem d_Wo_part_6 : decode b_Wo_part 6 = .ok (.lconst 0, 1) := by decide +kernel
theorem d_Wo_part_7 : decode b_Wo_part 7 = .ok (.lload_n 1, 1) := by decide +kernel
theorem d_Wo_part_8 : decode b_Wo_part 8 = .ok (.iload 5, 2) := by decide +kernel
theorem d_Wo_part_10 : decode b_Wo_part 10 = .ok (.i2l, 1) := by decide +kernel
theorem d_Wo_part_11 : decode b_Wo_part 11 = .ok (.invokestatic 93, 3) := by decide +kernel
theorem d_Wo_part_14 : decode b_Wo_part 14 = .ok (.invokestatic 99, 3) := by decide +kernel
theorem d_Wo_part_17 : decode b_Wo_part 17 = .ok (.l2i, 1) := by decide +kernel
theorem d_Wo_part_18 : decode b_Wo_part 18 = .ok (.istore 6, 2) := by decide +kernel
theorem d_Wo_part_20 : decode b_Wo_part 20 = .ok (.iload 6, 2) := by decide +kernel
theorem d_Wo_part_22 : decode b_Wo_part 22 = .ok (.i2l, 1) := by decide +kernel
theorem d_Wo_part_23 : decode b_Wo_part 23 = .ok (.lload_n 1, 1) := by decide +kernel
theorem d_Wo_part_24 : decode b_Wo_part 24 = .ok (.lload_n 3, 1) := by decide +kernel
theorem d_Wo_part_25 : decode b_Wo_part 25 = .ok (.ladd, 1) := by decide +kernel
theorem d_Wo_part_26 : decode b_Wo_part 26 = .ok (.iload 5, 2) := by decide +kernel
theorem d_Wo_part_28 : decode b_Wo_part 28 = .ok (.i2l, 1) := by decide +kernel
theorem d_Wo_part_29 : decode b_Wo_part 29 = .ok (.invokestatic 93, 3) := by decide +kernel
theorem d_Wo_part_32 : decode b_Wo_part 32 = .ok (.invokestatic 99, 3) := by decide +kernel
theorem d_Wo_part_35 : decode b_Wo_part 35 = .ok (.l2i, 1) := by decide +kernel
theorem d_Wo_part_36 : decode b_Wo_part 36 = .ok (.istore 7, 2) := by decide +kernel
theorem d_Wo_part_38 : decode b_Wo_part 38 = .ok (.aload_n 0, 1) := by decide +kernel
theorem d_Wo_part_39 : decode b_Wo_part 39 = .ok (.iload 6, 2) := by decide +kernel
theorem d_Wo_part_41 : decode b_Wo_part 41 = .ok (.iload 7, 2) := by decide +kernel
theorem d_Wo_part_43 : decode b_Wo_part 43 = .ok (.invokevirtual 102, 3) := by decide +kernel
theorem d_Wo_part_46 : decode b_Wo_part 46 = .ok (.areturn, 1) := by decide +kernel
theorem w_Wo_part (d : Nat) (a0 : Option Nat) (a1 : Int64) (a2 : Int64) (h : gk_H) : gk_P gw_R (d + 5) y_Wo_part b_Wo_part 8 (some (.object "java/lang/String")) [] (f_Wo_part a0 a1 a2 h) 0 [(0, va_rf a0), (1, .long a1), (3, .long a2)] [] h := by
  unfold f_Wo_part
  refine gk_aload_n (pc := 0) 0 d_Wo_part_0 rfl ?_
  refine gk_callV (pc := 1) (d := (d + 4)) (w' := gv_I) (as := []) (n := 0) 0 d_Wo_part_1 rfl rfl rfl rfl (Nat.le_of_ble_eq_true rfl) tw_1348 tw_613 tw_614 tw_94 cw_St_length hy_St_length (Nat.le_of_ble_eq_true rfl) (p_St_length (d + 3) a0 h) fun x1 h1 => ?_
  refine gk_istore (pc := 4) (L' := [(5, .int x1), (0, va_rf a0), (1, .long a1), (3, .long a2)]) d_Wo_part_4 (Nat.le_of_ble_eq_true rfl) rfl ?_
  refine gk_lconst (pc := 6) (0 : Int64) d_Wo_part_6 rfl ?_
  refine gk_lload_n (pc := 7) 2 d_Wo_part_7 rfl ?_
  refine gk_iload (pc := 8) 0 d_Wo_part_8 rfl ?_
  refine gk_i2l (pc := 10) d_Wo_part_10 ?_
  refine gk_callS (pc := 11) (d := (d + 4)) (w' := gv_J) (as := [.long a1, .long (Int32.toInt64 x1)]) (n := 2) d_Wo_part_11 rfl rfl (Nat.le_of_ble_eq_true rfl) tw_1361 tw_1362 tw_106 cw_Ma_min_JJ hy_Ma_min_JJ (Nat.le_of_ble_eq_true rfl) (p_Ma_min_JJ (d + 4) a1 (Int32.toInt64 x1) h1) fun x2 h2 => ?_
  refine gk_callS (pc := 14) (d := (d + 4)) (w' := gv_J) (as := [.long (0 : Int64), .long x2]) (n := 2) d_Wo_part_14 rfl rfl (Nat.le_of_ble_eq_true rfl) tw_1355 tw_1356 tw_106 cw_Ma_max_JJ hy_Ma_max_JJ (Nat.le_of_ble_eq_true rfl) (p_Ma_max_JJ (d + 4) (0 : Int64) x2 h2) fun x3 h3 => ?_
  refine gk_l2i (pc := 17) d_Wo_part_17 ?_
  refine gk_topI (pc := 18) fun x4 => ?_
  refine gk_istore (pc := 18) (L' := [(6, .int x4), (5, .int x1), (0, va_rf a0), (1, .long a1), (3, .long a2)]) d_Wo_part_18 (Nat.le_of_ble_eq_true rfl) rfl ?_
  refine gk_iload (pc := 20) 0 d_Wo_part_20 rfl ?_
  refine gk_i2l (pc := 22) d_Wo_part_22 ?_
  refine gk_lload_n (pc := 23) 3 d_Wo_part_23 rfl ?_
  refine gk_lload_n (pc := 24) 4 d_Wo_part_24 rfl ?_
  refine gk_ladd (pc := 25) d_Wo_part_25 ?_
  refine gk_iload (pc := 26) 1 d_Wo_part_26 rfl ?_
  refine gk_i2l (pc := 28) d_Wo_part_28 ?_
  refine gk_callS (pc := 29) (d := (d + 4)) (w' := gv_J) (as := [.long (a1 + a2), .long (Int32.toInt64 x1)]) (n := 2) d_Wo_part_29 rfl rfl (Nat.le_of_ble_eq_true rfl) tw_1361 tw_1362 tw_106 cw_Ma_min_JJ hy_Ma_min_JJ (Nat.le_of_ble_eq_true rfl) (p_Ma_min_JJ (d + 4) (a1 + a2) (Int32.toInt64 x1) h3) fun x5 h4 => ?_
  refine gk_callS (pc := 32) (d := (d + 4)) (w' := gv_J) (as := [.long (Int32.toInt64 x4), .long x5]) (n := 2) d_Wo_part_32 rfl rfl (Nat.le_of_ble_eq_true rfl) tw_1355 tw_1356 tw_106 cw_Ma_max_JJ hy_Ma_max_JJ (Nat.le_of_ble_eq_true rfl) (p_Ma_max_JJ (d + 4) (Int32.toInt64 x4) x5 h4) fun x6 h5 => ?_
  refine gk_l2i (pc := 35) d_Wo_part_35 ?_
  refine gk_topI (pc := 36) fun x7 => ?_
  refine gk_istore (pc := 36) (L' := [(7, .int x7), (6, .int x4), (5, .int x1), (0, va_rf a0), (1, .long a1), (3, .long a2)]) d_Wo_part_36 (Nat.le_of_ble_eq_true rfl) rfl ?_
  refine gk_aload_n (pc := 38) 3 d_Wo_part_38 rfl ?_
  refine gk_iload (pc := 39) 1 d_Wo_part_39 rfl ?_
  refine gk_iload (pc := 41) 0 d_Wo_part_41 rfl ?_
  refine gk_callV (pc := 43) (d := (d + 4)) (w' := gv_R) (as := [.int x4, .int x7]) (n := 2) 0 d_Wo_part_43 rfl rfl rfl rfl (Nat.le_of_ble_eq_true rfl) tw_1364 tw_1124 tw_1125 tw_94 cw_St_substring_II hy_St_substring_II (Nat.le_of_ble_eq_true rfl) (p_St_substring_II d a0 x4 x7 h5) fun x8 h6 => ?_
  exact gk_aret (pc := 46) rfl d_Wo_part_46 rfl (Or.inl ⟨_, rfl⟩)
theorem p_Wo_part (d : Nat) (a0 : Option Nat) (a1 : Int64) (a2 : Int64) (h : gk_H) : ∀ r h1, f_Wo_part a0 a1 a2 h = some (r, h1) → gk_M (d + 5) y_Wo_part b_Wo_part 8 (some (.object "java/lang/String")) [va_rf a0, .long a1, .long a2] h (.inl (gv_R r)) h1 :=
  fun r h1 e => gk_M_of2 (by decide +kernel) (by simp [lv_args, gk_cat_rf, gk_catI, gk_catJ, gk_catD, gv_V, gv_I, gv_J, gv_D, gv_R]) (by simp [lg_sl, gk_cat_rf, gk_catI, gk_catJ, gk_catD, gv_V, gv_I, gv_J, gv_D, gv_R]) (w_Wo_part d a0 a1 a2 h r h1 e)
theorem d_Wo_replaced_0 : decode b_Wo_replaced 0 = .ok (.aload_n 0, 1) := by decide +kernel
theorem d_Wo_replaced_1 : decode b_Wo_replaced 1 = .ok (.iconst 0, 1) := by decide +kernel
theorem d_Wo_replaced_2 : decode b_Wo_replaced 2 = .ok (.invokevirtual 9, 3) := by decide +kernel
theorem d_Wo_replaced_5 : decode b_Wo_replaced 5 = .ok (.astore_n 1, 1) := by decide +kernel
theorem d_Wo_replaced_6 : decode b_Wo_replaced 6 = .ok (.aload_n 0, 1) := by decide +kernel
theorem d_Wo_replaced_7 : decode b_Wo_replaced 7 = .ok (.iconst 1, 1) := by decide +kernel
theorem d_Wo_replaced_8 : decode b_Wo_replaced 8 = .ok (.invokevirtual 37, 3) := by decide +kernel
theorem d_Wo_replaced_11 : decode b_Wo_replaced 11 = .ok (.lstore_n 2, 1) := by decide +kernel
theorem d_Wo_replaced_12 : decode b_Wo_replaced 12 = .ok (.aload_n 0, 1) := by decide +kernel
theorem d_Wo_replaced_13 : decode b_Wo_replaced 13 = .ok (.iconst 2, 1) := by decide +kernel
theorem d_Wo_replaced_14 : decode b_Wo_replaced 14 = .ok (.invokevirtual 37, 3) := by decide +kernel
theorem d_Wo_replaced_17 : decode b_Wo_replaced 17 = .ok (.lstore 4, 2) := by decide +kernel
theorem d_Wo_replaced_19 : decode b_Wo_replaced 19 = .ok (.aload_n 0, 1) := by decide +kernel
theorem d_Wo_replaced_20 : decode b_Wo_replaced 20 = .ok (.iconst 3, 1) := by decide +kernel
theorem d_Wo_replaced_21 : decode b_Wo_replaced 21 = .ok (.invokevirtual 9, 3) := by decide +kernel
theorem d_Wo_replaced_24 : decode b_Wo_replaced 24 = .ok (.astore 6, 2) := by decide +kernel
theorem d_Wo_replaced_26 : decode b_Wo_replaced 26 = .ok (.lload_n 2, 1) := by decide +kernel
theorem d_Wo_replaced_27 : decode b_Wo_replaced 27 = .ok (.lconst 1, 1) := by decide +kernel
theorem d_Wo_replaced_28 : decode b_Wo_replaced 28 = .ok (.lcmp, 1) := by decide +kernel
theorem d_Wo_replaced_29 : decode b_Wo_replaced 29 = .ok (.ifCond .lt 10, 3) := by decide +kernel
theorem d_Wo_replaced_32 : decode b_Wo_replaced 32 = .ok (.lload 4, 2) := by decide +kernel
theorem d_Wo_replaced_34 : decode b_Wo_replaced 34 = .ok (.lconst 0, 1) := by decide +kernel
theorem d_Wo_replaced_35 : decode b_Wo_replaced 35 = .ok (.lcmp, 1) := by decide +kernel
theorem d_Wo_replaced_36 : decode b_Wo_replaced 36 = .ok (.ifCond .ge 8, 3) := by decide +kernel
theorem d_Wo_replaced_39 : decode b_Wo_replaced 39 = .ok (.iconst 3, 1) := by decide +kernel
theorem d_Wo_replaced_40 : decode b_Wo_replaced 40 = .ok (.invokestatic 89, 3) := by decide +kernel
theorem d_Wo_replaced_43 : decode b_Wo_replaced 43 = .ok (.areturn, 1) := by decide +kernel
theorem d_Wo_replaced_44 : decode b_Wo_replaced 44 = .ok (.new 113, 3) := by decide +kernel
theorem d_Wo_replaced_47 : decode b_Wo_replaced 47 = .ok (.dup, 1) := by decide +kernel
theorem d_Wo_replaced_48 : decode b_Wo_replaced 48 = .ok (.invokespecial 115, 3) := by decide +kernel
theorem d_Wo_replaced_51 : decode b_Wo_replaced 51 = .ok (.astore 7, 2) := by decide +kernel
theorem d_Wo_replaced_53 : decode b_Wo_replaced 53 = .ok (.aload 7, 2) := by decide +kernel
theorem d_Wo_replaced_55 : decode b_Wo_replaced 55 = .ok (.aload_n 1, 1) := by decide +kernel
theorem d_Wo_replaced_56 : decode b_Wo_replaced 56 = .ok (.lconst 0, 1) := by decide +kernel
theorem d_Wo_replaced_57 : decode b_Wo_replaced 57 = .ok (.lload_n 2, 1) := by decide +kernel
theorem d_Wo_replaced_58 : decode b_Wo_replaced 58 = .ok (.lconst 1, 1) := by decide +kernel
theorem d_Wo_replaced_59 : decode b_Wo_replaced 59 = .ok (.lsub, 1) := by decide +kernel
theorem d_Wo_replaced_60 : decode b_Wo_replaced 60 = .ok (.invokestatic 106, 3) := by decide +kernel
theorem d_Wo_replaced_63 : decode b_Wo_replaced 63 = .ok (.invokevirtual 145, 3) := by decide +kernel
theorem d_Wo_replaced_66 : decode b_Wo_replaced 66 = .ok (.pop, 1) := by decide +kernel
theorem d_Wo_replaced_67 : decode b_Wo_replaced 67 = .ok (.aload 7, 2) := by decide +kernel
theorem d_Wo_replaced_69 : decode b_Wo_replaced 69 = .ok (.aload 6, 2) := by decide +kernel
theorem d_Wo_replaced_71 : decode b_Wo_replaced 71 = .ok (.invokevirtual 145, 3) := by decide +kernel
theorem d_Wo_replaced_74 : decode b_Wo_replaced 74 = .ok (.pop, 1) := by decide +kernel
theorem d_Wo_replaced_75 : decode b_Wo_replaced 75 = .ok (.aload 7, 2) := by decide +kernel
theorem d_Wo_replaced_77 : decode b_Wo_replaced 77 = .ok (.aload_n 1, 1) := by decide +kernel
theorem d_Wo_replaced_78 : decode b_Wo_replaced 78 = .ok (.lload_n 2, 1) := by decide +kernel
theorem d_Wo_replaced_79 : decode b_Wo_replaced 79 = .ok (.lconst 1, 1) := by decide +kernel
theorem d_Wo_replaced_80 : decode b_Wo_replaced 80 = .ok (.lsub, 1) := by decide +kernel
theorem d_Wo_replaced_81 : decode b_Wo_replaced 81 = .ok (.lload 4, 2) := by decide +kernel
theorem d_Wo_replaced_83 : decode b_Wo_replaced 83 = .ok (.ladd, 1) := by decide +kernel
theorem d_Wo_replaced_84 : decode b_Wo_replaced 84 = .ok (.aload_n 1, 1) := by decide +kernel
theorem d_Wo_replaced_85 : decode b_Wo_replaced 85 = .ok (.invokevirtual 15, 3) := by decide +kernel
theorem d_Wo_replaced_88 : decode b_Wo_replaced 88 = .ok (.i2l, 1) := by decide +kernel
theorem d_Wo_replaced_89 : decode b_Wo_replaced 89 = .ok (.invokestatic 106, 3) := by decide +kernel
theorem d_Wo_replaced_92 : decode b_Wo_replaced 92 = .ok (.invokevirtual 145, 3) := by decide +kernel
theorem d_Wo_replaced_95 : decode b_Wo_replaced 95 = .ok (.pop, 1) := by decide +kernel
theorem d_Wo_replaced_96 : decode b_Wo_replaced 96 = .ok (.aload 7, 2) := by decide +kernel
theorem d_Wo_replaced_98 : decode b_Wo_replaced 98 = .ok (.invokevirtual 137, 3) := by decide +kernel
theorem d_Wo_replaced_101 : decode b_Wo_replaced 101 = .ok (.invokestatic 110, 3) := by decide +kernel
theorem d_Wo_replaced_104 : decode b_Wo_replaced 104 = .ok (.areturn, 1) := by decide +kernel
theorem p_Wo_replaced_b39 (d : Nat)   (h : gk_H) : gk_P gw_R (d + 9) y_Wo_replaced b_Wo_replaced 8 (some (.object "ValueAlgebra$Value")) [] (f_Wo_replaced_b39   h) 39 [] [] h := by
  unfold f_Wo_replaced_b39
  refine gk_iconst (pc := 39) (3 : Int32) d_Wo_replaced_39 rfl ?_
  refine gk_callS (pc := 40) (d := (d + 8)) (w' := gv_R) (as := [.int (3 : Int32)]) (n := 1) d_Wo_replaced_40 rfl rfl (Nat.le_of_ble_eq_true rfl) tw_1354 tw_236 tw_97 cw_Va_ofError hy_Va_ofError (Nat.le_of_ble_eq_true rfl) (p_Va_ofError (d + 6) (3 : Int32) h) fun x1 h1 => ?_
  exact gk_aret (pc := 43) rfl d_Wo_replaced_43 rfl (Or.inl ⟨_, rfl⟩)
theorem w_Wo_replaced (d : Nat) (a0 : Option Nat) (h : gk_H) : gk_P gw_R (d + 9) y_Wo_replaced b_Wo_replaced 8 (some (.object "ValueAlgebra$Value")) [] (f_Wo_replaced a0 h) 0 [(0, va_rf a0)] [] h := by
  unfold f_Wo_replaced
  refine gk_aload_n (pc := 0) 0 d_Wo_replaced_0 rfl ?_
  refine gk_iconst (pc := 1) (0 : Int32) d_Wo_replaced_1 rfl ?_
  refine gk_callV (pc := 2) (d := (d + 8)) (w' := gv_R) (as := [.int (0 : Int32)]) (n := 1) 4 d_Wo_replaced_2 rfl rfl rfl rfl (Nat.le_of_ble_eq_true rfl) tw_1347 tw_886 tw_887 tw_96 cw_Ar_lettersOf hy_Ar_lettersOf (Nat.le_of_ble_eq_true rfl) (p_Ar_lettersOf d a0 (0 : Int32) h) fun x1 h1 => ?_
  refine gk_astore_n (pc := 5) (L' := [(1, va_rf x1), (0, va_rf a0)]) d_Wo_replaced_5 (Nat.le_of_ble_eq_true rfl) (by simp [gk_s1, gk_s2, gk_cat_rf, gk_catI, gk_catJ, gk_catD] <;> decide) ?_
  refine gk_aload_n (pc := 6) 1 d_Wo_replaced_6 rfl ?_
  refine gk_iconst (pc := 7) (1 : Int32) d_Wo_replaced_7 rfl ?_
  refine gk_callV (pc := 8) (d := (d + 8)) (w' := gv_J) (as := [.int (1 : Int32)]) (n := 1) 4 d_Wo_replaced_8 rfl rfl rfl rfl (Nat.le_of_ble_eq_true rfl) tw_1366 tw_1065 tw_1066 tw_96 cw_Ar_whole hy_Ar_whole (Nat.le_of_ble_eq_true rfl) (p_Ar_whole (d + 1) a0 (1 : Int32) h1) fun x2 h2 => ?_
  refine gk_lstore_n (pc := 11) (L' := [(2, .long x2), (1, va_rf x1), (0, va_rf a0)]) d_Wo_replaced_11 (Nat.le_of_ble_eq_true rfl) (by simp [gk_s1, gk_s2, gk_cat_rf, gk_catI, gk_catJ, gk_catD] <;> decide) ?_
  refine gk_aload_n (pc := 12) 2 d_Wo_replaced_12 rfl ?_
  refine gk_iconst (pc := 13) (2 : Int32) d_Wo_replaced_13 rfl ?_
  refine gk_callV (pc := 14) (d := (d + 8)) (w' := gv_J) (as := [.int (2 : Int32)]) (n := 1) 4 d_Wo_replaced_14 rfl rfl rfl rfl (Nat.le_of_ble_eq_true rfl) tw_1366 tw_1065 tw_1066 tw_96 cw_Ar_whole hy_Ar_whole (Nat.le_of_ble_eq_true rfl) (p_Ar_whole (d + 1) a0 (2 : Int32) h2) fun x3 h3 => ?_
  refine gk_lstore (pc := 17) (L' := [(4, .long x3), (2, .long x2), (1, va_rf x1), (0, va_rf a0)]) d_Wo_replaced_17 (Nat.le_of_ble_eq_true rfl) rfl ?_
  refine gk_aload_n (pc := 19) 3 d_Wo_replaced_19 rfl ?_
  refine gk_iconst (pc := 20) (3 : Int32) d_Wo_replaced_20 rfl ?_
  refine gk_callV (pc := 21) (d := (d + 8)) (w' := gv_R) (as := [.int (3 : Int32)]) (n := 1) 4 d_Wo_replaced_21 rfl rfl rfl rfl (Nat.le_of_ble_eq_true rfl) tw_1347 tw_886 tw_887 tw_96 cw_Ar_lettersOf hy_Ar_lettersOf (Nat.le_of_ble_eq_true rfl) (p_Ar_lettersOf d a0 (3 : Int32) h3) fun x4 h4 => ?_
  refine gk_astore (pc := 24) (L' := [(6, va_rf x4), (4, .long x3), (2, .long x2), (1, va_rf x1), (0, va_rf a0)]) d_Wo_replaced_24 (Nat.le_of_ble_eq_true rfl) rfl ?_
  refine gk_lload_n (pc := 26) 2 d_Wo_replaced_26 rfl ?_
  refine gk_lconst (pc := 27) (1 : Int64) d_Wo_replaced_27 rfl ?_
  refine gk_lcmp (pc := 28) d_Wo_replaced_28 ?_
  refine gk_if_lt (pc := 29) 39 d_Wo_replaced_29 rfl (fun _ => ?_) (fun _ => ?_)
  · refine gk_weak [] (L' := []) rfl ?_
    exact p_Wo_replaced_b39 d h4
  · refine gk_lload (pc := 32) 1 d_Wo_replaced_32 rfl ?_
    refine gk_lconst (pc := 34) (0 : Int64) d_Wo_replaced_34 rfl ?_
    refine gk_lcmp (pc := 35) d_Wo_replaced_35 ?_
    refine gk_if_ge (pc := 36) 44 d_Wo_replaced_36 rfl (fun _ => ?_) (fun _ => ?_)
    · refine gk_newO (pc := 44) 1 4 d_Wo_replaced_44 rfl tw_1373 tw_136 tw_93 fun x5 h5 => ?_
      refine gk_dup (pc := 47) d_Wo_replaced_47 (gk_cat_rf _) ?_
      refine gk_callI (pc := 48) (d := (d + 8)) (w' := gv_V) (as := []) (n := 0) 1 d_Wo_replaced_48 rfl rfl (by simp [gk_cat_rf, gk_catI, gk_catJ, gk_catD, gv_V, gv_I, gv_J, gv_D, gv_R]) tw_1374 tw_138 tw_93 cw_SB_init rfl hy_SB_init (Nat.le_of_ble_eq_true rfl) (p_SB_init (d + 6) x5 h5) fun _ h6 => ?_
      refine gk_astore (pc := 51) (L' := [(7, va_rf x5), (6, va_rf x4), (4, .long x3), (2, .long x2), (1, va_rf x1), (0, va_rf a0)]) d_Wo_replaced_51 (Nat.le_of_ble_eq_true rfl) (by simp [gk_s1, gk_s2, gk_cat_rf, gk_catI, gk_catJ, gk_catD] <;> decide) ?_
      refine gk_aload (pc := 53) 0 d_Wo_replaced_53 rfl ?_
      refine gk_aload_n (pc := 55) 4 d_Wo_replaced_55 rfl ?_
      refine gk_lconst (pc := 56) (0 : Int64) d_Wo_replaced_56 rfl ?_
      refine gk_lload_n (pc := 57) 3 d_Wo_replaced_57 rfl ?_
      refine gk_lconst (pc := 58) (1 : Int64) d_Wo_replaced_58 rfl ?_
      refine gk_lsub (pc := 59) d_Wo_replaced_59 ?_
      refine gk_callS (pc := 60) (d := (d + 8)) (w' := gv_R) (as := [va_rf x1, .long (0 : Int64), .long (x2 - (1 : Int64))]) (n := 3) d_Wo_replaced_60 rfl rfl (by simp [gk_cat_rf, gk_catI, gk_catJ, gk_catD, gv_V, gv_I, gv_J, gv_D, gv_R]) tw_1358 tw_1359 tw_122 cw_Wo_part hy_Wo_part (Nat.le_of_ble_eq_true rfl) (p_Wo_part (d + 3) x1 (0 : Int64) (x2 - (1 : Int64)) h6) fun x6 h7 => ?_
      refine gk_callV (pc := 63) (d := (d + 8)) (w' := gv_R) (as := [va_rf x6]) (n := 1) 1 d_Wo_replaced_63 rfl rfl rfl rfl (Nat.le_of_ble_eq_true rfl) tw_1393 tw_599 tw_600 tw_93 cw_SB_append_String hy_SB_append_String (Nat.le_of_ble_eq_true rfl) (p_SB_append_String (d + 3) x5 x6 h7) fun x7 h8 => ?_
      refine gk_pop (pc := 66) d_Wo_replaced_66 (gk_cat_rf _) ?_
      refine gk_aload (pc := 67) 0 d_Wo_replaced_67 rfl ?_
      refine gk_aload (pc := 69) 1 d_Wo_replaced_69 rfl ?_
      refine gk_callV (pc := 71) (d := (d + 8)) (w' := gv_R) (as := [va_rf x4]) (n := 1) 1 d_Wo_replaced_71 rfl rfl rfl rfl (Nat.le_of_ble_eq_true rfl) tw_1393 tw_599 tw_600 tw_93 cw_SB_append_String hy_SB_append_String (Nat.le_of_ble_eq_true rfl) (p_SB_append_String (d + 3) x5 x4 h8) fun x8 h9 => ?_
      refine gk_pop (pc := 74) d_Wo_replaced_74 (gk_cat_rf _) ?_
      refine gk_aload (pc := 75) 0 d_Wo_replaced_75 rfl ?_
      refine gk_aload_n (pc := 77) 4 d_Wo_replaced_77 rfl ?_
      refine gk_lload_n (pc := 78) 3 d_Wo_replaced_78 rfl ?_
      refine gk_lconst (pc := 79) (1 : Int64) d_Wo_replaced_79 rfl ?_
      refine gk_lsub (pc := 80) d_Wo_replaced_80 ?_
      refine gk_lload (pc := 81) 2 d_Wo_replaced_81 rfl ?_
      refine gk_ladd (pc := 83) d_Wo_replaced_83 ?_
      refine gk_aload_n (pc := 84) 4 d_Wo_replaced_84 rfl ?_
      refine gk_callV (pc := 85) (d := (d + 8)) (w' := gv_I) (as := []) (n := 0) 0 d_Wo_replaced_85 rfl rfl rfl rfl (by simp [gk_cat_rf, gk_catI, gk_catJ, gk_catD, gv_V, gv_I, gv_J, gv_D, gv_R]) tw_1348 tw_613 tw_614 tw_94 cw_St_length hy_St_length (Nat.le_of_ble_eq_true rfl) (p_St_length (d + 7) x1 h9) fun x9 h10 => ?_
      refine gk_i2l (pc := 88) d_Wo_replaced_88 ?_
      refine gk_callS (pc := 89) (d := (d + 8)) (w' := gv_R) (as := [va_rf x1, .long ((x2 - (1 : Int64)) + x3), .long (Int32.toInt64 x9)]) (n := 3) d_Wo_replaced_89 rfl rfl (by simp [gk_cat_rf, gk_catI, gk_catJ, gk_catD, gv_V, gv_I, gv_J, gv_D, gv_R]) tw_1358 tw_1359 tw_122 cw_Wo_part hy_Wo_part (Nat.le_of_ble_eq_true rfl) (p_Wo_part (d + 3) x1 ((x2 - (1 : Int64)) + x3) (Int32.toInt64 x9) h10) fun x10 h11 => ?_
      refine gk_callV (pc := 92) (d := (d + 8)) (w' := gv_R) (as := [va_rf x10]) (n := 1) 1 d_Wo_replaced_92 rfl rfl rfl rfl (Nat.le_of_ble_eq_true rfl) tw_1393 tw_599 tw_600 tw_93 cw_SB_append_String hy_SB_append_String (Nat.le_of_ble_eq_true rfl) (p_SB_append_String (d + 3) x5 x10 h11) fun x11 h12 => ?_
      refine gk_pop (pc := 95) d_Wo_replaced_95 (gk_cat_rf _) ?_
      refine gk_aload (pc := 96) 0 d_Wo_replaced_96 rfl ?_
      refine gk_callV (pc := 98) (d := (d + 8)) (w' := gv_R) (as := []) (n := 0) 1 d_Wo_replaced_98 rfl rfl rfl rfl (Nat.le_of_ble_eq_true rfl) tw_1384 tw_532 tw_533 tw_93 cw_SB_toString hy_SB_toString (Nat.le_of_ble_eq_true rfl) (p_SB_toString (d + 3) x5 h12) fun x12 h13 => ?_
      refine gk_callS (pc := 101) (d := (d + 8)) (w' := gv_R) (as := [va_rf x12]) (n := 1) d_Wo_replaced_101 rfl rfl (Nat.le_of_ble_eq_true rfl) tw_1365 tw_663 tw_97 cw_Va_ofText hy_Va_ofText (Nat.le_of_ble_eq_true rfl) (p_Va_ofText (d + 6) x12 h13) fun x13 h14 => ?_
      exact gk_aret (pc := 104) rfl d_Wo_replaced_104 rfl (Or.inl ⟨_, rfl⟩)
    · refine gk_weak [] (L' := []) rfl ?_
      exact p_Wo_replaced_b39 d h4
theorem p_Wo_replaced (d : Nat) (a0 : Option Nat) (h : gk_H) : ∀ r h1, f_Wo_replaced a0 h = some (r, h1) → gk_M (d + 9) y_Wo_replaced b_Wo_replaced 8 (some (.object "ValueAlgebra$Value")) [va_rf a0] h (.inl (gv_R r)) h1 :=
  fun r h1 e => gk_M_of2 (by decide +kernel) (by simp [lv_args, gk_cat_rf, gk_catI, gk_catJ, gk_catD, gv_V, gv_I, gv_J, gv_D, gv_R]) (by simp [lg_sl, gk_cat_rf, gk_catI, gk_catJ, gk_catD, gv_V, gv_I, gv_J, gv_D, gv_R]) (w_Wo_replaced d a0 h r h1 e)
theorem d_Wo_substituted_0 : decode b_Wo_substituted 0 = .ok (.aload_n 0, 1) := by decide +kernel
theorem d_Wo_substituted_1 : decode b_Wo_substituted 1 = .ok (.iconst 0, 1) := by decide +kernel
theorem d_Wo_substituted_2 : decode b_Wo_substituted 2 = .ok (.invokevirtual 9, 3) := by decide +kernel
theorem d_Wo_substituted_5 : decode b_Wo_substituted 5 = .ok (.astore_n 1, 1) := by decide +kernel
theorem d_Wo_substituted_6 : decode b_Wo_substituted 6 = .ok (.aload_n 0, 1) := by decide +kernel
theorem d_Wo_substituted_7 : decode b_Wo_substituted 7 = .ok (.iconst 1, 1) := by decide +kernel
theorem d_Wo_substituted_8 : decode b_Wo_substituted 8 = .ok (.invokevirtual 9, 3) := by decide +kernel
theorem d_Wo_substituted_11 : decode b_Wo_substituted 11 = .ok (.astore_n 2, 1) := by decide +kernel
theorem d_Wo_substituted_12 : decode b_Wo_substituted 12 = .ok (.aload_n 0, 1) := by decide +kernel
theorem d_Wo_substituted_13 : decode b_Wo_substituted 13 = .ok (.iconst 2, 1) := by decide +kernel
theorem d_Wo_substituted_14 : decode b_Wo_substituted 14 = .ok (.invokevirtual 9, 3) := by decide +kernel
theorem d_Wo_substituted_17 : decode b_Wo_substituted 17 = .ok (.astore_n 3, 1) := by decide +kernel
theorem d_Wo_substituted_18 : decode b_Wo_substituted 18 = .ok (.aload_n 0, 1) := by decide +kernel
theorem d_Wo_substituted_19 : decode b_Wo_substituted 19 = .ok (.invokevirtual 142, 3) := by decide +kernel
theorem d_Wo_substituted_22 : decode b_Wo_substituted 22 = .ok (.iconst 4, 1) := by decide +kernel
theorem d_Wo_substituted_23 : decode b_Wo_substituted 23 = .ok (.if_icmp .ge 7, 3) := by decide +kernel
theorem d_Wo_substituted_26 : decode b_Wo_substituted 26 = .ok (.iconst 1, 1) := by decide +kernel
theorem d_Wo_substituted_27 : decode b_Wo_substituted 27 = .ok (.goto 4, 3) := by decide +kernel
theorem d_Wo_substituted_30 : decode b_Wo_substituted 30 = .ok (.iconst 0, 1) := by decide +kernel
theorem d_Wo_substituted_31 : decode b_Wo_substituted 31 = .ok (.istore 4, 2) := by decide +kernel
theorem d_Wo_substituted_33 : decode b_Wo_substituted 33 = .ok (.aload_n 0, 1) := by decide +kernel
theorem d_Wo_substituted_34 : decode b_Wo_substituted 34 = .ok (.iconst 3, 1) := by decide +kernel
theorem d_Wo_substituted_35 : decode b_Wo_substituted 35 = .ok (.lconst 1, 1) := by decide +kernel
theorem d_Wo_substituted_36 : decode b_Wo_substituted 36 = .ok (.invokevirtual 27, 3) := by decide +kernel
theorem d_Wo_substituted_39 : decode b_Wo_substituted 39 = .ok (.lstore 5, 2) := by decide +kernel
theorem d_Wo_substituted_41 : decode b_Wo_substituted 41 = .ok (.lload 5, 2) := by decide +kernel
theorem d_Wo_substituted_43 : decode b_Wo_substituted 43 = .ok (.lconst 1, 1) := by decide +kernel
theorem d_Wo_substituted_44 : decode b_Wo_substituted 44 = .ok (.lcmp, 1) := by decide +kernel
theorem d_Wo_substituted_45 : decode b_Wo_substituted 45 = .ok (.ifCond .ge 8, 3) := by decide +kernel
theorem d_Wo_substituted_48 : decode b_Wo_substituted 48 = .ok (.iconst 3, 1) := by decide +kernel
theorem d_Wo_substituted_49 : decode b_Wo_substituted 49 = .ok (.invokestatic 89, 3) := by decide +kernel
theorem d_Wo_substituted_52 : decode b_Wo_substituted 52 = .ok (.areturn, 1) := by decide +kernel
theorem d_Wo_substituted_53 : decode b_Wo_substituted 53 = .ok (.new 113, 3) := by decide +kernel
theorem d_Wo_substituted_56 : decode b_Wo_substituted 56 = .ok (.dup, 1) := by decide +kernel
theorem d_Wo_substituted_57 : decode b_Wo_substituted 57 = .ok (.invokespecial 115, 3) := by decide +kernel
theorem d_Wo_substituted_60 : decode b_Wo_substituted 60 = .ok (.astore 7, 2) := by decide +kernel
theorem d_Wo_substituted_62 : decode b_Wo_substituted 62 = .ok (.iconst 0, 1) := by decide +kernel
theorem d_Wo_substituted_63 : decode b_Wo_substituted 63 = .ok (.istore 8, 2) := by decide +kernel
theorem d_Wo_substituted_65 : decode b_Wo_substituted 65 = .ok (.lconst 0, 1) := by decide +kernel
theorem d_Wo_substituted_66 : decode b_Wo_substituted 66 = .ok (.lstore 9, 2) := by decide +kernel
theorem d_Wo_substituted_68 : decode b_Wo_substituted 68 = .ok (.iload 8, 2) := by decide +kernel
theorem d_Wo_substituted_70 : decode b_Wo_substituted 70 = .ok (.aload_n 1, 1) := by decide +kernel
theorem d_Wo_substituted_71 : decode b_Wo_substituted 71 = .ok (.invokevirtual 15, 3) := by decide +kernel
theorem d_Wo_substituted_74 : decode b_Wo_substituted 74 = .ok (.if_icmp .ge 91, 3) := by decide +kernel
theorem d_Wo_substituted_77 : decode b_Wo_substituted 77 = .ok (.aload 7, 2) := by decide +kernel
theorem d_Wo_substituted_79 : decode b_Wo_substituted 79 = .ok (.invokevirtual 141, 3) := by decide +kernel
theorem d_Wo_substituted_82 : decode b_Wo_substituted 82 = .ok (.sipush 255, 3) := by decide +kernel
theorem d_Wo_substituted_85 : decode b_Wo_substituted 85 = .ok (.if_icmp .gt 80, 3) := by decide +kernel
theorem d_Wo_substituted_88 : decode b_Wo_substituted 88 = .ok (.aload_n 2, 1) := by decide +kernel
theorem d_Wo_substituted_89 : decode b_Wo_substituted 89 = .ok (.invokevirtual 150, 3) := by decide +kernel
theorem d_Wo_substituted_92 : decode b_Wo_substituted 92 = .ok (.ifCond .ne 55, 3) := by decide +kernel
theorem d_Wo_substituted_95 : decode b_Wo_substituted 95 = .ok (.aload_n 2, 1) := by decide +kernel
theorem d_Wo_substituted_96 : decode b_Wo_substituted 96 = .ok (.aload_n 1, 1) := by decide +kernel
theorem d_Wo_substituted_97 : decode b_Wo_substituted 97 = .ok (.iload 8, 2) := by decide +kernel
theorem d_Wo_substituted_99 : decode b_Wo_substituted 99 = .ok (.invokestatic 154, 3) := by decide +kernel
theorem d_Wo_substituted_102 : decode b_Wo_substituted 102 = .ok (.ifCond .eq 45, 3) := by decide +kernel
theorem d_Wo_substituted_105 : decode b_Wo_substituted 105 = .ok (.lload 9, 2) := by decide +kernel
theorem d_Wo_substituted_107 : decode b_Wo_substituted 107 = .ok (.lconst 1, 1) := by decide +kernel
theorem d_Wo_substituted_108 : decode b_Wo_substituted 108 = .ok (.ladd, 1) := by decide +kernel
theorem d_Wo_substituted_109 : decode b_Wo_substituted 109 = .ok (.lstore 9, 2) := by decide +kernel
theorem d_Wo_substituted_111 : decode b_Wo_substituted 111 = .ok (.aload 7, 2) := by decide +kernel
theorem d_Wo_substituted_113 : decode b_Wo_substituted 113 = .ok (.iload 4, 2) := by decide +kernel
theorem d_Wo_substituted_115 : decode b_Wo_substituted 115 = .ok (.ifCond .ne 11, 3) := by decide +kernel
theorem d_Wo_substituted_118 : decode b_Wo_substituted 118 = .ok (.lload 9, 2) := by decide +kernel
theorem d_Wo_substituted_120 : decode b_Wo_substituted 120 = .ok (.lload 5, 2) := by decide +kernel
theorem d_Wo_substituted_122 : decode b_Wo_substituted 122 = .ok (.lcmp, 1) := by decide +kernel
theorem d_Wo_substituted_123 : decode b_Wo_substituted 123 = .ok (.ifCond .ne 7, 3) := by decide +kernel
theorem d_Wo_substituted_126 : decode b_Wo_substituted 126 = .ok (.aload_n 3, 1) := by decide +kernel
theorem d_Wo_substituted_127 : decode b_Wo_substituted 127 = .ok (.goto 4, 3) := by decide +kernel
theorem d_Wo_substituted_130 : decode b_Wo_substituted 130 = .ok (.aload_n 2, 1) := by decide +kernel
theorem d_Wo_substituted_131 : decode b_Wo_substituted 131 = .ok (.invokevirtual 145, 3) := by decide +kernel
theorem d_Wo_substituted_134 : decode b_Wo_substituted 134 = .ok (.pop, 1) := by decide +kernel
theorem d_Wo_substituted_135 : decode b_Wo_substituted 135 = .ok (.iload 8, 2) := by decide +kernel
theorem d_Wo_substituted_137 : decode b_Wo_substituted 137 = .ok (.aload_n 2, 1) := by decide +kernel
theorem d_Wo_substituted_138 : decode b_Wo_substituted 138 = .ok (.invokevirtual 15, 3) := by decide +kernel
theorem d_Wo_substituted_141 : decode b_Wo_substituted 141 = .ok (.iadd, 1) := by decide +kernel
theorem d_Wo_substituted_142 : decode b_Wo_substituted 142 = .ok (.istore 8, 2) := by decide +kernel
theorem d_Wo_substituted_144 : decode b_Wo_substituted 144 = .ok (.goto (-76), 3) := by decide +kernel
theorem d_Wo_substituted_147 : decode b_Wo_substituted 147 = .ok (.aload 7, 2) := by decide +kernel
theorem d_Wo_substituted_149 : decode b_Wo_substituted 149 = .ok (.aload_n 1, 1) := by decide +kernel
theorem d_Wo_substituted_150 : decode b_Wo_substituted 150 = .ok (.iload 8, 2) := by decide +kernel
theorem d_Wo_substituted_152 : decode b_Wo_substituted 152 = .ok (.invokevirtual 116, 3) := by decide +kernel
theorem d_Wo_substituted_155 : decode b_Wo_substituted 155 = .ok (.invokevirtual 129, 3) := by decide +kernel
theorem d_Wo_substituted_158 : decode b_Wo_substituted 158 = .ok (.pop, 1) := by decide +kernel
theorem d_Wo_substituted_159 : decode b_Wo_substituted 159 = .ok (.iinc 8 1, 3) := by decide +kernel
theorem d_Wo_substituted_162 : decode b_Wo_substituted 162 = .ok (.goto (-94), 3) := by decide +kernel
theorem d_Wo_substituted_165 : decode b_Wo_substituted 165 = .ok (.aload 7, 2) := by decide +kernel
theorem d_Wo_substituted_167 : decode b_Wo_substituted 167 = .ok (.invokevirtual 137, 3) := by decide +kernel
theorem d_Wo_substituted_170 : decode b_Wo_substituted 170 = .ok (.invokestatic 110, 3) := by decide +kernel
theorem d_Wo_substituted_173 : decode b_Wo_substituted 173 = .ok (.areturn, 1) := by decide +kernel
theorem p_Wo_substituted_b165 (d : Nat)  (v7 : Option Nat) (h : gk_H) : gk_P gw_R (d + 9) y_Wo_substituted b_Wo_substituted 11 (some (.object "ValueAlgebra$Value")) [] (f_Wo_substituted_b165  v7 h) 165 [(7, va_rf v7)] [] h := by
  unfold f_Wo_substituted_b165
  refine gk_aload (pc := 165) 0 d_Wo_substituted_165 rfl ?_
  refine gk_callV (pc := 167) (d := (d + 8)) (w' := gv_R) (as := []) (n := 0) 1 d_Wo_substituted_167 rfl rfl rfl rfl (Nat.le_of_ble_eq_true rfl) tw_1384 tw_532 tw_533 tw_93 cw_SB_toString hy_SB_toString (Nat.le_of_ble_eq_true rfl) (p_SB_toString (d + 3) v7 h) fun x1 h1 => ?_
  refine gk_callS (pc := 170) (d := (d + 8)) (w' := gv_R) (as := [va_rf x1]) (n := 1) d_Wo_substituted_170 rfl rfl (Nat.le_of_ble_eq_true rfl) tw_1365 tw_663 tw_97 cw_Va_ofText hy_Va_ofText (Nat.le_of_ble_eq_true rfl) (p_Va_ofText (d + 6) x1 h1) fun x2 h2 => ?_
  exact gk_aret (pc := 173) rfl d_Wo_substituted_173 rfl (Or.inl ⟨_, rfl⟩)
theorem p_Wo_substituted_b147 (d : Nat) (b68 : Option Nat → Option Nat → Option Nat → Int32 → Int64 → Option Nat → Int32 → Int64 → gk_H → Option ((Option Nat) × gk_H)) (q68 : ∀ (v1 : Option Nat) (v2 : Option Nat) (v3 : Option Nat) (v4 : Int32) (v5 : Int64) (v7 : Option Nat) (v8 : Int32) (v9 : Int64) (h : gk_H), gk_P gw_R (d + 9) y_Wo_substituted b_Wo_substituted 11 (some (.object "ValueAlgebra$Value")) [] (b68 v1 v2 v3 v4 v5 v7 v8 v9 h) 68 [(1, va_rf v1), (2, va_rf v2), (3, va_rf v3), (4, .int v4), (5, .long v5), (7, va_rf v7), (8, .int v8), (9, .long v9)] [] h) (v1 : Option Nat) (v2 : Option Nat) (v3 : Option Nat) (v4 : Int32) (v5 : Int64) (v7 : Option Nat) (v8 : Int32) (v9 : Int64) (h : gk_H) : gk_P gw_R (d + 9) y_Wo_substituted b_Wo_substituted 11 (some (.object "ValueAlgebra$Value")) [] (f_Wo_substituted_b147 b68 v1 v2 v3 v4 v5 v7 v8 v9 h) 147 [(1, va_rf v1), (2, va_rf v2), (3, va_rf v3), (4, .int v4), (5, .long v5), (7, va_rf v7), (8, .int v8), (9, .long v9)] [] h := by
  unfold f_Wo_substituted_b147
  refine gk_aload (pc := 147) 5 d_Wo_substituted_147 rfl ?_
  refine gk_aload_n (pc := 149) 0 d_Wo_substituted_149 rfl ?_
  refine gk_iload (pc := 150) 6 d_Wo_substituted_150 rfl ?_
  refine gk_callV (pc := 152) (d := (d + 8)) (w' := gv_I) (as := [.int v8]) (n := 1) 0 d_Wo_substituted_152 rfl rfl rfl rfl (by simp [gk_cat_rf, gk_catI, gk_catJ, gk_catD, gv_V, gv_I, gv_J, gv_D, gv_R]) tw_1375 tw_811 tw_812 tw_94 cw_St_charAt hy_St_charAt (Nat.le_of_ble_eq_true rfl) (p_St_charAt (d + 5) v1 v8 h) fun x1 h1 => ?_
  refine gk_callV (pc := 155) (d := (d + 8)) (w' := gv_R) (as := [.int x1]) (n := 1) 1 d_Wo_substituted_155 rfl rfl rfl rfl (Nat.le_of_ble_eq_true rfl) tw_1380 tw_430 tw_431 tw_93 cw_SB_append_C hy_SB_append_C (Nat.le_of_ble_eq_true rfl) (p_SB_append_C (d + 3) v7 x1 h1) fun x2 h2 => ?_
  refine gk_pop (pc := 158) d_Wo_substituted_158 (gk_cat_rf _) ?_
  refine gk_iincN (pc := 159) 6 (1 : Int32) (L' := fun x3 => [(8, .int x3), (1, va_rf v1), (2, va_rf v2), (3, va_rf v3), (4, .int v4), (5, .long v5), (7, va_rf v7), (9, .long v9)]) d_Wo_substituted_159 rfl rfl (Nat.le_of_ble_eq_true rfl) (fun _ => by simp [gk_s1, gk_cat_rf, gk_catI, gk_catJ, gk_catD] <;> decide) fun x3 => ?_
  refine gk_goto (pc := 162) 68 d_Wo_substituted_162 rfl ?_
  refine gk_weak [1, 2, 3, 4, 5, 6, 0, 7] (L' := [(1, va_rf v1), (2, va_rf v2), (3, va_rf v3), (4, .int v4), (5, .long v5), (7, va_rf v7), (8, .int x3), (9, .long v9)]) rfl ?_
  exact q68 v1 v2 v3 v4 v5 v7 x3 v9 h2
theorem p_Wo_substituted_b131 (d : Nat) (b68 : Option Nat → Option Nat → Option Nat → Int32 → Int64 → Option Nat → Int32 → Int64 → gk_H → Option ((Option Nat) × gk_H)) (q68 : ∀ (v1 : Option Nat) (v2 : Option Nat) (v3 : Option Nat) (v4 : Int32) (v5 : Int64) (v7 : Option Nat) (v8 : Int32) (v9 : Int64) (h : gk_H), gk_P gw_R (d + 9) y_Wo_substituted b_Wo_substituted 11 (some (.object "ValueAlgebra$Value")) [] (b68 v1 v2 v3 v4 v5 v7 v8 v9 h) 68 [(1, va_rf v1), (2, va_rf v2), (3, va_rf v3), (4, .int v4), (5, .long v5), (7, va_rf v7), (8, .int v8), (9, .long v9)] [] h) (v1 : Option Nat) (v2 : Option Nat) (v3 : Option Nat) (v4 : Int32) (v5 : Int64) (v7 : Option Nat) (v8 : Int32) (v9 : Int64) (s0 : Option Nat) (s1 : Option Nat) (h : gk_H) : gk_P gw_R (d + 9) y_Wo_substituted b_Wo_substituted 11 (some (.object "ValueAlgebra$Value")) [] (f_Wo_substituted_b131 b68 v1 v2 v3 v4 v5 v7 v8 v9 s0 s1 h) 131 [(1, va_rf v1), (2, va_rf v2), (3, va_rf v3), (4, .int v4), (5, .long v5), (7, va_rf v7), (8, .int v8), (9, .long v9)] [va_rf s1, va_rf s0] h := by
  unfold f_Wo_substituted_b131
  refine gk_callV (pc := 131) (d := (d + 8)) (w' := gv_R) (as := [va_rf s1]) (n := 1) 1 d_Wo_substituted_131 rfl rfl rfl rfl (Nat.le_of_ble_eq_true rfl) tw_1393 tw_599 tw_600 tw_93 cw_SB_append_String hy_SB_append_String (Nat.le_of_ble_eq_true rfl) (p_SB_append_String (d + 3) s0 s1 h) fun x1 h1 => ?_
  refine gk_pop (pc := 134) d_Wo_substituted_134 (gk_cat_rf _) ?_
  refine gk_iload (pc := 135) 6 d_Wo_substituted_135 rfl ?_
  refine gk_aload_n (pc := 137) 1 d_Wo_substituted_137 rfl ?_
  refine gk_callV (pc := 138) (d := (d + 8)) (w' := gv_I) (as := []) (n := 0) 0 d_Wo_substituted_138 rfl rfl rfl rfl (Nat.le_of_ble_eq_true rfl) tw_1348 tw_613 tw_614 tw_94 cw_St_length hy_St_length (Nat.le_of_ble_eq_true rfl) (p_St_length (d + 7) v2 h1) fun x2 h2 => ?_
  refine gk_iadd (pc := 141) d_Wo_substituted_141 ?_
  refine gk_topI (pc := 142) fun x3 => ?_
  refine gk_istore (pc := 142) (L' := [(8, .int x3), (1, va_rf v1), (2, va_rf v2), (3, va_rf v3), (4, .int v4), (5, .long v5), (7, va_rf v7), (9, .long v9)]) d_Wo_substituted_142 (Nat.le_of_ble_eq_true rfl) (by simp [gk_s1, gk_s2, gk_cat_rf, gk_catI, gk_catJ, gk_catD] <;> decide) ?_
  refine gk_goto (pc := 144) 68 d_Wo_substituted_144 rfl ?_
  refine gk_weak [1, 2, 3, 4, 5, 6, 0, 7] (L' := [(1, va_rf v1), (2, va_rf v2), (3, va_rf v3), (4, .int v4), (5, .long v5), (7, va_rf v7), (8, .int x3), (9, .long v9)]) rfl ?_
  exact q68 v1 v2 v3 v4 v5 v7 x3 v9 h2
theorem p_Wo_substituted_b126 (d : Nat) (b68 : Option Nat → Option Nat → Option Nat → Int32 → Int64 → Option Nat → Int32 → Int64 → gk_H → Option ((Option Nat) × gk_H)) (q68 : ∀ (v1 : Option Nat) (v2 : Option Nat) (v3 : Option Nat) (v4 : Int32) (v5 : Int64) (v7 : Option Nat) (v8 : Int32) (v9 : Int64) (h : gk_H), gk_P gw_R (d + 9) y_Wo_substituted b_Wo_substituted 11 (some (.object "ValueAlgebra$Value")) [] (b68 v1 v2 v3 v4 v5 v7 v8 v9 h) 68 [(1, va_rf v1), (2, va_rf v2), (3, va_rf v3), (4, .int v4), (5, .long v5), (7, va_rf v7), (8, .int v8), (9, .long v9)] [] h) (v1 : Option Nat) (v2 : Option Nat) (v3 : Option Nat) (v4 : Int32) (v5 : Int64) (v7 : Option Nat) (v8 : Int32) (v9 : Int64) (s0 : Option Nat) (h : gk_H) : gk_P gw_R (d + 9) y_Wo_substituted b_Wo_substituted 11 (some (.object "ValueAlgebra$Value")) [] (f_Wo_substituted_b126 b68 v1 v2 v3 v4 v5 v7 v8 v9 s0 h) 126 [(1, va_rf v1), (2, va_rf v2), (3, va_rf v3), (4, .int v4), (5, .long v5), (7, va_rf v7), (8, .int v8), (9, .long v9)] [va_rf s0] h := by
  unfold f_Wo_substituted_b126
  refine gk_aload_n (pc := 126) 2 d_Wo_substituted_126 rfl ?_
  refine gk_goto (pc := 127) 131 d_Wo_substituted_127 rfl ?_
  exact p_Wo_substituted_b131 d b68 q68 v1 v2 v3 v4 v5 v7 v8 v9 s0 v3 h
theorem p_Wo_substituted_b68 (d : Nat)  : ∀ (fu : Nat) (v1 : Option Nat) (v2 : Option Nat) (v3 : Option Nat) (v4 : Int32) (v5 : Int64) (v7 : Option Nat) (v8 : Int32) (v9 : Int64) (h : gk_H), gk_P gw_R (d + 9) y_Wo_substituted b_Wo_substituted 11 (some (.object "ValueAlgebra$Value")) [] (f_Wo_substituted_b68  fu v1 v2 v3 v4 v5 v7 v8 v9 h) 68 [(1, va_rf v1), (2, va_rf v2), (3, va_rf v3), (4, .int v4), (5, .long v5), (7, va_rf v7), (8, .int v8), (9, .long v9)] [] h := by
  intro fu
  induction fu with
  | zero => intros; exact gk_none
  | succ fu q68 =>
    intro v1 v2 v3 v4 v5 v7 v8 v9 h
    rw [f_Wo_substituted_b68]
    refine gk_iload (pc := 68) 6 d_Wo_substituted_68 rfl ?_
    refine gk_aload_n (pc := 70) 0 d_Wo_substituted_70 rfl ?_
    refine gk_callV (pc := 71) (d := (d + 8)) (w' := gv_I) (as := []) (n := 0) 0 d_Wo_substituted_71 rfl rfl rfl rfl (Nat.le_of_ble_eq_true rfl) tw_1348 tw_613 tw_614 tw_94 cw_St_length hy_St_length (Nat.le_of_ble_eq_true rfl) (p_St_length (d + 7) v1 h) fun x1 h1 => ?_
    refine gk_icmp_ge (pc := 74) 165 d_Wo_substituted_74 rfl (fun _ => ?_) (fun _ => ?_)
    · refine gk_weak [5] (L' := [(7, va_rf v7)]) rfl ?_
      exact p_Wo_substituted_b165 d v7 h1
    · refine gk_aload (pc := 77) 5 d_Wo_substituted_77 rfl ?_
      refine gk_callV (pc := 79) (d := (d + 8)) (w' := gv_I) (as := []) (n := 0) 1 d_Wo_substituted_79 rfl rfl rfl rfl (Nat.le_of_ble_eq_true rfl) tw_1388 tw_422 tw_423 tw_93 cw_SB_length hy_SB_length (Nat.le_of_ble_eq_true rfl) (p_SB_length (d + 7) v7 h1) fun x2 h2 => ?_
      refine gk_sipush (pc := 82) (255 : Int32) d_Wo_substituted_82 rfl ?_
      refine gk_icmp_gt (pc := 85) 165 d_Wo_substituted_85 rfl (fun _ => ?_) (fun _ => ?_)
      · refine gk_weak [5] (L' := [(7, va_rf v7)]) rfl ?_
        exact p_Wo_substituted_b165 d v7 h2
      · refine gk_aload_n (pc := 88) 1 d_Wo_substituted_88 rfl ?_
        refine gk_callV (pc := 89) (d := (d + 8)) (w' := gv_I) (as := []) (n := 0) 0 d_Wo_substituted_89 rfl rfl rfl rfl (Nat.le_of_ble_eq_true rfl) tw_1401 tw_1043 tw_1044 tw_94 cw_St_isEmpty hy_St_isEmpty (Nat.le_of_ble_eq_true rfl) (p_St_isEmpty (d + 8) v2 h2) fun x3 h3 => ?_
        refine gk_if_ne (pc := 92) 147 d_Wo_substituted_92 rfl (fun _ => ?_) (fun _ => ?_)
        · refine gk_aload_n (pc := 95) 1 d_Wo_substituted_95 rfl ?_
          refine gk_aload_n (pc := 96) 0 d_Wo_substituted_96 rfl ?_
          refine gk_iload (pc := 97) 6 d_Wo_substituted_97 rfl ?_
          refine gk_callS (pc := 99) (d := (d + 8)) (w' := gv_I) (as := [va_rf v2, va_rf v1, .int v8]) (n := 3) d_Wo_substituted_99 rfl rfl (Nat.le_of_ble_eq_true rfl) tw_1402 tw_1403 tw_116 cw_Le_standsAt hy_Le_standsAt (Nat.le_of_ble_eq_true rfl) (p_Le_standsAt (d + 4) v2 v1 v8 h3) fun x4 h4 => ?_
          refine gk_if_eq (pc := 102) 147 d_Wo_substituted_102 rfl (fun _ => ?_) (fun _ => ?_)
          · exact p_Wo_substituted_b147 d (f_Wo_substituted_b68 fu) q68 v1 v2 v3 v4 v5 v7 v8 v9 h4
          · refine gk_lload (pc := 105) 7 d_Wo_substituted_105 rfl ?_
            refine gk_lconst (pc := 107) (1 : Int64) d_Wo_substituted_107 rfl ?_
            refine gk_ladd (pc := 108) d_Wo_substituted_108 ?_
            refine gk_topJ (pc := 109) fun x5 => ?_
            refine gk_lstore (pc := 109) (L' := [(9, .long x5), (1, va_rf v1), (2, va_rf v2), (3, va_rf v3), (4, .int v4), (5, .long v5), (7, va_rf v7), (8, .int v8)]) d_Wo_substituted_109 (Nat.le_of_ble_eq_true rfl) rfl ?_
            refine gk_aload (pc := 111) 6 d_Wo_substituted_111 rfl ?_
            refine gk_iload (pc := 113) 4 d_Wo_substituted_113 rfl ?_
            refine gk_if_ne (pc := 115) 126 d_Wo_substituted_115 rfl (fun _ => ?_) (fun _ => ?_)
            · refine gk_lload (pc := 118) 0 d_Wo_substituted_118 rfl ?_
              refine gk_lload (pc := 120) 5 d_Wo_substituted_120 rfl ?_
              refine gk_lcmp (pc := 122) d_Wo_substituted_122 ?_
              refine gk_if_ne (pc := 123) 130 d_Wo_substituted_123 rfl (fun _ => ?_) (fun _ => ?_)
              · refine gk_weak [1, 2, 3, 4, 5, 6, 7, 0] (L' := [(1, va_rf v1), (2, va_rf v2), (3, va_rf v3), (4, .int v4), (5, .long v5), (7, va_rf v7), (8, .int v8), (9, .long x5)]) rfl ?_
                exact p_Wo_substituted_b126 d (f_Wo_substituted_b68 fu) q68 v1 v2 v3 v4 v5 v7 v8 x5 v7 h4
              · refine gk_aload_n (pc := 130) 2 d_Wo_substituted_130 rfl ?_
                refine gk_weak [1, 2, 3, 4, 5, 6, 7, 0] (L' := [(1, va_rf v1), (2, va_rf v2), (3, va_rf v3), (4, .int v4), (5, .long v5), (7, va_rf v7), (8, .int v8), (9, .long x5)]) rfl ?_
                exact p_Wo_substituted_b131 d (f_Wo_substituted_b68 fu) q68 v1 v2 v3 v4 v5 v7 v8 x5 v7 v2 h4
            · refine gk_weak [1, 2, 3, 4, 5, 6, 7, 0] (L' := [(1, va_rf v1), (2, va_rf v2), (3, va_rf v3), (4, .int v4), (5, .long v5), (7, va_rf v7), (8, .int v8), (9, .long x5)]) rfl ?_
              exact p_Wo_substituted_b126 d (f_Wo_substituted_b68 fu) q68 v1 v2 v3 v4 v5 v7 v8 x5 v7 h4
        · exact p_Wo_substituted_b147 d (f_Wo_substituted_b68 fu) q68 v1 v2 v3 v4 v5 v7 v8 v9 h3
theorem p_Wo_substituted_b31 (d : Nat)  (v0 : Option Nat) (v1 : Option Nat) (v2 : Option Nat) (v3 : Option Nat) (s0 : Int32) (h : gk_H) : gk_P gw_R (d + 9) y_Wo_substituted b_Wo_substituted 11 (some (.object "ValueAlgebra$Value")) [] (f_Wo_substituted_b31  v0 v1 v2 v3 s0 h) 31 [(0, va_rf v0), (1, va_rf v1), (2, va_rf v2), (3, va_rf v3)] [.int s0] h := by
  unfold f_Wo_substituted_b31
  refine gk_istore (pc := 31) (L' := [(4, .int s0), (0, va_rf v0), (1, va_rf v1), (2, va_rf v2), (3, va_rf v3)]) d_Wo_substituted_31 (Nat.le_of_ble_eq_true rfl) (by simp [gk_s1, gk_s2, gk_cat_rf, gk_catI, gk_catJ, gk_catD] <;> decide) ?_
  refine gk_aload_n (pc := 33) 1 d_Wo_substituted_33 rfl ?_
  refine gk_iconst (pc := 34) (3 : Int32) d_Wo_substituted_34 rfl ?_
  refine gk_lconst (pc := 35) (1 : Int64) d_Wo_substituted_35 rfl ?_
  refine gk_callV (pc := 36) (d := (d + 8)) (w' := gv_J) (as := [.int (3 : Int32), .long (1 : Int64)]) (n := 2) 4 d_Wo_substituted_36 rfl rfl rfl rfl (Nat.le_of_ble_eq_true rfl) tw_1350 tw_1286 tw_1287 tw_96 cw_Ar_wholeOr hy_Ar_wholeOr (Nat.le_of_ble_eq_true rfl) (p_Ar_wholeOr d v0 (3 : Int32) (1 : Int64) h) fun x1 h1 => ?_
  refine gk_lstore (pc := 39) (L' := [(5, .long x1), (4, .int s0), (0, va_rf v0), (1, va_rf v1), (2, va_rf v2), (3, va_rf v3)]) d_Wo_substituted_39 (Nat.le_of_ble_eq_true rfl) rfl ?_
  refine gk_lload (pc := 41) 0 d_Wo_substituted_41 rfl ?_
  refine gk_lconst (pc := 43) (1 : Int64) d_Wo_substituted_43 rfl ?_
  refine gk_lcmp (pc := 44) d_Wo_substituted_44 ?_
  refine gk_if_ge (pc := 45) 53 d_Wo_substituted_45 rfl (fun _ => ?_) (fun _ => ?_)
  · refine gk_newO (pc := 53) 1 4 d_Wo_substituted_53 rfl tw_1373 tw_136 tw_93 fun x2 h2 => ?_
    refine gk_dup (pc := 56) d_Wo_substituted_56 (gk_cat_rf _) ?_
    refine gk_callI (pc := 57) (d := (d + 8)) (w' := gv_V) (as := []) (n := 0) 1 d_Wo_substituted_57 rfl rfl (by simp [gk_cat_rf, gk_catI, gk_catJ, gk_catD, gv_V, gv_I, gv_J, gv_D, gv_R]) tw_1374 tw_138 tw_93 cw_SB_init rfl hy_SB_init (Nat.le_of_ble_eq_true rfl) (p_SB_init (d + 6) x2 h2) fun _ h3 => ?_
    refine gk_astore (pc := 60) (L' := [(7, va_rf x2), (5, .long x1), (4, .int s0), (0, va_rf v0), (1, va_rf v1), (2, va_rf v2), (3, va_rf v3)]) d_Wo_substituted_60 (Nat.le_of_ble_eq_true rfl) rfl ?_
    refine gk_iconst (pc := 62) (0 : Int32) d_Wo_substituted_62 rfl ?_
    refine gk_istore (pc := 63) (L' := [(8, .int (0 : Int32)), (7, va_rf x2), (5, .long x1), (4, .int s0), (0, va_rf v0), (1, va_rf v1), (2, va_rf v2), (3, va_rf v3)]) d_Wo_substituted_63 (Nat.le_of_ble_eq_true rfl) (by simp [gk_s1, gk_s2, gk_cat_rf, gk_catI, gk_catJ, gk_catD] <;> decide) ?_
    refine gk_lconst (pc := 65) (0 : Int64) d_Wo_substituted_65 rfl ?_
    refine gk_lstore (pc := 66) (L' := [(9, .long (0 : Int64)), (8, .int (0 : Int32)), (7, va_rf x2), (5, .long x1), (4, .int s0), (0, va_rf v0), (1, va_rf v1), (2, va_rf v2), (3, va_rf v3)]) d_Wo_substituted_66 (Nat.le_of_ble_eq_true rfl) rfl ?_
    refine gk_weak [6, 7, 8, 4, 3, 2, 1, 0] (L' := [(1, va_rf v1), (2, va_rf v2), (3, va_rf v3), (4, .int s0), (5, .long x1), (7, va_rf x2), (8, .int (0 : Int32)), (9, .long (0 : Int64))]) rfl ?_
    exact p_Wo_substituted_b68 d gk_F v1 v2 v3 s0 x1 x2 (0 : Int32) (0 : Int64) h3
  · refine gk_iconst (pc := 48) (3 : Int32) d_Wo_substituted_48 rfl ?_
    refine gk_callS (pc := 49) (d := (d + 8)) (w' := gv_R) (as := [.int (3 : Int32)]) (n := 1) d_Wo_substituted_49 rfl rfl (Nat.le_of_ble_eq_true rfl) tw_1354 tw_236 tw_97 cw_Va_ofError hy_Va_ofError (Nat.le_of_ble_eq_true rfl) (p_Va_ofError (d + 6) (3 : Int32) h1) fun x3 h4 => ?_
    exact gk_aret (pc := 52) rfl d_Wo_substituted_52 rfl (Or.inl ⟨_, rfl⟩)
theorem w_Wo_substituted (d : Nat) (a0 : Option Nat) (h : gk_H) : gk_P gw_R (d + 9) y_Wo_substituted b_Wo_substituted 11 (some (.object "ValueAlgebra$Value")) [] (f_Wo_substituted a0 h) 0 [(0, va_rf a0)] [] h := by
  unfold f_Wo_substituted
  refine gk_aload_n (pc := 0) 0 d_Wo_substituted_0 rfl ?_
  refine gk_iconst (pc := 1) (0 : Int32) d_Wo_substituted_1 rfl ?_
  refine gk_callV (pc := 2) (d := (d + 8)) (w' := gv_R) (as := [.int (0 : Int32)]) (n := 1) 4 d_Wo_substituted_2 rfl rfl rfl rfl (Nat.le_of_ble_eq_true rfl) tw_1347 tw_886 tw_887 tw_96 cw_Ar_lettersOf hy_Ar_lettersOf (Nat.le_of_ble_eq_true rfl) (p_Ar_lettersOf d a0 (0 : Int32) h) fun x1 h1 => ?_
  refine gk_astore_n (pc := 5) (L' := [(1, va_rf x1), (0, va_rf a0)]) d_Wo_substituted_5 (Nat.le_of_ble_eq_true rfl) (by simp [gk_s1, gk_s2, gk_cat_rf, gk_catI, gk_catJ, gk_catD] <;> decide) ?_
  refine gk_aload_n (pc := 6) 1 d_Wo_substituted_6 rfl ?_
  refine gk_iconst (pc := 7) (1 : Int32) d_Wo_substituted_7 rfl ?_
  refine gk_callV (pc := 8) (d := (d + 8)) (w' := gv_R) (as := [.int (1 : Int32)]) (n := 1) 4 d_Wo_substituted_8 rfl rfl rfl rfl (Nat.le_of_ble_eq_true rfl) tw_1347 tw_886 tw_887 tw_96 cw_Ar_lettersOf hy_Ar_lettersOf (Nat.le_of_ble_eq_true rfl) (p_Ar_lettersOf d a0 (1 : Int32) h1) fun x2 h2 => ?_
  refine gk_astore_n (pc := 11) (L' := [(2, va_rf x2), (1, va_rf x1), (0, va_rf a0)]) d_Wo_substituted_11 (Nat.le_of_ble_eq_true rfl) (by simp [gk_s1, gk_s2, gk_cat_rf, gk_catI, gk_catJ, gk_catD] <;> decide) ?_
  refine gk_aload_n (pc := 12) 2 d_Wo_substituted_12 rfl ?_
  refine gk_iconst (pc := 13) (2 : Int32) d_Wo_substituted_13 rfl ?_
  refine gk_callV (pc := 14) (d := (d + 8)) (w' := gv_R) (as := [.int (2 : Int32)]) (n := 1) 4 d_Wo_substituted_14 rfl rfl rfl rfl (Nat.le_of_ble_eq_true rfl) tw_1347 tw_886 tw_887 tw_96 cw_Ar_lettersOf hy_Ar_lettersOf (Nat.le_of_ble_eq_true rfl) (p_Ar_lettersOf d a0 (2 : Int32) h2) fun x3 h3 => ?_
  refine gk_astore_n (pc := 17) (L' := [(3, va_rf x3), (2, va_rf x2), (1, va_rf x1), (0, va_rf a0)]) d_Wo_substituted_17 (Nat.le_of_ble_eq_true rfl) (by simp [gk_s1, gk_s2, gk_cat_rf, gk_catI, gk_catJ, gk_catD] <;> decide) ?_
  refine gk_aload_n (pc := 18) 3 d_Wo_substituted_18 rfl ?_
  refine gk_callV (pc := 19) (d := (d + 8)) (w' := gv_I) (as := []) (n := 0) 4 d_Wo_substituted_19 rfl rfl rfl rfl (Nat.le_of_ble_eq_true rfl) tw_1392 tw_1030 tw_1031 tw_96 cw_Ar_howMany hy_Ar_howMany (Nat.le_of_ble_eq_true rfl) (p_Ar_howMany (d + 8) a0 h3) fun x4 h4 => ?_
  refine gk_iconst (pc := 22) (4 : Int32) d_Wo_substituted_22 rfl ?_
  refine gk_icmp_ge (pc := 23) 30 d_Wo_substituted_23 rfl (fun _ => ?_) (fun _ => ?_)
  · refine gk_iconst (pc := 30) (0 : Int32) d_Wo_substituted_30 rfl ?_
    refine gk_weak [3, 2, 1, 0] (L' := [(0, va_rf a0), (1, va_rf x1), (2, va_rf x2), (3, va_rf x3)]) rfl ?_
    exact p_Wo_substituted_b31 d a0 x1 x2 x3 (0 : Int32) h4
  · refine gk_iconst (pc := 26) (1 : Int32) d_Wo_substituted_26 rfl ?_
    refine gk_goto (pc := 27) 31 d_Wo_substituted_27 rfl ?_
    refine gk_weak [3, 2, 1, 0] (L' := [(0, va_rf a0), (1, va_rf x1), (2, va_rf x2), (3, va_rf x3)]) rfl ?_
    exact p_Wo_substituted_b31 d a0 x1 x2 x3 (1 : Int32) h4
theorem p_Wo_substituted (d : Nat) (a0 : Option Nat) (h : gk_H) : ∀ r h1, f_Wo_substituted a0 h = some (r, h1) → gk_M (d + 9) y_Wo_substituted b_Wo_substituted 11 (some (.object "ValueAlgebra$Value")) [va_rf a0] h (.inl (gv_R r)) h1 :=
  fun r h1 e => gk_M_of2 (by decide +kernel) (by simp [lv_args, gk_cat_rf, gk_catI, gk_catJ, gk_catD, gv_V, gv_I, gv_J, gv_D, gv_R]) (by simp [lg_sl, gk_cat_rf, gk_catI, gk_catJ, gk_catD, gv_V, gv_I, gv_J, gv_D, gv_R]) (w_Wo_substituted d a0 h r h1 e)
theorem d_Wo_repeated_0 : decode b_Wo_repeated 0 = .ok (.lload_n 1, 1) := by decide +kernel
theorem d_Wo_repeated_1 : decode b_Wo_repeated 1 = .ok (.lconst 0, 1) := by decide +kernel
theorem d_Wo_repeated_2 : decode b_Wo_repeated 2 = .ok (.lcmp, 1) := by decide +kernel
theorem d_Wo_repeated_3 : decode b_Wo_repeated 3 = .ok (.ifCond .lt 17, 3) := by decide +kernel
theorem d_Wo_repeated_6 : decode b_Wo_repeated 6 = .ok (.aload_n 0, 1) := by decide +kernel
theorem d_Wo_repeated_7 : decode b_Wo_repeated 7 = .ok (.invokevirtual 15, 3) := by decide +kernel
theorem d_Wo_repeated_10 : decode b_Wo_repeated 10 = .ok (.i2l, 1) := by decide +kernel
theorem d_Wo_repeated_11 : decode b_Wo_repeated 11 = .ok (.lload_n 1, 1) := by decide +kernel
theorem d_Wo_repeated_12 : decode b_Wo_repeated 12 = .ok (.lmul, 1) := by decide +kernel
theorem d_Wo_repeated_13 : decode b_Wo_repeated 13 = .ok (.ldc2_w 148, 3) := by decide +kernel
theorem d_Wo_repeated_16 : decode b_Wo_repeated 16 = .ok (.lcmp, 1) := by decide +kernel
theorem d_Wo_repeated_17 : decode b_Wo_repeated 17 = .ok (.ifCond .le 8, 3) := by decide +kernel
theorem d_Wo_repeated_20 : decode b_Wo_repeated 20 = .ok (.iconst 3, 1) := by decide +kernel
theorem d_Wo_repeated_21 : decode b_Wo_repeated 21 = .ok (.invokestatic 89, 3) := by decide +kernel
theorem d_Wo_repeated_24 : decode b_Wo_repeated 24 = .ok (.areturn, 1) := by decide +kernel
theorem d_Wo_repeated_25 : decode b_Wo_repeated 25 = .ok (.new 113, 3) := by decide +kernel
theorem d_Wo_repeated_28 : decode b_Wo_repeated 28 = .ok (.dup, 1) := by decide +kernel
theorem d_Wo_repeated_29 : decode b_Wo_repeated 29 = .ok (.invokespecial 115, 3) := by decide +kernel
theorem d_Wo_repeated_32 : decode b_Wo_repeated 32 = .ok (.astore_n 3, 1) := by decide +kernel
theorem d_Wo_repeated_33 : decode b_Wo_repeated 33 = .ok (.iconst 0, 1) := by decide +kernel
theorem d_Wo_repeated_34 : decode b_Wo_repeated 34 = .ok (.istore 4, 2) := by decide +kernel
theorem d_Wo_repeated_36 : decode b_Wo_repeated 36 = .ok (.iload 4, 2) := by decide +kernel
theorem d_Wo_repeated_38 : decode b_Wo_repeated 38 = .ok (.i2l, 1) := by decide +kernel
theorem d_Wo_repeated_39 : decode b_Wo_repeated 39 = .ok (.lload_n 1, 1) := by decide +kernel
theorem d_Wo_repeated_40 : decode b_Wo_repeated 40 = .ok (.lcmp, 1) := by decide +kernel
theorem d_Wo_repeated_41 : decode b_Wo_repeated 41 = .ok (.ifCond .ge 23, 3) := by decide +kernel
theorem d_Wo_repeated_44 : decode b_Wo_repeated 44 = .ok (.iload 4, 2) := by decide +kernel
theorem d_Wo_repeated_46 : decode b_Wo_repeated 46 = .ok (.sipush 255, 3) := by decide +kernel
theorem d_Wo_repeated_49 : decode b_Wo_repeated 49 = .ok (.if_icmp .ge 15, 3) := by decide +kernel
theorem d_Wo_repeated_52 : decode b_Wo_repeated 52 = .ok (.aload_n 3, 1) := by decide +kernel
theorem d_Wo_repeated_53 : decode b_Wo_repeated 53 = .ok (.aload_n 0, 1) := by decide +kernel
theorem d_Wo_repeated_54 : decode b_Wo_repeated 54 = .ok (.invokevirtual 145, 3) := by decide +kernel
theorem d_Wo_repeated_57 : decode b_Wo_repeated 57 = .ok (.pop, 1) := by decide +kernel
theorem d_Wo_repeated_58 : decode b_Wo_repeated 58 = .ok (.iinc 4 1, 3) := by decide +kernel
theorem d_Wo_repeated_61 : decode b_Wo_repeated 61 = .ok (.goto (-25), 3) := by decide +kernel
theorem d_Wo_repeated_64 : decode b_Wo_repeated 64 = .ok (.aload_n 3, 1) := by decide +kernel
theorem d_Wo_repeated_65 : decode b_Wo_repeated 65 = .ok (.invokevirtual 137, 3) := by decide +kernel
theorem d_Wo_repeated_68 : decode b_Wo_repeated 68 = .ok (.invokestatic 110, 3) := by decide +kernel
theorem d_Wo_repeated_71 : decode b_Wo_repeated 71 = .ok (.areturn, 1) := by decide +kernel
theorem p_Wo_repeated_b20 (d : Nat)   (h : gk_H) : gk_P gw_R (d + 6) y_Wo_repeated b_Wo_repeated 5 (some (.object "ValueAlgebra$Value")) [] (f_Wo_repeated_b20   h) 20 [] [] h := by
  unfold f_Wo_repeated_b20
  refine gk_iconst (pc := 20) (3 : Int32) d_Wo_repeated_20 rfl ?_
  refine gk_callS (pc := 21) (d := (d + 5)) (w' := gv_R) (as := [.int (3 : Int32)]) (n := 1) d_Wo_repeated_21 rfl rfl (Nat.le_of_ble_eq_true rfl) tw_1354 tw_236 tw_97 cw_Va_ofError hy_Va_ofError (Nat.le_of_ble_eq_true rfl) (p_Va_ofError (d + 3) (3 : Int32) h) fun x1 h1 => ?_
  exact gk_aret (pc := 24) rfl d_Wo_repeated_24 rfl (Or.inl ⟨_, rfl⟩)
theorem p_Wo_repeated_b64 (d : Nat)  (v3 : Option Nat) (h : gk_H) : gk_P gw_R (d + 6) y_Wo_repeated b_Wo_repeated 5 (some (.object "ValueAlgebra$Value")) [] (f_Wo_repeated_b64  v3 h) 64 [(3, va_rf v3)] [] h := by
  unfold f_Wo_repeated_b64
  refine gk_aload_n (pc := 64) 0 d_Wo_repeated_64 rfl ?_
  refine gk_callV (pc := 65) (d := (d + 5)) (w' := gv_R) (as := []) (n := 0) 1 d_Wo_repeated_65 rfl rfl rfl rfl (Nat.le_of_ble_eq_true rfl) tw_1384 tw_532 tw_533 tw_93 cw_SB_toString hy_SB_toString (Nat.le_of_ble_eq_true rfl) (p_SB_toString d v3 h) fun x1 h1 => ?_
  refine gk_callS (pc := 68) (d := (d + 5)) (w' := gv_R) (as := [va_rf x1]) (n := 1) d_Wo_repeated_68 rfl rfl (Nat.le_of_ble_eq_true rfl) tw_1365 tw_663 tw_97 cw_Va_ofText hy_Va_ofText (Nat.le_of_ble_eq_true rfl) (p_Va_ofText (d + 3) x1 h1) fun x2 h2 => ?_
  exact gk_aret (pc := 71) rfl d_Wo_repeated_71 rfl (Or.inl ⟨_, rfl⟩)
theorem p_Wo_repeated_b36 (d : Nat)  : ∀ (fu : Nat) (v0 : Option Nat) (v1 : Int64) (v3 : Option Nat) (v4 : Int32) (h : gk_H), gk_P gw_R (d + 6) y_Wo_repeated b_Wo_repeated 5 (some (.object "ValueAlgebra$Value")) [] (f_Wo_repeated_b36  fu v0 v1 v3 v4 h) 36 [(0, va_rf v0), (1, .long v1), (3, va_rf v3), (4, .int v4)] [] h := by
  intro fu
  induction fu with
  | zero => intros; exact gk_none
  | succ fu q36 =>
    intro v0 v1 v3 v4 h
    rw [f_Wo_repeated_b36]
    refine gk_iload (pc := 36) 3 d_Wo_repeated_36 rfl ?_
    refine gk_i2l (pc := 38) d_Wo_repeated_38 ?_
    refine gk_lload_n (pc := 39) 1 d_Wo_repeated_39 rfl ?_
    refine gk_lcmp (pc := 40) d_Wo_repeated_40 ?_
    refine gk_if_ge (pc := 41) 64 d_Wo_repeated_41 rfl (fun _ => ?_) (fun _ => ?_)
    · refine gk_weak [2] (L' := [(3, va_rf v3)]) rfl ?_
      exact p_Wo_repeated_b64 d v3 h
    · refine gk_iload (pc := 44) 3 d_Wo_repeated_44 rfl ?_
      refine gk_sipush (pc := 46) (255 : Int32) d_Wo_repeated_46 rfl ?_
      refine gk_icmp_ge (pc := 49) 64 d_Wo_repeated_49 rfl (fun _ => ?_) (fun _ => ?_)
      · refine gk_weak [2] (L' := [(3, va_rf v3)]) rfl ?_
        exact p_Wo_repeated_b64 d v3 h
      · refine gk_aload_n (pc := 52) 2 d_Wo_repeated_52 rfl ?_
        refine gk_aload_n (pc := 53) 0 d_Wo_repeated_53 rfl ?_
        refine gk_callV (pc := 54) (d := (d + 5)) (w' := gv_R) (as := [va_rf v0]) (n := 1) 1 d_Wo_repeated_54 rfl rfl rfl rfl (Nat.le_of_ble_eq_true rfl) tw_1393 tw_599 tw_600 tw_93 cw_SB_append_String hy_SB_append_String (Nat.le_of_ble_eq_true rfl) (p_SB_append_String d v3 v0 h) fun x1 h1 => ?_
        refine gk_pop (pc := 57) d_Wo_repeated_57 (gk_cat_rf _) ?_
        refine gk_iincN (pc := 58) 3 (1 : Int32) (L' := fun x2 => [(4, .int x2), (0, va_rf v0), (1, .long v1), (3, va_rf v3)]) d_Wo_repeated_58 rfl rfl (Nat.le_of_ble_eq_true rfl) (fun _ => by simp [gk_s1, gk_cat_rf, gk_catI, gk_catJ, gk_catD] <;> decide) fun x2 => ?_
        refine gk_goto (pc := 61) 36 d_Wo_repeated_61 rfl ?_
        refine gk_weak [1, 2, 3, 0] (L' := [(0, va_rf v0), (1, .long v1), (3, va_rf v3), (4, .int x2)]) rfl ?_
        exact q36 v0 v1 v3 x2 h1
theorem w_Wo_repeated (d : Nat) (a0 : Option Nat) (a1 : Int64) (h : gk_H) : gk_P gw_R (d + 6) y_Wo_repeated b_Wo_repeated 5 (some (.object "ValueAlgebra$Value")) [] (f_Wo_repeated a0 a1 h) 0 [(0, va_rf a0), (1, .long a1)] [] h := by
  unfold f_Wo_repeated
  refine gk_lload_n (pc := 0) 1 d_Wo_repeated_0 rfl ?_
  refine gk_lconst (pc := 1) (0 : Int64) d_Wo_repeated_1 rfl ?_
  refine gk_lcmp (pc := 2) d_Wo_repeated_2 ?_
  refine gk_if_lt (pc := 3) 20 d_Wo_repeated_3 rfl (fun _ => ?_) (fun _ => ?_)
  · refine gk_weak [] (L' := []) rfl ?_
    exact p_Wo_repeated_b20 d h
  · refine gk_aload_n (pc := 6) 0 d_Wo_repeated_6 rfl ?_
    refine gk_callV (pc := 7) (d := (d + 5)) (w' := gv_I) (as := []) (n := 0) 0 d_Wo_repeated_7 rfl rfl rfl rfl (Nat.le_of_ble_eq_true rfl) tw_1348 tw_613 tw_614 tw_94 cw_St_length hy_St_length (Nat.le_of_ble_eq_true rfl) (p_St_length (d + 4) a0 h) fun x1 h1 => ?_
    refine gk_i2l (pc := 10) d_Wo_repeated_10 ?_
    refine gk_lload_n (pc := 11) 1 d_Wo_repeated_11 rfl ?_
    refine gk_lmul (pc := 12) d_Wo_repeated_12 ?_
    refine gk_ldc2 (pc := 13) tw_1397 d_Wo_repeated_13 ?_
    refine gk_lcmp (pc := 16) d_Wo_repeated_16 ?_
    refine gk_if_le (pc := 17) 25 d_Wo_repeated_17 rfl (fun _ => ?_) (fun _ => ?_)
    · refine gk_newO (pc := 25) 1 4 d_Wo_repeated_25 rfl tw_1373 tw_136 tw_93 fun x2 h2 => ?_
      refine gk_dup (pc := 28) d_Wo_repeated_28 (gk_cat_rf _) ?_
      refine gk_callI (pc := 29) (d := (d + 5)) (w' := gv_V) (as := []) (n := 0) 1 d_Wo_repeated_29 rfl rfl (by simp [gk_cat_rf, gk_catI, gk_catJ, gk_catD, gv_V, gv_I, gv_J, gv_D, gv_R]) tw_1374 tw_138 tw_93 cw_SB_init rfl hy_SB_init (Nat.le_of_ble_eq_true rfl) (p_SB_init (d + 3) x2 h2) fun _ h3 => ?_
      refine gk_astore_n (pc := 32) (L' := [(3, va_rf x2), (0, va_rf a0), (1, .long a1)]) d_Wo_repeated_32 (Nat.le_of_ble_eq_true rfl) rfl ?_
      refine gk_iconst (pc := 33) (0 : Int32) d_Wo_repeated_33 rfl ?_
      refine gk_istore (pc := 34) (L' := [(4, .int (0 : Int32)), (3, va_rf x2), (0, va_rf a0), (1, .long a1)]) d_Wo_repeated_34 (Nat.le_of_ble_eq_true rfl) (by simp [gk_s1, gk_s2, gk_cat_rf, gk_catI, gk_catJ, gk_catD] <;> decide) ?_
      refine gk_weak [2, 3, 1, 0] (L' := [(0, va_rf a0), (1, .long a1), (3, va_rf x2), (4, .int (0 : Int32))]) rfl ?_
      exact p_Wo_repeated_b36 d gk_F a0 a1 x2 (0 : Int32) h3
    · refine gk_weak [] (L' := []) rfl ?_
      exact p_Wo_repeated_b20 d h1
theorem p_Wo_repeated (d : Nat) (a0 : Option Nat) (a1 : Int64) (h : gk_H) : ∀ r h1, f_Wo_repeated a0 a1 h = some (r, h1) → gk_M (d + 6) y_Wo_repeated b_Wo_repeated 5 (some (.object "ValueAlgebra$Value")) [va_rf a0, .long a1] h (.inl (gv_R r)) h1 :=
  fun r h1 e => gk_M_of2 (by decide +kernel) (by simp [lv_args, gk_cat_rf, gk_catI, gk_catJ, gk_catD, gv_V, gv_I, gv_J, gv_D, gv_R]) (by simp [lg_sl, gk_cat_rf, gk_catI, gk_catJ, gk_catD, gv_V, gv_I, gv_J, gv_D, gv_R]) (w_Wo_repeated d a0 a1 h r h1 e)
theorem d_Wo_joined_0 : decode b_Wo_joined 0 = .ok (.new 113, 3) := by decide +kernel
theorem d_Wo_joined_3 : decode b_Wo_joined 3 = .ok (.dup, 1) := by decide +kernel
theorem d_Wo_joined_4 : decode b_Wo_joined 4 = .ok (.invokespecial 115, 3) := by decide +kernel
theorem d_Wo_joined_7 : decode b_Wo_joined 7 = .ok (.astore_n 1, 1) := by decide +kernel
theorem d_Wo_joined_8 : decode b_Wo_joined 8 = .ok (.iconst 0, 1) := by decide +kernel
theorem d_Wo_joined_9 : decode b_Wo_joined 9 = .ok (.istore_n 2, 1) := by decide +kernel
theorem d_Wo_joined_10 : decode b_Wo_joined 10 = .ok (.iload_n 2, 1) := by decide +kernel
theorem d_Wo_joined_11 : decode b_Wo_joined 11 = .ok (.aload_n 0, 1) := by decide +kernel
theorem d_Wo_joined_12 : decode b_Wo_joined 12 = .ok (.invokevirtual 142, 3) := by decide +kernel
theorem d_Wo_joined_15 : decode b_Wo_joined 15 = .ok (.if_icmp .ge 31, 3) := by decide +kernel
theorem d_Wo_joined_18 : decode b_Wo_joined 18 = .ok (.aload_n 0, 1) := by decide +kernel
theorem d_Wo_joined_19 : decode b_Wo_joined 19 = .ok (.iload_n 2, 1) := by decide +kernel
theorem d_Wo_joined_20 : decode b_Wo_joined 20 = .ok (.invokevirtual 9, 3) := by decide +kernel
theorem d_Wo_joined_23 : decode b_Wo_joined 23 = .ok (.astore_n 3, 1) := by decide +kernel
theorem d_Wo_joined_24 : decode b_Wo_joined 24 = .ok (.aload_n 1, 1) := by decide +kernel
theorem d_Wo_joined_25 : decode b_Wo_joined 25 = .ok (.invokevirtual 141, 3) := by decide +kernel
theorem d_Wo_joined_28 : decode b_Wo_joined 28 = .ok (.sipush 255, 3) := by decide +kernel
theorem d_Wo_joined_31 : decode b_Wo_joined 31 = .ok (.if_icmp .gt 9, 3) := by decide +kernel
theorem d_Wo_joined_34 : decode b_Wo_joined 34 = .ok (.aload_n 1, 1) := by decide +kernel
theorem d_Wo_joined_35 : decode b_Wo_joined 35 = .ok (.aload_n 3, 1) := by decide +kernel
theorem d_Wo_joined_36 : decode b_Wo_joined 36 = .ok (.invokevirtual 145, 3) := by decide +kernel
theorem d_Wo_joined_39 : decode b_Wo_joined 39 = .ok (.pop, 1) := by decide +kernel
theorem d_Wo_joined_40 : decode b_Wo_joined 40 = .ok (.iinc 2 1, 3) := by decide +kernel
theorem d_Wo_joined_43 : decode b_Wo_joined 43 = .ok (.goto (-33), 3) := by decide +kernel
theorem d_Wo_joined_46 : decode b_Wo_joined 46 = .ok (.aload_n 1, 1) := by decide +kernel
theorem d_Wo_joined_47 : decode b_Wo_joined 47 = .ok (.invokevirtual 137, 3) := by decide +kernel
theorem d_Wo_joined_50 : decode b_Wo_joined 50 = .ok (.invokestatic 110, 3) := by decide +kernel
theorem d_Wo_joined_53 : decode b_Wo_joined 53 = .ok (.areturn, 1) := by decide +kernel
theorem p_Wo_joined_b40 (d : Nat) (b10 : Option Nat → Option Nat → Int32 → gk_H → Option ((Option Nat) × gk_H)) (q10 : ∀ (v0 : Option Nat) (v1 : Option Nat) (v2 : Int32) (h : gk_H), gk_P gw_R (d + 9) y_Wo_joined b_Wo_joined 4 (some (.object "ValueAlgebra$Value")) [] (b10 v0 v1 v2 h) 10 [(0, va_rf v0), (1, va_rf v1), (2, .int v2)] [] h) (v0 : Option Nat) (v1 : Option Nat) (v2 : Int32) (h : gk_H) : gk_P gw_R (d + 9) y_Wo_joined b_Wo_joined 4 (some (.object "ValueAlgebra$Value")) [] (f_Wo_joined_b40 b10 v0 v1 v2 h) 40 [(0, va_rf v0), (1, va_rf v1), (2, .int v2)] [] h := by
  unfold f_Wo_joined_b40
  refine gk_iincN (pc := 40) 2 (1 : Int32) (L' := fun x1 => [(2, .int x1), (0, va_rf v0), (1, va_rf v1)]) d_Wo_joined_40 rfl rfl (Nat.le_of_ble_eq_true rfl) (fun _ => by simp [gk_s1, gk_cat_rf, gk_catI, gk_catJ, gk_catD] <;> decide) fun x1 => ?_
  refine gk_goto (pc := 43) 10 d_Wo_joined_43 rfl ?_
  refine gk_weak [1, 2, 0] (L' := [(0, va_rf v0), (1, va_rf v1), (2, .int x1)]) rfl ?_
  exact q10 v0 v1 x1 h
theorem p_Wo_joined_b10 (d : Nat)  : ∀ (fu : Nat) (v0 : Option Nat) (v1 : Option Nat) (v2 : Int32) (h : gk_H), gk_P gw_R (d + 9) y_Wo_joined b_Wo_joined 4 (some (.object "ValueAlgebra$Value")) [] (f_Wo_joined_b10  fu v0 v1 v2 h) 10 [(0, va_rf v0), (1, va_rf v1), (2, .int v2)] [] h := by
  intro fu
  induction fu with
  | zero => intros; exact gk_none
  | succ fu q10 =>
    intro v0 v1 v2 h
    rw [f_Wo_joined_b10]
    refine gk_iload_n (pc := 10) 2 d_Wo_joined_10 rfl ?_
    refine gk_aload_n (pc := 11) 0 d_Wo_joined_11 rfl ?_
    refine gk_callV (pc := 12) (d := (d + 8)) (w' := gv_I) (as := []) (n := 0) 4 d_Wo_joined_12 rfl rfl rfl rfl (Nat.le_of_ble_eq_true rfl) tw_1392 tw_1030 tw_1031 tw_96 cw_Ar_howMany hy_Ar_howMany (Nat.le_of_ble_eq_true rfl) (p_Ar_howMany (d + 8) v0 h) fun x1 h1 => ?_
    refine gk_icmp_ge (pc := 15) 46 d_Wo_joined_15 rfl (fun _ => ?_) (fun _ => ?_)
    · refine gk_aload_n (pc := 46) 1 d_Wo_joined_46 rfl ?_
      refine gk_callV (pc := 47) (d := (d + 8)) (w' := gv_R) (as := []) (n := 0) 1 d_Wo_joined_47 rfl rfl rfl rfl (Nat.le_of_ble_eq_true rfl) tw_1384 tw_532 tw_533 tw_93 cw_SB_toString hy_SB_toString (Nat.le_of_ble_eq_true rfl) (p_SB_toString (d + 3) v1 h1) fun x2 h2 => ?_
      refine gk_callS (pc := 50) (d := (d + 8)) (w' := gv_R) (as := [va_rf x2]) (n := 1) d_Wo_joined_50 rfl rfl (Nat.le_of_ble_eq_true rfl) tw_1365 tw_663 tw_97 cw_Va_ofText hy_Va_ofText (Nat.le_of_ble_eq_true rfl) (p_Va_ofText (d + 6) x2 h2) fun x3 h3 => ?_
      exact gk_aret (pc := 53) rfl d_Wo_joined_53 rfl (Or.inl ⟨_, rfl⟩)
    · refine gk_aload_n (pc := 18) 0 d_Wo_joined_18 rfl ?_
      refine gk_iload_n (pc := 19) 2 d_Wo_joined_19 rfl ?_
      refine gk_callV (pc := 20) (d := (d + 8)) (w' := gv_R) (as := [.int v2]) (n := 1) 4 d_Wo_joined_20 rfl rfl rfl rfl (Nat.le_of_ble_eq_true rfl) tw_1347 tw_886 tw_887 tw_96 cw_Ar_lettersOf hy_Ar_lettersOf (Nat.le_of_ble_eq_true rfl) (p_Ar_lettersOf d v0 v2 h1) fun x4 h4 => ?_
      refine gk_astore_n (pc := 23) (L' := [(3, va_rf x4), (0, va_rf v0), (1, va_rf v1), (2, .int v2)]) d_Wo_joined_23 (Nat.le_of_ble_eq_true rfl) rfl ?_
      refine gk_aload_n (pc := 24) 2 d_Wo_joined_24 rfl ?_
      refine gk_callV (pc := 25) (d := (d + 8)) (w' := gv_I) (as := []) (n := 0) 1 d_Wo_joined_25 rfl rfl rfl rfl (Nat.le_of_ble_eq_true rfl) tw_1388 tw_422 tw_423 tw_93 cw_SB_length hy_SB_length (Nat.le_of_ble_eq_true rfl) (p_SB_length (d + 7) v1 h4) fun x5 h5 => ?_
      refine gk_sipush (pc := 28) (255 : Int32) d_Wo_joined_28 rfl ?_
      refine gk_icmp_gt (pc := 31) 40 d_Wo_joined_31 rfl (fun _ => ?_) (fun _ => ?_)
      · refine gk_weak [1, 2, 3] (L' := [(0, va_rf v0), (1, va_rf v1), (2, .int v2)]) rfl ?_
        exact p_Wo_joined_b40 d (f_Wo_joined_b10 fu) q10 v0 v1 v2 h5
      · refine gk_aload_n (pc := 34) 2 d_Wo_joined_34 rfl ?_
        refine gk_aload_n (pc := 35) 0 d_Wo_joined_35 rfl ?_
        refine gk_callV (pc := 36) (d := (d + 8)) (w' := gv_R) (as := [va_rf x4]) (n := 1) 1 d_Wo_joined_36 rfl rfl rfl rfl (Nat.le_of_ble_eq_true rfl) tw_1393 tw_599 tw_600 tw_93 cw_SB_append_String hy_SB_append_String (Nat.le_of_ble_eq_true rfl) (p_SB_append_String (d + 3) v1 x4 h5) fun x6 h6 => ?_
        refine gk_pop (pc := 39) d_Wo_joined_39 (gk_cat_rf _) ?_
        refine gk_weak [1, 2, 3] (L' := [(0, va_rf v0), (1, va_rf v1), (2, .int v2)]) rfl ?_
        exact p_Wo_joined_b40 d (f_Wo_joined_b10 fu) q10 v0 v1 v2 h6
theorem w_Wo_joined (d : Nat) (a0 : Option Nat) (h : gk_H) : gk_P gw_R (d + 9) y_Wo_joined b_Wo_joined 4 (some (.object "ValueAlgebra$Value")) [] (f_Wo_joined a0 h) 0 [(0, va_rf a0)] [] h := by
  unfold f_Wo_joined
  refine gk_newO (pc := 0) 1 4 d_Wo_joined_0 rfl tw_1373 tw_136 tw_93 fun x1 h1 => ?_
  refine gk_dup (pc := 3) d_Wo_joined_3 (gk_cat_rf _) ?_
  refine gk_callI (pc := 4) (d := (d + 8)) (w' := gv_V) (as := []) (n := 0) 1 d_Wo_joined_4 rfl rfl (by simp [gk_cat_rf, gk_catI, gk_catJ, gk_catD, gv_V, gv_I, gv_J, gv_D, gv_R]) tw_1374 tw_138 tw_93 cw_SB_init rfl hy_SB_init (Nat.le_of_ble_eq_true rfl) (p_SB_init (d + 6) x1 h1) fun _ h2 => ?_
  refine gk_astore_n (pc := 7) (L' := [(1, va_rf x1), (0, va_rf a0)]) d_Wo_joined_7 (Nat.le_of_ble_eq_true rfl) (by simp [gk_s1, gk_s2, gk_cat_rf, gk_catI, gk_catJ, gk_catD] <;> decide) ?_
  refine gk_iconst (pc := 8) (0 : Int32) d_Wo_joined_8 rfl ?_
  refine gk_istore_n (pc := 9) (L' := [(2, .int (0 : Int32)), (1, va_rf x1), (0, va_rf a0)]) d_Wo_joined_9 (Nat.le_of_ble_eq_true rfl) (by simp [gk_s1, gk_s2, gk_cat_rf, gk_catI, gk_catJ, gk_catD] <;> decide) ?_
  refine gk_weak [2, 1, 0] (L' := [(0, va_rf a0), (1, va_rf x1), (2, .int (0 : Int32))]) rfl ?_
  exact p_Wo_joined_b10 d gk_F a0 x1 (0 : Int32) h2
theorem p_Wo_joined (d : Nat) (a0 : Option Nat) (h : gk_H) : ∀ r h1, f_Wo_joined a0 h = some (r, h1) → gk_M (d + 9) y_Wo_joined b_Wo_joined 4 (some (.object "ValueAlgebra$Value")) [va_rf a0] h (.inl (gv_R r)) h1 :=
  fun r h1 e => gk_M_of2 (by decide +kernel) (by simp [lv_args, gk_cat_rf, gk_catI, gk_catJ, gk_catD, gv_V, gv_I, gv_J, gv_D, gv_R]) (by simp [lg_sl, gk_cat_rf, gk_catI, gk_catJ, gk_catD, gv_V, gv_I, gv_J, gv_D, gv_R]) (w_Wo_joined d a0 h r h1 e)
theorem d_Wo_trimmed_0 : decode b_Wo_trimmed 0 = .ok (.new 113, 3) := by decide +kernel
theorem d_Wo_trimmed_3 : decode b_Wo_trimmed 3 = .ok (.dup, 1) := by decide +kernel
theorem d_Wo_trimmed_4 : decode b_Wo_trimmed 4 = .ok (.invokespecial 115, 3) := by decide +kernel
theorem d_Wo_trimmed_7 : decode b_Wo_trimmed 7 = .ok (.astore_n 1, 1) := by decide +kernel
theorem d_Wo_trimmed_8 : decode b_Wo_trimmed 8 = .ok (.iconst 0, 1) := by decide +kernel
theorem d_Wo_trimmed_9 : decode b_Wo_trimmed 9 = .ok (.istore_n 2, 1) := by decide +kernel
theorem d_Wo_trimmed_10 : decode b_Wo_trimmed 10 = .ok (.iconst 0, 1) := by decide +kernel
theorem d_Wo_trimmed_11 : decode b_Wo_trimmed 11 = .ok (.istore_n 3, 1) := by decide +kernel
theorem d_Wo_trimmed_12 : decode b_Wo_trimmed 12 = .ok (.iload_n 3, 1) := by decide +kernel
theorem d_Wo_trimmed_13 : decode b_Wo_trimmed 13 = .ok (.aload_n 0, 1) := by decide +kernel
theorem d_Wo_trimmed_14 : decode b_Wo_trimmed 14 = .ok (.invokevirtual 15, 3) := by decide +kernel
theorem d_Wo_trimmed_17 : decode b_Wo_trimmed 17 = .ok (.if_icmp .ge 59, 3) := by decide +kernel
theorem d_Wo_trimmed_20 : decode b_Wo_trimmed 20 = .ok (.aload_n 0, 1) := by decide +kernel
theorem d_Wo_trimmed_21 : decode b_Wo_trimmed 21 = .ok (.iload_n 3, 1) := by decide +kernel
theorem d_Wo_trimmed_22 : decode b_Wo_trimmed 22 = .ok (.invokevirtual 116, 3) := by decide +kernel
theorem d_Wo_trimmed_25 : decode b_Wo_trimmed 25 = .ok (.istore 4, 2) := by decide +kernel
theorem d_Wo_trimmed_27 : decode b_Wo_trimmed 27 = .ok (.iload 4, 2) := by decide +kernel
theorem d_Wo_trimmed_29 : decode b_Wo_trimmed 29 = .ok (.bipush 32, 2) := by decide +kernel
theorem d_Wo_trimmed_31 : decode b_Wo_trimmed 31 = .ok (.if_icmp .ne 19, 3) := by decide +kernel
theorem d_Wo_trimmed_34 : decode b_Wo_trimmed 34 = .ok (.aload_n 1, 1) := by decide +kernel
theorem d_Wo_trimmed_35 : decode b_Wo_trimmed 35 = .ok (.invokevirtual 141, 3) := by decide +kernel
theorem d_Wo_trimmed_38 : decode b_Wo_trimmed 38 = .ok (.ifCond .le 7, 3) := by decide +kernel
theorem d_Wo_trimmed_41 : decode b_Wo_trimmed 41 = .ok (.iconst 1, 1) := by decide +kernel
theorem d_Wo_trimmed_42 : decode b_Wo_trimmed 42 = .ok (.goto 4, 3) := by decide +kernel
theorem d_Wo_trimmed_45 : decode b_Wo_trimmed 45 = .ok (.iconst 0, 1) := by decide +kernel
theorem d_Wo_trimmed_46 : decode b_Wo_trimmed 46 = .ok (.istore_n 2, 1) := by decide +kernel
theorem d_Wo_trimmed_47 : decode b_Wo_trimmed 47 = .ok (.goto 23, 3) := by decide +kernel
theorem d_Wo_trimmed_50 : decode b_Wo_trimmed 50 = .ok (.iload_n 2, 1) := by decide +kernel
theorem d_Wo_trimmed_51 : decode b_Wo_trimmed 51 = .ok (.ifCond .eq 10, 3) := by decide +kernel
theorem d_Wo_trimmed_54 : decode b_Wo_trimmed 54 = .ok (.aload_n 1, 1) := by decide +kernel
theorem d_Wo_trimmed_55 : decode b_Wo_trimmed 55 = .ok (.bipush 32, 2) := by decide +kernel
theorem d_Wo_trimmed_57 : decode b_Wo_trimmed 57 = .ok (.invokevirtual 129, 3) := by decide +kernel
theorem d_Wo_trimmed_60 : decode b_Wo_trimmed 60 = .ok (.pop, 1) := by decide +kernel
theorem d_Wo_trimmed_61 : decode b_Wo_trimmed 61 = .ok (.aload_n 1, 1) := by decide +kernel
theorem d_Wo_trimmed_62 : decode b_Wo_trimmed 62 = .ok (.iload 4, 2) := by decide +kernel
theorem d_Wo_trimmed_64 : decode b_Wo_trimmed 64 = .ok (.invokevirtual 129, 3) := by decide +kernel
theorem d_Wo_trimmed_67 : decode b_Wo_trimmed 67 = .ok (.pop, 1) := by decide +kernel
theorem d_Wo_trimmed_68 : decode b_Wo_trimmed 68 = .ok (.iconst 0, 1) := by decide +kernel
theorem d_Wo_trimmed_69 : decode b_Wo_trimmed 69 = .ok (.istore_n 2, 1) := by decide +kernel
theorem d_Wo_trimmed_70 : decode b_Wo_trimmed 70 = .ok (.iinc 3 1, 3) := by decide +kernel
theorem d_Wo_trimmed_73 : decode b_Wo_trimmed 73 = .ok (.goto (-61), 3) := by decide +kernel
theorem d_Wo_trimmed_76 : decode b_Wo_trimmed 76 = .ok (.aload_n 1, 1) := by decide +kernel
theorem d_Wo_trimmed_77 : decode b_Wo_trimmed 77 = .ok (.invokevirtual 137, 3) := by decide +kernel
theorem d_Wo_trimmed_80 : decode b_Wo_trimmed 80 = .ok (.invokestatic 110, 3) := by decide +kernel
theorem d_Wo_trimmed_83 : decode b_Wo_trimmed 83 = .ok (.areturn, 1) := by decide +kernel
theorem p_Wo_trimmed_b70 (d : Nat) (b12 : Option Nat → Option Nat → Int32 → Int32 → gk_H → Option ((Option Nat) × gk_H)) (q12 : ∀ (v0 : Option Nat) (v1 : Option Nat) (v2 : Int32) (v3 : Int32) (h : gk_H), gk_P gw_R (d + 6) y_Wo_trimmed b_Wo_trimmed 5 (some (.object "ValueAlgebra$Value")) [] (b12 v0 v1 v2 v3 h) 12 [(0, va_rf v0), (1, va_rf v1), (2, .int v2), (3, .int v3)] [] h) (v0 : Option Nat) (v1 : Option Nat) (v2 : Int32) (v3 : Int32) (h : gk_H) : gk_P gw_R (d + 6) y_Wo_trimmed b_Wo_trimmed 5 (some (.object "ValueAlgebra$Value")) [] (f_Wo_trimmed_b70 b12 v0 v1 v2 v3 h) 70 [(0, va_rf v0), (1, va_rf v1), (2, .int v2), (3, .int v3)] [] h := by
  unfold f_Wo_trimmed_b70
  refine gk_iincN (pc := 70) 3 (1 : Int32) (L' := fun x1 => [(3, .int x1), (0, va_rf v0), (1, va_rf v1), (2, .int v2)]) d_Wo_trimmed_70 rfl rfl (Nat.le_of_ble_eq_true rfl) (fun _ => rfl) fun x1 => ?_
  refine gk_goto (pc := 73) 12 d_Wo_trimmed_73 rfl ?_
  refine gk_weak [1, 2, 3, 0] (L' := [(0, va_rf v0), (1, va_rf v1), (2, .int v2), (3, .int x1)]) rfl ?_
  exact q12 v0 v1 v2 x1 h
theorem p_Wo_trimmed_b61 (d : Nat) (b12 : Option Nat → Option Nat → Int32 → Int32 → gk_H → Option ((Option Nat) × gk_H)) (q12 : ∀ (v0 : Option Nat) (v1 : Option Nat) (v2 : Int32) (v3 : Int32) (h : gk_H), gk_P gw_R (d + 6) y_Wo_trimmed b_Wo_trimmed 5 (some (.object "ValueAlgebra$Value")) [] (b12 v0 v1 v2 v3 h) 12 [(0, va_rf v0), (1, va_rf v1), (2, .int v2), (3, .int v3)] [] h) (v0 : Option Nat) (v1 : Option Nat) (v3 : Int32) (v4 : Int32) (h : gk_H) : gk_P gw_R (d + 6) y_Wo_trimmed b_Wo_trimmed 5 (some (.object "ValueAlgebra$Value")) [] (f_Wo_trimmed_b61 b12 v0 v1 v3 v4 h) 61 [(0, va_rf v0), (1, va_rf v1), (3, .int v3), (4, .int v4)] [] h := by
  unfold f_Wo_trimmed_b61
  refine gk_aload_n (pc := 61) 1 d_Wo_trimmed_61 rfl ?_
  refine gk_iload (pc := 62) 3 d_Wo_trimmed_62 rfl ?_
  refine gk_callV (pc := 64) (d := (d + 5)) (w' := gv_R) (as := [.int v4]) (n := 1) 1 d_Wo_trimmed_64 rfl rfl rfl rfl (Nat.le_of_ble_eq_true rfl) tw_1380 tw_430 tw_431 tw_93 cw_SB_append_C hy_SB_append_C (Nat.le_of_ble_eq_true rfl) (p_SB_append_C d v1 v4 h) fun x1 h1 => ?_
  refine gk_pop (pc := 67) d_Wo_trimmed_67 (gk_cat_rf _) ?_
  refine gk_iconst (pc := 68) (0 : Int32) d_Wo_trimmed_68 rfl ?_
  refine gk_istore_n (pc := 69) (L' := [(2, .int (0 : Int32)), (0, va_rf v0), (1, va_rf v1), (3, .int v3), (4, .int v4)]) d_Wo_trimmed_69 (Nat.le_of_ble_eq_true rfl) (by simp [gk_s1, gk_s2, gk_cat_rf, gk_catI, gk_catJ, gk_catD] <;> decide) ?_
  refine gk_weak [1, 2, 0, 3] (L' := [(0, va_rf v0), (1, va_rf v1), (2, .int (0 : Int32)), (3, .int v3)]) rfl ?_
  exact p_Wo_trimmed_b70 d b12 q12 v0 v1 (0 : Int32) v3 h1
theorem p_Wo_trimmed_b46 (d : Nat) (b12 : Option Nat → Option Nat → Int32 → Int32 → gk_H → Option ((Option Nat) × gk_H)) (q12 : ∀ (v0 : Option Nat) (v1 : Option Nat) (v2 : Int32) (v3 : Int32) (h : gk_H), gk_P gw_R (d + 6) y_Wo_trimmed b_Wo_trimmed 5 (some (.object "ValueAlgebra$Value")) [] (b12 v0 v1 v2 v3 h) 12 [(0, va_rf v0), (1, va_rf v1), (2, .int v2), (3, .int v3)] [] h) (v0 : Option Nat) (v1 : Option Nat) (v3 : Int32) (s0 : Int32) (h : gk_H) : gk_P gw_R (d + 6) y_Wo_trimmed b_Wo_trimmed 5 (some (.object "ValueAlgebra$Value")) [] (f_Wo_trimmed_b46 b12 v0 v1 v3 s0 h) 46 [(0, va_rf v0), (1, va_rf v1), (3, .int v3)] [.int s0] h := by
  unfold f_Wo_trimmed_b46
  refine gk_istore_n (pc := 46) (L' := [(2, .int s0), (0, va_rf v0), (1, va_rf v1), (3, .int v3)]) d_Wo_trimmed_46 (Nat.le_of_ble_eq_true rfl) (by simp [gk_s1, gk_s2, gk_cat_rf, gk_catI, gk_catJ, gk_catD] <;> decide) ?_
  refine gk_goto (pc := 47) 70 d_Wo_trimmed_47 rfl ?_
  refine gk_weak [1, 2, 0, 3] (L' := [(0, va_rf v0), (1, va_rf v1), (2, .int s0), (3, .int v3)]) rfl ?_
  exact p_Wo_trimmed_b70 d b12 q12 v0 v1 s0 v3 h
theorem p_Wo_trimmed_b12 (d : Nat)  : ∀ (fu : Nat) (v0 : Option Nat) (v1 : Option Nat) (v2 : Int32) (v3 : Int32) (h : gk_H), gk_P gw_R (d + 6) y_Wo_trimmed b_Wo_trimmed 5 (some (.object "ValueAlgebra$Value")) [] (f_Wo_trimmed_b12  fu v0 v1 v2 v3 h) 12 [(0, va_rf v0), (1, va_rf v1), (2, .int v2), (3, .int v3)] [] h := by
  intro fu
  induction fu with
  | zero => intros; exact gk_none
  | succ fu q12 =>
    intro v0 v1 v2 v3 h
    rw [f_Wo_trimmed_b12]
    refine gk_iload_n (pc := 12) 3 d_Wo_trimmed_12 rfl ?_
    refine gk_aload_n (pc := 13) 0 d_Wo_trimmed_13 rfl ?_
    refine gk_callV (pc := 14) (d := (d + 5)) (w' := gv_I) (as := []) (n := 0) 0 d_Wo_trimmed_14 rfl rfl rfl rfl (Nat.le_of_ble_eq_true rfl) tw_1348 tw_613 tw_614 tw_94 cw_St_length hy_St_length (Nat.le_of_ble_eq_true rfl) (p_St_length (d + 4) v0 h) fun x1 h1 => ?_
    refine gk_icmp_ge (pc := 17) 76 d_Wo_trimmed_17 rfl (fun _ => ?_) (fun _ => ?_)
    · refine gk_aload_n (pc := 76) 1 d_Wo_trimmed_76 rfl ?_
      refine gk_callV (pc := 77) (d := (d + 5)) (w' := gv_R) (as := []) (n := 0) 1 d_Wo_trimmed_77 rfl rfl rfl rfl (Nat.le_of_ble_eq_true rfl) tw_1384 tw_532 tw_533 tw_93 cw_SB_toString hy_SB_toString (Nat.le_of_ble_eq_true rfl) (p_SB_toString d v1 h1) fun x2 h2 => ?_
      refine gk_callS (pc := 80) (d := (d + 5)) (w' := gv_R) (as := [va_rf x2]) (n := 1) d_Wo_trimmed_80 rfl rfl (Nat.le_of_ble_eq_true rfl) tw_1365 tw_663 tw_97 cw_Va_ofText hy_Va_ofText (Nat.le_of_ble_eq_true rfl) (p_Va_ofText (d + 3) x2 h2) fun x3 h3 => ?_
      exact gk_aret (pc := 83) rfl d_Wo_trimmed_83 rfl (Or.inl ⟨_, rfl⟩)
    · refine gk_aload_n (pc := 20) 0 d_Wo_trimmed_20 rfl ?_
      refine gk_iload_n (pc := 21) 3 d_Wo_trimmed_21 rfl ?_
      refine gk_callV (pc := 22) (d := (d + 5)) (w' := gv_I) (as := [.int v3]) (n := 1) 0 d_Wo_trimmed_22 rfl rfl rfl rfl (Nat.le_of_ble_eq_true rfl) tw_1375 tw_811 tw_812 tw_94 cw_St_charAt hy_St_charAt (Nat.le_of_ble_eq_true rfl) (p_St_charAt (d + 2) v0 v3 h1) fun x4 h4 => ?_
      refine gk_istore (pc := 25) (L' := [(4, .int x4), (0, va_rf v0), (1, va_rf v1), (2, .int v2), (3, .int v3)]) d_Wo_trimmed_25 (Nat.le_of_ble_eq_true rfl) rfl ?_
      refine gk_iload (pc := 27) 0 d_Wo_trimmed_27 rfl ?_
      refine gk_bipush (pc := 29) (32 : Int32) d_Wo_trimmed_29 rfl ?_
      refine gk_icmp_ne (pc := 31) 50 d_Wo_trimmed_31 rfl (fun _ => ?_) (fun _ => ?_)
      · refine gk_aload_n (pc := 34) 2 d_Wo_trimmed_34 rfl ?_
        refine gk_callV (pc := 35) (d := (d + 5)) (w' := gv_I) (as := []) (n := 0) 1 d_Wo_trimmed_35 rfl rfl rfl rfl (Nat.le_of_ble_eq_true rfl) tw_1388 tw_422 tw_423 tw_93 cw_SB_length hy_SB_length (Nat.le_of_ble_eq_true rfl) (p_SB_length (d + 4) v1 h4) fun x5 h5 => ?_
        refine gk_if_le (pc := 38) 45 d_Wo_trimmed_38 rfl (fun _ => ?_) (fun _ => ?_)
        · refine gk_iconst (pc := 45) (0 : Int32) d_Wo_trimmed_45 rfl ?_
          refine gk_weak [1, 2, 4] (L' := [(0, va_rf v0), (1, va_rf v1), (3, .int v3)]) rfl ?_
          exact p_Wo_trimmed_b46 d (f_Wo_trimmed_b12 fu) q12 v0 v1 v3 (0 : Int32) h5
        · refine gk_iconst (pc := 41) (1 : Int32) d_Wo_trimmed_41 rfl ?_
          refine gk_goto (pc := 42) 46 d_Wo_trimmed_42 rfl ?_
          refine gk_weak [1, 2, 4] (L' := [(0, va_rf v0), (1, va_rf v1), (3, .int v3)]) rfl ?_
          exact p_Wo_trimmed_b46 d (f_Wo_trimmed_b12 fu) q12 v0 v1 v3 (1 : Int32) h5
      · refine gk_iload_n (pc := 50) 3 d_Wo_trimmed_50 rfl ?_
        refine gk_if_eq (pc := 51) 61 d_Wo_trimmed_51 rfl (fun _ => ?_) (fun _ => ?_)
        · refine gk_weak [1, 2, 4, 0] (L' := [(0, va_rf v0), (1, va_rf v1), (3, .int v3), (4, .int x4)]) rfl ?_
          exact p_Wo_trimmed_b61 d (f_Wo_trimmed_b12 fu) q12 v0 v1 v3 x4 h4
        · refine gk_aload_n (pc := 54) 2 d_Wo_trimmed_54 rfl ?_
          refine gk_bipush (pc := 55) (32 : Int32) d_Wo_trimmed_55 rfl ?_
          refine gk_callV (pc := 57) (d := (d + 5)) (w' := gv_R) (as := [.int (32 : Int32)]) (n := 1) 1 d_Wo_trimmed_57 rfl rfl rfl rfl (Nat.le_of_ble_eq_true rfl) tw_1380 tw_430 tw_431 tw_93 cw_SB_append_C hy_SB_append_C (Nat.le_of_ble_eq_true rfl) (p_SB_append_C d v1 (32 : Int32) h4) fun x6 h6 => ?_
          refine gk_pop (pc := 60) d_Wo_trimmed_60 (gk_cat_rf _) ?_
          refine gk_weak [1, 2, 4, 0] (L' := [(0, va_rf v0), (1, va_rf v1), (3, .int v3), (4, .int x4)]) rfl ?_
          exact p_Wo_trimmed_b61 d (f_Wo_trimmed_b12 fu) q12 v0 v1 v3 x4 h6
theorem w_Wo_trimmed (d : Nat) (a0 : Option Nat) (h : gk_H) : gk_P gw_R (d + 6) y_Wo_trimmed b_Wo_trimmed 5 (some (.object "ValueAlgebra$Value")) [] (f_Wo_trimmed a0 h) 0 [(0, va_rf a0)] [] h := by
  unfold f_Wo_trimmed
  refine gk_newO (pc := 0) 1 4 d_Wo_trimmed_0 rfl tw_1373 tw_136 tw_93 fun x1 h1 => ?_
  refine gk_dup (pc := 3) d_Wo_trimmed_3 (gk_cat_rf _) ?_
  refine gk_callI (pc := 4) (d := (d + 5)) (w' := gv_V) (as := []) (n := 0) 1 d_Wo_trimmed_4 rfl rfl (by simp [gk_cat_rf, gk_catI, gk_catJ, gk_catD, gv_V, gv_I, gv_J, gv_D, gv_R]) tw_1374 tw_138 tw_93 cw_SB_init rfl hy_SB_init (Nat.le_of_ble_eq_true rfl) (p_SB_init (d + 3) x1 h1) fun _ h2 => ?_
  refine gk_astore_n (pc := 7) (L' := [(1, va_rf x1), (0, va_rf a0)]) d_Wo_trimmed_7 (Nat.le_of_ble_eq_true rfl) (by simp [gk_s1, gk_s2, gk_cat_rf, gk_catI, gk_catJ, gk_catD] <;> decide) ?_
  refine gk_iconst (pc := 8) (0 : Int32) d_Wo_trimmed_8 rfl ?_
  refine gk_istore_n (pc := 9) (L' := [(2, .int (0 : Int32)), (1, va_rf x1), (0, va_rf a0)]) d_Wo_trimmed_9 (Nat.le_of_ble_eq_true rfl) (by simp [gk_s1, gk_s2, gk_cat_rf, gk_catI, gk_catJ, gk_catD] <;> decide) ?_
  refine gk_iconst (pc := 10) (0 : Int32) d_Wo_trimmed_10 rfl ?_
  refine gk_istore_n (pc := 11) (L' := [(3, .int (0 : Int32)), (2, .int (0 : Int32)), (1, va_rf x1), (0, va_rf a0)]) d_Wo_trimmed_11 (Nat.le_of_ble_eq_true rfl) rfl ?_
  refine gk_weak [3, 2, 1, 0] (L' := [(0, va_rf a0), (1, va_rf x1), (2, .int (0 : Int32)), (3, .int (0 : Int32))]) rfl ?_
  exact p_Wo_trimmed_b12 d gk_F a0 x1 (0 : Int32) (0 : Int32) h2
theorem p_Wo_trimmed (d : Nat) (a0 : Option Nat) (h : gk_H) : ∀ r h1, f_Wo_trimmed a0 h = some (r, h1) → gk_M (d + 6) y_Wo_trimmed b_Wo_trimmed 5 (some (.object "ValueAlgebra$Value")) [va_rf a0] h (.inl (gv_R r)) h1 :=
  fun r h1 e => gk_M_of2 (by decide +kernel) (by simp [lv_args, gk_cat_rf, gk_catI, gk_catJ, gk_catD, gv_V, gv_I, gv_J, gv_D, gv_R]) (by simp [lg_sl, gk_cat_rf, gk_catI, gk_catJ, gk_catD, gv_V, gv_I, gv_J, gv_D, gv_R]) (w_Wo_trimmed d a0 h r h1 e)
theorem d_Le_small_0 : decode b_Le_small 0 = .ok (.iload_n 0, 1) := by decide +kernel
theorem d_Le_small_1 : decode b_Le_small 1 = .ok (.bipush 65, 2) := by decide +kernel
theorem d_Le_small_3 : decode b_Le_small 3 = .ok (.if_icmp .lt 20, 3) := by decide +kernel
theorem d_Le_small_6 : decode b_Le_small 6 = .ok (.iload_n 0, 1) := by decide +kernel
theorem d_Le_small_7 : decode b_Le_small 7 = .ok (.bipush 90, 2) := by decide +kernel
theorem d_Le_small_9 : decode b_Le_small 9 = .ok (.if_icmp .gt 14, 3) := by decide +kernel
theorem d_Le_small_12 : decode b_Le_small 12 = .ok (.iload_n 0, 1) := by decide +kernel
theorem d_Le_small_13 : decode b_Le_small 13 = .ok (.bipush 65, 2) := by decide +kernel
theorem d_Le_small_15 : decode b_Le_small 15 = .ok (.isub, 1) := by decide +kernel
theorem d_Le_small_16 : decode b_Le_small 16 = .ok (.bipush 97, 2) := by decide +kernel
theorem d_Le_small_18 : decode b_Le_small 18 = .ok (.iadd, 1) := by decide +kernel
theorem d_Le_small_19 : decode b_Le_small 19 = .ok (.i2c, 1) := by decide +kernel
theorem d_Le_small_20 : decode b_Le_small 20 = .ok (.goto 4, 3) := by decide +kernel
theorem d_Le_small_23 : decode b_Le_small 23 = .ok (.iload_n 0, 1) := by decide +kernel
theorem d_Le_small_24 : decode b_Le_small 24 = .ok (.ireturn, 1) := by decide +kernel
theorem p_Le_small_b24 (d : Nat)  (s0 : Int32) (h : gk_H) : gk_P gw_I d y_Le_small b_Le_small 1 (some .char) [] (f_Le_small_b24  s0 h) 24 [] [.int s0] h := by
  unfold f_Le_small_b24
  exact gk_zret (pc := 24) rfl d_Le_small_24 rfl
theorem p_Le_small_b23 (d : Nat)  (v0 : Int32) (h : gk_H) : gk_P gw_I d y_Le_small b_Le_small 1 (some .char) [] (f_Le_small_b23  v0 h) 23 [(0, .int v0)] [] h := by
  unfold f_Le_small_b23
  refine gk_iload_n (pc := 23) 0 d_Le_small_23 rfl ?_
  refine gk_weak [] (L' := []) rfl ?_
  exact p_Le_small_b24 d v0 h
theorem w_Le_small (d : Nat) (a0 : Int32) (h : gk_H) : gk_P gw_I d y_Le_small b_Le_small 1 (some .char) [] (f_Le_small a0 h) 0 [(0, .int a0)] [] h := by
  unfold f_Le_small
  refine gk_iload_n (pc := 0) 0 d_Le_small_0 rfl ?_
  refine gk_bipush (pc := 1) (65 : Int32) d_Le_small_1 rfl ?_
  refine gk_icmp_lt (pc := 3) 23 d_Le_small_3 rfl (fun _ => ?_) (fun _ => ?_)
  · exact p_Le_small_b23 d a0 h
  · refine gk_iload_n (pc := 6) 0 d_Le_small_6 rfl ?_
    refine gk_bipush (pc := 7) (90 : Int32) d_Le_small_7 rfl ?_
    refine gk_icmp_gt (pc := 9) 23 d_Le_small_9 rfl (fun _ => ?_) (fun _ => ?_)
    · exact p_Le_small_b23 d a0 h
    · refine gk_iload_n (pc := 12) 0 d_Le_small_12 rfl ?_
      refine gk_bipush (pc := 13) (65 : Int32) d_Le_small_13 rfl ?_
      refine gk_isub (pc := 15) d_Le_small_15 ?_
      refine gk_bipush (pc := 16) (97 : Int32) d_Le_small_16 rfl ?_
      refine gk_iadd (pc := 18) d_Le_small_18 ?_
      refine gk_i2c (pc := 19) d_Le_small_19 ?_
      refine gk_goto (pc := 20) 24 d_Le_small_20 rfl ?_
      refine gk_weak [] (L' := []) rfl ?_
      exact p_Le_small_b24 d (UInt32.toInt32 (Int32.toUInt32 ((a0 - (65 : Int32)) + (97 : Int32)) % 65536)) h
theorem p_Le_small (d : Nat) (a0 : Int32) (h : gk_H) : ∀ r h1, f_Le_small a0 h = some (r, h1) → gk_M d y_Le_small b_Le_small 1 (some .char) [.int a0] h (.inl (gv_I r)) h1 :=
  fun r h1 e => gk_M_of2 (by decide +kernel) (by simp [lv_args, gk_cat_rf, gk_catI, gk_catJ, gk_catD, gv_V, gv_I, gv_J, gv_D, gv_R]) (by simp [lg_sl, gk_cat_rf, gk_catI, gk_catJ, gk_catD, gv_V, gv_I, gv_J, gv_D, gv_R]) (w_Le_small d a0 h r h1 e)
theorem d_Le_isLetter_0 : decode b_Le_isLetter 0 = .ok (.iload_n 0, 1) := by decide +kernel
theorem d_Le_isLetter_1 : decode b_Le_isLetter 1 = .ok (.invokestatic 9, 3) := by decide +kernel
theorem d_Le_isLetter_4 : decode b_Le_isLetter 4 = .ok (.bipush 65, 2) := by decide +kernel
theorem d_Le_isLetter_6 : decode b_Le_isLetter 6 = .ok (.if_icmp .lt 16, 3) := by decide +kernel
theorem d_Le_isLetter_9 : decode b_Le_isLetter 9 = .ok (.iload_n 0, 1) := by decide +kernel
theorem d_Le_isLetter_10 : decode b_Le_isLetter 10 = .ok (.invokestatic 9, 3) := by decide +kernel
theorem d_Le_isLetter_13 : decode b_Le_isLetter 13 = .ok (.bipush 90, 2) := by decide +kernel
theorem d_Le_isLetter_15 : decode b_Le_isLetter 15 = .ok (.if_icmp .gt 7, 3) := by decide +kernel
theorem d_Le_isLetter_18 : decode b_Le_isLetter 18 = .ok (.iconst 1, 1) := by decide +kernel
theorem d_Le_isLetter_19 : decode b_Le_isLetter 19 = .ok (.goto 4, 3) := by decide +kernel
theorem d_Le_isLetter_22 : decode b_Le_isLetter 22 = .ok (.iconst 0, 1) := by decide +kernel
theorem d_Le_isLetter_23 : decode b_Le_isLetter 23 = .ok (.ireturn, 1) := by decide +kernel
theorem p_Le_isLetter_b23 (d : Nat)  (s0 : Int32) (h : gk_H) : gk_P gw_I (d + 1) y_Le_isLetter b_Le_isLetter 1 (some .boolean) [] (f_Le_isLetter_b23  s0 h) 23 [] [.int s0] h := by
  unfold f_Le_isLetter_b23
  exact gk_zret (pc := 23) rfl d_Le_isLetter_23 rfl
theorem p_Le_isLetter_b22 (d : Nat)   (h : gk_H) : gk_P gw_I (d + 1) y_Le_isLetter b_Le_isLetter 1 (some .boolean) [] (f_Le_isLetter_b22   h) 22 [] [] h := by
  unfold f_Le_isLetter_b22
  refine gk_iconst (pc := 22) (0 : Int32) d_Le_isLetter_22 rfl ?_
  exact p_Le_isLetter_b23 d (0 : Int32) h
theorem w_Le_isLetter (d : Nat) (a0 : Int32) (h : gk_H) : gk_P gw_I (d + 1) y_Le_isLetter b_Le_isLetter 1 (some .boolean) [] (f_Le_isLetter a0 h) 0 [(0, .int a0)] [] h := by
  unfold f_Le_isLetter
  refine gk_iload_n (pc := 0) 0 d_Le_isLetter_0 rfl ?_
  refine gk_callS (pc := 1) (d := d) (w' := gv_I) (as := [.int a0]) (n := 1) d_Le_isLetter_1 rfl rfl (Nat.le_of_ble_eq_true rfl) tw_980 tw_981 tw_116 cw_Le_great hy_Le_great (Nat.le_of_ble_eq_true rfl) (p_Le_great d a0 h) fun x1 h1 => ?_
  refine gk_bipush (pc := 4) (65 : Int32) d_Le_isLetter_4 rfl ?_
  refine gk_icmp_lt (pc := 6) 22 d_Le_isLetter_6 rfl (fun _ => ?_) (fun _ => ?_)
  · refine gk_weak [] (L' := []) rfl ?_
    exact p_Le_isLetter_b22 d h1
  · refine gk_iload_n (pc := 9) 0 d_Le_isLetter_9 rfl ?_
    refine gk_callS (pc := 10) (d := d) (w' := gv_I) (as := [.int a0]) (n := 1) d_Le_isLetter_10 rfl rfl (Nat.le_of_ble_eq_true rfl) tw_980 tw_981 tw_116 cw_Le_great hy_Le_great (Nat.le_of_ble_eq_true rfl) (p_Le_great d a0 h1) fun x2 h2 => ?_
    refine gk_bipush (pc := 13) (90 : Int32) d_Le_isLetter_13 rfl ?_
    refine gk_icmp_gt (pc := 15) 22 d_Le_isLetter_15 rfl (fun _ => ?_) (fun _ => ?_)
    · refine gk_weak [] (L' := []) rfl ?_
      exact p_Le_isLetter_b22 d h2
    · refine gk_iconst (pc := 18) (1 : Int32) d_Le_isLetter_18 rfl ?_
      refine gk_goto (pc := 19) 23 d_Le_isLetter_19 rfl ?_
      refine gk_weak [] (L' := []) rfl ?_
      exact p_Le_isLetter_b23 d (1 : Int32) h2
theorem p_Le_isLetter (d : Nat) (a0 : Int32) (h : gk_H) : ∀ r h1, f_Le_isLetter a0 h = some (r, h1) → gk_M (d + 1) y_Le_isLetter b_Le_isLetter 1 (some .boolean) [.int a0] h (.inl (gv_I r)) h1 :=
  fun r h1 e => gk_M_of2 (by decide +kernel) (by simp [lv_args, gk_cat_rf, gk_catI, gk_catJ, gk_catD, gv_V, gv_I, gv_J, gv_D, gv_R]) (by simp [lg_sl, gk_cat_rf, gk_catI, gk_catJ, gk_catD, gv_V, gv_I, gv_J, gv_D, gv_R]) (w_Le_isLetter d a0 h r h1 e)
theorem d_Wo_recast_0 : decode b_Wo_recast 0 = .ok (.new 113, 3) := by decide +kernel
theorem d_Wo_recast_3 : decode b_Wo_recast 3 = .ok (.dup, 1) := by decide +kernel
theorem d_Wo_recast_4 : decode b_Wo_recast 4 = .ok (.invokespecial 115, 3) := by decide +kernel
theorem d_Wo_recast_7 : decode b_Wo_recast 7 = .ok (.astore_n 2, 1) := by decide +kernel
theorem d_Wo_recast_8 : decode b_Wo_recast 8 = .ok (.iload_n 0, 1) := by decide +kernel
theorem d_Wo_recast_9 : decode b_Wo_recast 9 = .ok (.bipush 61, 2) := by decide +kernel
theorem d_Wo_recast_11 : decode b_Wo_recast 11 = .ok (.if_icmp .eq 7, 3) := by decide +kernel
theorem d_Wo_recast_14 : decode b_Wo_recast 14 = .ok (.iconst 1, 1) := by decide +kernel
theorem d_Wo_recast_15 : decode b_Wo_recast 15 = .ok (.goto 4, 3) := by decide +kernel
theorem d_Wo_recast_18 : decode b_Wo_recast 18 = .ok (.iconst 0, 1) := by decide +kernel
theorem d_Wo_recast_19 : decode b_Wo_recast 19 = .ok (.istore_n 3, 1) := by decide +kernel
theorem d_Wo_recast_20 : decode b_Wo_recast 20 = .ok (.iconst 0, 1) := by decide +kernel
theorem d_Wo_recast_21 : decode b_Wo_recast 21 = .ok (.istore 4, 2) := by decide +kernel
theorem d_Wo_recast_23 : decode b_Wo_recast 23 = .ok (.iload 4, 2) := by decide +kernel
theorem d_Wo_recast_25 : decode b_Wo_recast 25 = .ok (.aload_n 1, 1) := by decide +kernel
theorem d_Wo_recast_26 : decode b_Wo_recast 26 = .ok (.invokevirtual 15, 3) := by decide +kernel
theorem d_Wo_recast_29 : decode b_Wo_recast 29 = .ok (.if_icmp .ge 59, 3) := by decide +kernel
theorem d_Wo_recast_32 : decode b_Wo_recast 32 = .ok (.aload_n 1, 1) := by decide +kernel
theorem d_Wo_recast_33 : decode b_Wo_recast 33 = .ok (.iload 4, 2) := by decide +kernel
theorem d_Wo_recast_35 : decode b_Wo_recast 35 = .ok (.invokevirtual 116, 3) := by decide +kernel
theorem d_Wo_recast_38 : decode b_Wo_recast 38 = .ok (.istore 5, 2) := by decide +kernel
theorem d_Wo_recast_40 : decode b_Wo_recast 40 = .ok (.aload_n 2, 1) := by decide +kernel
theorem d_Wo_recast_41 : decode b_Wo_recast 41 = .ok (.iload_n 3, 1) := by decide +kernel
theorem d_Wo_recast_42 : decode b_Wo_recast 42 = .ok (.ifCond .eq 11, 3) := by decide +kernel
theorem d_Wo_recast_45 : decode b_Wo_recast 45 = .ok (.iload 5, 2) := by decide +kernel
theorem d_Wo_recast_47 : decode b_Wo_recast 47 = .ok (.invokestatic 120, 3) := by decide +kernel
theorem d_Wo_recast_50 : decode b_Wo_recast 50 = .ok (.goto 8, 3) := by decide +kernel
theorem d_Wo_recast_53 : decode b_Wo_recast 53 = .ok (.iload 5, 2) := by decide +kernel
theorem d_Wo_recast_55 : decode b_Wo_recast 55 = .ok (.invokestatic 126, 3) := by decide +kernel
theorem d_Wo_recast_58 : decode b_Wo_recast 58 = .ok (.invokevirtual 129, 3) := by decide +kernel
theorem d_Wo_recast_61 : decode b_Wo_recast 61 = .ok (.pop, 1) := by decide +kernel
theorem d_Wo_recast_62 : decode b_Wo_recast 62 = .ok (.iload_n 0, 1) := by decide +kernel
theorem d_Wo_recast_63 : decode b_Wo_recast 63 = .ok (.bipush 62, 2) := by decide +kernel
theorem d_Wo_recast_65 : decode b_Wo_recast 65 = .ok (.if_icmp .ne 17, 3) := by decide +kernel
theorem d_Wo_recast_68 : decode b_Wo_recast 68 = .ok (.iload 5, 2) := by decide +kernel
theorem d_Wo_recast_70 : decode b_Wo_recast 70 = .ok (.invokestatic 133, 3) := by decide +kernel
theorem d_Wo_recast_73 : decode b_Wo_recast 73 = .ok (.ifCond .ne 7, 3) := by decide +kernel
theorem d_Wo_recast_76 : decode b_Wo_recast 76 = .ok (.iconst 1, 1) := by decide +kernel
theorem d_Wo_recast_77 : decode b_Wo_recast 77 = .ok (.goto 4, 3) := by decide +kernel
theorem d_Wo_recast_80 : decode b_Wo_recast 80 = .ok (.iconst 0, 1) := by decide +kernel
theorem d_Wo_recast_81 : decode b_Wo_recast 81 = .ok (.istore_n 3, 1) := by decide +kernel
theorem d_Wo_recast_82 : decode b_Wo_recast 82 = .ok (.iinc 4 1, 3) := by decide +kernel
theorem d_Wo_recast_85 : decode b_Wo_recast 85 = .ok (.goto (-62), 3) := by decide +kernel
theorem d_Wo_recast_88 : decode b_Wo_recast 88 = .ok (.aload_n 2, 1) := by decide +kernel
theorem d_Wo_recast_89 : decode b_Wo_recast 89 = .ok (.invokevirtual 137, 3) := by decide +kernel
theorem d_Wo_recast_92 : decode b_Wo_recast 92 = .ok (.invokestatic 110, 3) := by decide +kernel
theorem d_Wo_recast_95 : decode b_Wo_recast 95 = .ok (.areturn, 1) := by decide +kernel
theorem p_Wo_recast_b82 (d : Nat) (b23 : Int32 → Option Nat → Option Nat → Int32 → Int32 → gk_H → Option ((Option Nat) × gk_H)) (q23 : ∀ (v0 : Int32) (v1 : Option Nat) (v2 : Option Nat) (v3 : Int32) (v4 : Int32) (h : gk_H), gk_P gw_R (d + 6) y_Wo_recast b_Wo_recast 6 (some (.object "ValueAlgebra$Value")) [] (b23 v0 v1 v2 v3 v4 h) 23 [(0, .int v0), (1, va_rf v1), (2, va_rf v2), (3, .int v3), (4, .int v4)] [] h) (v0 : Int32) (v1 : Option Nat) (v2 : Option Nat) (v3 : Int32) (v4 : Int32) (h : gk_H) : gk_P gw_R (d + 6) y_Wo_recast b_Wo_recast 6 (some (.object "ValueAlgebra$Value")) [] (f_Wo_recast_b82 b23 v0 v1 v2 v3 v4 h) 82 [(0, .int v0), (1, va_rf v1), (2, va_rf v2), (3, .int v3), (4, .int v4)] [] h := by
  unfold f_Wo_recast_b82
  refine gk_iincN (pc := 82) 4 (1 : Int32) (L' := fun x1 => [(4, .int x1), (0, .int v0), (1, va_rf v1), (2, va_rf v2), (3, .int v3)]) d_Wo_recast_82 rfl rfl (Nat.le_of_ble_eq_true rfl) (fun _ => rfl) fun x1 => ?_
  refine gk_goto (pc := 85) 23 d_Wo_recast_85 rfl ?_
  refine gk_weak [1, 2, 3, 4, 0] (L' := [(0, .int v0), (1, va_rf v1), (2, va_rf v2), (3, .int v3), (4, .int x1)]) rfl ?_
  exact q23 v0 v1 v2 v3 x1 h
theorem p_Wo_recast_b81 (d : Nat) (b23 : Int32 → Option Nat → Option Nat → Int32 → Int32 → gk_H → Option ((Option Nat) × gk_H)) (q23 : ∀ (v0 : Int32) (v1 : Option Nat) (v2 : Option Nat) (v3 : Int32) (v4 : Int32) (h : gk_H), gk_P gw_R (d + 6) y_Wo_recast b_Wo_recast 6 (some (.object "ValueAlgebra$Value")) [] (b23 v0 v1 v2 v3 v4 h) 23 [(0, .int v0), (1, va_rf v1), (2, va_rf v2), (3, .int v3), (4, .int v4)] [] h) (v0 : Int32) (v1 : Option Nat) (v2 : Option Nat) (v4 : Int32) (s0 : Int32) (h : gk_H) : gk_P gw_R (d + 6) y_Wo_recast b_Wo_recast 6 (some (.object "ValueAlgebra$Value")) [] (f_Wo_recast_b81 b23 v0 v1 v2 v4 s0 h) 81 [(0, .int v0), (1, va_rf v1), (2, va_rf v2), (4, .int v4)] [.int s0] h := by
  unfold f_Wo_recast_b81
  refine gk_istore_n (pc := 81) (L' := [(3, .int s0), (0, .int v0), (1, va_rf v1), (2, va_rf v2), (4, .int v4)]) d_Wo_recast_81 (Nat.le_of_ble_eq_true rfl) (by simp [gk_s1, gk_s2, gk_cat_rf, gk_catI, gk_catJ, gk_catD] <;> decide) ?_
  refine gk_weak [1, 2, 3, 0, 4] (L' := [(0, .int v0), (1, va_rf v1), (2, va_rf v2), (3, .int s0), (4, .int v4)]) rfl ?_
  exact p_Wo_recast_b82 d b23 q23 v0 v1 v2 s0 v4 h
theorem p_Wo_recast_b58 (d : Nat) (b23 : Int32 → Option Nat → Option Nat → Int32 → Int32 → gk_H → Option ((Option Nat) × gk_H)) (q23 : ∀ (v0 : Int32) (v1 : Option Nat) (v2 : Option Nat) (v3 : Int32) (v4 : Int32) (h : gk_H), gk_P gw_R (d + 6) y_Wo_recast b_Wo_recast 6 (some (.object "ValueAlgebra$Value")) [] (b23 v0 v1 v2 v3 v4 h) 23 [(0, .int v0), (1, va_rf v1), (2, va_rf v2), (3, .int v3), (4, .int v4)] [] h) (v0 : Int32) (v1 : Option Nat) (v2 : Option Nat) (v3 : Int32) (v4 : Int32) (v5 : Int32) (s0 : Option Nat) (s1 : Int32) (h : gk_H) : gk_P gw_R (d + 6) y_Wo_recast b_Wo_recast 6 (some (.object "ValueAlgebra$Value")) [] (f_Wo_recast_b58 b23 v0 v1 v2 v3 v4 v5 s0 s1 h) 58 [(0, .int v0), (1, va_rf v1), (2, va_rf v2), (3, .int v3), (4, .int v4), (5, .int v5)] [.int s1, va_rf s0] h := by
  unfold f_Wo_recast_b58
  refine gk_callV (pc := 58) (d := (d + 5)) (w' := gv_R) (as := [.int s1]) (n := 1) 1 d_Wo_recast_58 rfl rfl rfl rfl (Nat.le_of_ble_eq_true rfl) tw_1380 tw_430 tw_431 tw_93 cw_SB_append_C hy_SB_append_C (Nat.le_of_ble_eq_true rfl) (p_SB_append_C d s0 s1 h) fun x1 h1 => ?_
  refine gk_pop (pc := 61) d_Wo_recast_61 (gk_cat_rf _) ?_
  refine gk_iload_n (pc := 62) 0 d_Wo_recast_62 rfl ?_
  refine gk_bipush (pc := 63) (62 : Int32) d_Wo_recast_63 rfl ?_
  refine gk_icmp_ne (pc := 65) 82 d_Wo_recast_65 rfl (fun _ => ?_) (fun _ => ?_)
  · refine gk_iload (pc := 68) 5 d_Wo_recast_68 rfl ?_
    refine gk_callS (pc := 70) (d := (d + 5)) (w' := gv_I) (as := [.int v5]) (n := 1) d_Wo_recast_70 rfl rfl (Nat.le_of_ble_eq_true rfl) tw_1381 tw_1382 tw_116 cw_Le_isLetter hy_Le_isLetter (Nat.le_of_ble_eq_true rfl) (p_Le_isLetter (d + 4) v5 h1) fun x2 h2 => ?_
    refine gk_if_ne (pc := 73) 80 d_Wo_recast_73 rfl (fun _ => ?_) (fun _ => ?_)
    · refine gk_iconst (pc := 76) (1 : Int32) d_Wo_recast_76 rfl ?_
      refine gk_goto (pc := 77) 81 d_Wo_recast_77 rfl ?_
      refine gk_weak [0, 1, 2, 4] (L' := [(0, .int v0), (1, va_rf v1), (2, va_rf v2), (4, .int v4)]) rfl ?_
      exact p_Wo_recast_b81 d b23 q23 v0 v1 v2 v4 (1 : Int32) h2
    · refine gk_iconst (pc := 80) (0 : Int32) d_Wo_recast_80 rfl ?_
      refine gk_weak [0, 1, 2, 4] (L' := [(0, .int v0), (1, va_rf v1), (2, va_rf v2), (4, .int v4)]) rfl ?_
      exact p_Wo_recast_b81 d b23 q23 v0 v1 v2 v4 (0 : Int32) h2
  · refine gk_weak [0, 1, 2, 3, 4] (L' := [(0, .int v0), (1, va_rf v1), (2, va_rf v2), (3, .int v3), (4, .int v4)]) rfl ?_
    exact p_Wo_recast_b82 d b23 q23 v0 v1 v2 v3 v4 h1
theorem p_Wo_recast_b23 (d : Nat)  : ∀ (fu : Nat) (v0 : Int32) (v1 : Option Nat) (v2 : Option Nat) (v3 : Int32) (v4 : Int32) (h : gk_H), gk_P gw_R (d + 6) y_Wo_recast b_Wo_recast 6 (some (.object "ValueAlgebra$Value")) [] (f_Wo_recast_b23  fu v0 v1 v2 v3 v4 h) 23 [(0, .int v0), (1, va_rf v1), (2, va_rf v2), (3, .int v3), (4, .int v4)] [] h := by
  intro fu
  induction fu with
  | zero => intros; exact gk_none
  | succ fu q23 =>
    intro v0 v1 v2 v3 v4 h
    rw [f_Wo_recast_b23]
    refine gk_iload (pc := 23) 4 d_Wo_recast_23 rfl ?_
    refine gk_aload_n (pc := 25) 1 d_Wo_recast_25 rfl ?_
    refine gk_callV (pc := 26) (d := (d + 5)) (w' := gv_I) (as := []) (n := 0) 0 d_Wo_recast_26 rfl rfl rfl rfl (Nat.le_of_ble_eq_true rfl) tw_1348 tw_613 tw_614 tw_94 cw_St_length hy_St_length (Nat.le_of_ble_eq_true rfl) (p_St_length (d + 4) v1 h) fun x1 h1 => ?_
    refine gk_icmp_ge (pc := 29) 88 d_Wo_recast_29 rfl (fun _ => ?_) (fun _ => ?_)
    · refine gk_aload_n (pc := 88) 2 d_Wo_recast_88 rfl ?_
      refine gk_callV (pc := 89) (d := (d + 5)) (w' := gv_R) (as := []) (n := 0) 1 d_Wo_recast_89 rfl rfl rfl rfl (Nat.le_of_ble_eq_true rfl) tw_1384 tw_532 tw_533 tw_93 cw_SB_toString hy_SB_toString (Nat.le_of_ble_eq_true rfl) (p_SB_toString d v2 h1) fun x2 h2 => ?_
      refine gk_callS (pc := 92) (d := (d + 5)) (w' := gv_R) (as := [va_rf x2]) (n := 1) d_Wo_recast_92 rfl rfl (Nat.le_of_ble_eq_true rfl) tw_1365 tw_663 tw_97 cw_Va_ofText hy_Va_ofText (Nat.le_of_ble_eq_true rfl) (p_Va_ofText (d + 3) x2 h2) fun x3 h3 => ?_
      exact gk_aret (pc := 95) rfl d_Wo_recast_95 rfl (Or.inl ⟨_, rfl⟩)
    · refine gk_aload_n (pc := 32) 1 d_Wo_recast_32 rfl ?_
      refine gk_iload (pc := 33) 4 d_Wo_recast_33 rfl ?_
      refine gk_callV (pc := 35) (d := (d + 5)) (w' := gv_I) (as := [.int v4]) (n := 1) 0 d_Wo_recast_35 rfl rfl rfl rfl (Nat.le_of_ble_eq_true rfl) tw_1375 tw_811 tw_812 tw_94 cw_St_charAt hy_St_charAt (Nat.le_of_ble_eq_true rfl) (p_St_charAt (d + 2) v1 v4 h1) fun x4 h4 => ?_
      refine gk_istore (pc := 38) (L' := [(5, .int x4), (0, .int v0), (1, va_rf v1), (2, va_rf v2), (3, .int v3), (4, .int v4)]) d_Wo_recast_38 (Nat.le_of_ble_eq_true rfl) rfl ?_
      refine gk_aload_n (pc := 40) 3 d_Wo_recast_40 rfl ?_
      refine gk_iload_n (pc := 41) 4 d_Wo_recast_41 rfl ?_
      refine gk_if_eq (pc := 42) 53 d_Wo_recast_42 rfl (fun _ => ?_) (fun _ => ?_)
      · refine gk_iload (pc := 53) 0 d_Wo_recast_53 rfl ?_
        refine gk_callS (pc := 55) (d := (d + 5)) (w' := gv_I) (as := [.int x4]) (n := 1) d_Wo_recast_55 rfl rfl (by simp [gk_cat_rf, gk_catI, gk_catJ, gk_catD, gv_V, gv_I, gv_J, gv_D, gv_R]) tw_1377 tw_1378 tw_116 cw_Le_small hy_Le_small (Nat.le_of_ble_eq_true rfl) (p_Le_small (d + 5) x4 h4) fun x5 h5 => ?_
        refine gk_weak [1, 2, 3, 4, 5, 0] (L' := [(0, .int v0), (1, va_rf v1), (2, va_rf v2), (3, .int v3), (4, .int v4), (5, .int x4)]) rfl ?_
        exact p_Wo_recast_b58 d (f_Wo_recast_b23 fu) q23 v0 v1 v2 v3 v4 x4 v2 x5 h5
      · refine gk_iload (pc := 45) 0 d_Wo_recast_45 rfl ?_
        refine gk_callS (pc := 47) (d := (d + 5)) (w' := gv_I) (as := [.int x4]) (n := 1) d_Wo_recast_47 rfl rfl (by simp [gk_cat_rf, gk_catI, gk_catJ, gk_catD, gv_V, gv_I, gv_J, gv_D, gv_R]) tw_1376 tw_981 tw_116 cw_Le_great hy_Le_great (Nat.le_of_ble_eq_true rfl) (p_Le_great (d + 5) x4 h4) fun x6 h6 => ?_
        refine gk_goto (pc := 50) 58 d_Wo_recast_50 rfl ?_
        refine gk_weak [1, 2, 3, 4, 5, 0] (L' := [(0, .int v0), (1, va_rf v1), (2, va_rf v2), (3, .int v3), (4, .int v4), (5, .int x4)]) rfl ?_
        exact p_Wo_recast_b58 d (f_Wo_recast_b23 fu) q23 v0 v1 v2 v3 v4 x4 v2 x6 h6
theorem p_Wo_recast_b19 (d : Nat)  (v0 : Int32) (v1 : Option Nat) (v2 : Option Nat) (s0 : Int32) (h : gk_H) : gk_P gw_R (d + 6) y_Wo_recast b_Wo_recast 6 (some (.object "ValueAlgebra$Value")) [] (f_Wo_recast_b19  v0 v1 v2 s0 h) 19 [(0, .int v0), (1, va_rf v1), (2, va_rf v2)] [.int s0] h := by
  unfold f_Wo_recast_b19
  refine gk_istore_n (pc := 19) (L' := [(3, .int s0), (0, .int v0), (1, va_rf v1), (2, va_rf v2)]) d_Wo_recast_19 (Nat.le_of_ble_eq_true rfl) (by simp [gk_s1, gk_s2, gk_cat_rf, gk_catI, gk_catJ, gk_catD] <;> decide) ?_
  refine gk_iconst (pc := 20) (0 : Int32) d_Wo_recast_20 rfl ?_
  refine gk_istore (pc := 21) (L' := [(4, .int (0 : Int32)), (3, .int s0), (0, .int v0), (1, va_rf v1), (2, va_rf v2)]) d_Wo_recast_21 (Nat.le_of_ble_eq_true rfl) rfl ?_
  refine gk_weak [2, 3, 4, 1, 0] (L' := [(0, .int v0), (1, va_rf v1), (2, va_rf v2), (3, .int s0), (4, .int (0 : Int32))]) rfl ?_
  exact p_Wo_recast_b23 d gk_F v0 v1 v2 s0 (0 : Int32) h
theorem w_Wo_recast (d : Nat) (a0 : Int32) (a1 : Option Nat) (h : gk_H) : gk_P gw_R (d + 6) y_Wo_recast b_Wo_recast 6 (some (.object "ValueAlgebra$Value")) [] (f_Wo_recast a0 a1 h) 0 [(0, .int a0), (1, va_rf a1)] [] h := by
  unfold f_Wo_recast
  refine gk_newO (pc := 0) 1 4 d_Wo_recast_0 rfl tw_1373 tw_136 tw_93 fun x1 h1 => ?_
  refine gk_dup (pc := 3) d_Wo_recast_3 (gk_cat_rf _) ?_
  refine gk_callI (pc := 4) (d := (d + 5)) (w' := gv_V) (as := []) (n := 0) 1 d_Wo_recast_4 rfl rfl (by simp [gk_cat_rf, gk_catI, gk_catJ, gk_catD, gv_V, gv_I, gv_J, gv_D, gv_R]) tw_1374 tw_138 tw_93 cw_SB_init rfl hy_SB_init (Nat.le_of_ble_eq_true rfl) (p_SB_init (d + 3) x1 h1) fun _ h2 => ?_
  refine gk_astore_n (pc := 7) (L' := [(2, va_rf x1), (0, .int a0), (1, va_rf a1)]) d_Wo_recast_7 (Nat.le_of_ble_eq_true rfl) (by simp [gk_s1, gk_s2, gk_cat_rf, gk_catI, gk_catJ, gk_catD] <;> decide) ?_
  refine gk_iload_n (pc := 8) 1 d_Wo_recast_8 rfl ?_
  refine gk_bipush (pc := 9) (61 : Int32) d_Wo_recast_9 rfl ?_
  refine gk_icmp_eq (pc := 11) 18 d_Wo_recast_11 rfl (fun _ => ?_) (fun _ => ?_)
  · refine gk_iconst (pc := 18) (0 : Int32) d_Wo_recast_18 rfl ?_
    refine gk_weak [1, 2, 0] (L' := [(0, .int a0), (1, va_rf a1), (2, va_rf x1)]) rfl ?_
    exact p_Wo_recast_b19 d a0 a1 x1 (0 : Int32) h2
  · refine gk_iconst (pc := 14) (1 : Int32) d_Wo_recast_14 rfl ?_
    refine gk_goto (pc := 15) 19 d_Wo_recast_15 rfl ?_
    refine gk_weak [1, 2, 0] (L' := [(0, .int a0), (1, va_rf a1), (2, va_rf x1)]) rfl ?_
    exact p_Wo_recast_b19 d a0 a1 x1 (1 : Int32) h2
theorem p_Wo_recast (d : Nat) (a0 : Int32) (a1 : Option Nat) (h : gk_H) : ∀ r h1, f_Wo_recast a0 a1 h = some (r, h1) → gk_M (d + 6) y_Wo_recast b_Wo_recast 6 (some (.object "ValueAlgebra$Value")) [.int a0, va_rf a1] h (.inl (gv_R r)) h1 :=
  fun r h1 e => gk_M_of2 (by decide +kernel) (by simp [lv_args, gk_cat_rf, gk_catI, gk_catJ, gk_catD, gv_V, gv_I, gv_J, gv_D, gv_R]) (by simp [lg_sl, gk_cat_rf, gk_catI, gk_catJ, gk_catD, gv_V, gv_I, gv_J, gv_D, gv_R]) (w_Wo_recast d a0 a1 h r h1 e)
theorem d_Wo_middle_0 : decode b_Wo_middle 0 = .ok (.lload_n 1, 1) := by decide +kernel
theorem d_Wo_middle_1 : decode b_Wo_middle 1 = .ok (.lconst 1, 1) := by decide +kernel
theorem d_Wo_middle_2 : decode b_Wo_middle 2 = .ok (.lcmp, 1) := by decide +kernel
theorem d_Wo_middle_3 : decode b_Wo_middle 3 = .ok (.ifCond .lt 9, 3) := by decide +kernel
theorem d_Wo_middle_6 : decode b_Wo_middle 6 = .ok (.lload_n 3, 1) := by decide +kernel
theorem d_Wo_middle_7 : decode b_Wo_middle 7 = .ok (.lconst 0, 1) := by decide +kernel
theorem d_Wo_middle_8 : decode b_Wo_middle 8 = .ok (.lcmp, 1) := by decide +kernel
theorem d_Wo_middle_9 : decode b_Wo_middle 9 = .ok (.ifCond .ge 8, 3) := by decide +kernel
theorem d_Wo_middle_12 : decode b_Wo_middle 12 = .ok (.iconst 3, 1) := by decide +kernel
theorem d_Wo_middle_13 : decode b_Wo_middle 13 = .ok (.invokestatic 89, 3) := by decide +kernel
theorem d_Wo_middle_16 : decode b_Wo_middle 16 = .ok (.areturn, 1) := by decide +kernel
theorem d_Wo_middle_17 : decode b_Wo_middle 17 = .ok (.aload_n 0, 1) := by decide +kernel
theorem d_Wo_middle_18 : decode b_Wo_middle 18 = .ok (.lload_n 1, 1) := by decide +kernel
theorem d_Wo_middle_19 : decode b_Wo_middle 19 = .ok (.lconst 1, 1) := by decide +kernel
theorem d_Wo_middle_20 : decode b_Wo_middle 20 = .ok (.lsub, 1) := by decide +kernel
theorem d_Wo_middle_21 : decode b_Wo_middle 21 = .ok (.lload_n 3, 1) := by decide +kernel
theorem d_Wo_middle_22 : decode b_Wo_middle 22 = .ok (.invokestatic 106, 3) := by decide +kernel
theorem d_Wo_middle_25 : decode b_Wo_middle 25 = .ok (.invokestatic 110, 3) := by decide +kernel
theorem d_Wo_middle_28 : decode b_Wo_middle 28 = .ok (.areturn, 1) := by decide +kernel
theorem p_Wo_middle_b12 (d : Nat)   (h : gk_H) : gk_P gw_R (d + 6) y_Wo_middle b_Wo_middle 5 (some (.object "ValueAlgebra$Value")) [] (f_Wo_middle_b12   h) 12 [] [] h := by
  unfold f_Wo_middle_b12
  refine gk_iconst (pc := 12) (3 : Int32) d_Wo_middle_12 rfl ?_
  refine gk_callS (pc := 13) (d := (d + 5)) (w' := gv_R) (as := [.int (3 : Int32)]) (n := 1) d_Wo_middle_13 rfl rfl (Nat.le_of_ble_eq_true rfl) tw_1354 tw_236 tw_97 cw_Va_ofError hy_Va_ofError (Nat.le_of_ble_eq_true rfl) (p_Va_ofError (d + 3) (3 : Int32) h) fun x1 h1 => ?_
  exact gk_aret (pc := 16) rfl d_Wo_middle_16 rfl (Or.inl ⟨_, rfl⟩)
theorem w_Wo_middle (d : Nat) (a0 : Option Nat) (a1 : Int64) (a2 : Int64) (h : gk_H) : gk_P gw_R (d + 6) y_Wo_middle b_Wo_middle 5 (some (.object "ValueAlgebra$Value")) [] (f_Wo_middle a0 a1 a2 h) 0 [(0, va_rf a0), (1, .long a1), (3, .long a2)] [] h := by
  unfold f_Wo_middle
  refine gk_lload_n (pc := 0) 1 d_Wo_middle_0 rfl ?_
  refine gk_lconst (pc := 1) (1 : Int64) d_Wo_middle_1 rfl ?_
  refine gk_lcmp (pc := 2) d_Wo_middle_2 ?_
  refine gk_if_lt (pc := 3) 12 d_Wo_middle_3 rfl (fun _ => ?_) (fun _ => ?_)
  · refine gk_weak [] (L' := []) rfl ?_
    exact p_Wo_middle_b12 d h
  · refine gk_lload_n (pc := 6) 2 d_Wo_middle_6 rfl ?_
    refine gk_lconst (pc := 7) (0 : Int64) d_Wo_middle_7 rfl ?_
    refine gk_lcmp (pc := 8) d_Wo_middle_8 ?_
    refine gk_if_ge (pc := 9) 17 d_Wo_middle_9 rfl (fun _ => ?_) (fun _ => ?_)
    · refine gk_aload_n (pc := 17) 0 d_Wo_middle_17 rfl ?_
      refine gk_lload_n (pc := 18) 1 d_Wo_middle_18 rfl ?_
      refine gk_lconst (pc := 19) (1 : Int64) d_Wo_middle_19 rfl ?_
      refine gk_lsub (pc := 20) d_Wo_middle_20 ?_
      refine gk_lload_n (pc := 21) 2 d_Wo_middle_21 rfl ?_
      refine gk_callS (pc := 22) (d := (d + 5)) (w' := gv_R) (as := [va_rf a0, .long (a1 - (1 : Int64)), .long a2]) (n := 3) d_Wo_middle_22 rfl rfl (Nat.le_of_ble_eq_true rfl) tw_1358 tw_1359 tw_122 cw_Wo_part hy_Wo_part (Nat.le_of_ble_eq_true rfl) (p_Wo_part d a0 (a1 - (1 : Int64)) a2 h) fun x1 h1 => ?_
      refine gk_callS (pc := 25) (d := (d + 5)) (w' := gv_R) (as := [va_rf x1]) (n := 1) d_Wo_middle_25 rfl rfl (Nat.le_of_ble_eq_true rfl) tw_1365 tw_663 tw_97 cw_Va_ofText hy_Va_ofText (Nat.le_of_ble_eq_true rfl) (p_Va_ofText (d + 3) x1 h1) fun x2 h2 => ?_
      exact gk_aret (pc := 28) rfl d_Wo_middle_28 rfl (Or.inl ⟨_, rfl⟩)
    · refine gk_weak [] (L' := []) rfl ?_
      exact p_Wo_middle_b12 d h
theorem p_Wo_middle (d : Nat) (a0 : Option Nat) (a1 : Int64) (a2 : Int64) (h : gk_H) : ∀ r h1, f_Wo_middle a0 a1 a2 h = some (r, h1) → gk_M (d + 6) y_Wo_middle b_Wo_middle 5 (some (.object "ValueAlgebra$Value")) [va_rf a0, .long a1, .long a2] h (.inl (gv_R r)) h1 :=
  fun r h1 e => gk_M_of2 (by decide +kernel) (by simp [lv_args, gk_cat_rf, gk_catI, gk_catJ, gk_catD, gv_V, gv_I, gv_J, gv_D, gv_R]) (by simp [lg_sl, gk_cat_rf, gk_catI, gk_catJ, gk_catD, gv_V, gv_I, gv_J, gv_D, gv_R]) (w_Wo_middle d a0 a1 a2 h r h1 e)
theorem d_Wo_side_0 : decode b_Wo_side 0 = .ok (.lload_n 2, 1) := by decide +kernel
theorem d_Wo_side_1 : decode b_Wo_side 1 = .ok (.lconst 0, 1) := by decide +kernel
theorem d_Wo_side_2 : decode b_Wo_side 2 = .ok (.lcmp, 1) := by decide +kernel
theorem d_Wo_side_3 : decode b_Wo_side 3 = .ok (.ifCond .ge 8, 3) := by decide +kernel
theorem d_Wo_side_6 : decode b_Wo_side 6 = .ok (.iconst 3, 1) := by decide +kernel
theorem d_Wo_side_7 : decode b_Wo_side 7 = .ok (.invokestatic 89, 3) := by decide +kernel
theorem d_Wo_side_10 : decode b_Wo_side 10 = .ok (.areturn, 1) := by decide +kernel
theorem d_Wo_side_11 : decode b_Wo_side 11 = .ok (.iload_n 0, 1) := by decide +kernel
theorem d_Wo_side_12 : decode b_Wo_side 12 = .ok (.bipush 57, 2) := by decide +kernel
theorem d_Wo_side_14 : decode b_Wo_side 14 = .ok (.if_icmp .ne 7, 3) := by decide +kernel
theorem d_Wo_side_17 : decode b_Wo_side 17 = .ok (.lconst 0, 1) := by decide +kernel
theorem d_Wo_side_18 : decode b_Wo_side 18 = .ok (.goto 14, 3) := by decide +kernel
theorem d_Wo_side_21 : decode b_Wo_side 21 = .ok (.lconst 0, 1) := by decide +kernel
theorem d_Wo_side_22 : decode b_Wo_side 22 = .ok (.aload_n 1, 1) := by decide +kernel
theorem d_Wo_side_23 : decode b_Wo_side 23 = .ok (.invokevirtual 15, 3) := by decide +kernel
theorem d_Wo_side_26 : decode b_Wo_side 26 = .ok (.i2l, 1) := by decide +kernel
theorem d_Wo_side_27 : decode b_Wo_side 27 = .ok (.lload_n 2, 1) := by decide +kernel
theorem d_Wo_side_28 : decode b_Wo_side 28 = .ok (.lsub, 1) := by decide +kernel
theorem d_Wo_side_29 : decode b_Wo_side 29 = .ok (.invokestatic 99, 3) := by decide +kernel
theorem d_Wo_side_32 : decode b_Wo_side 32 = .ok (.lstore 4, 2) := by decide +kernel
theorem d_Wo_side_34 : decode b_Wo_side 34 = .ok (.aload_n 1, 1) := by decide +kernel
theorem d_Wo_side_35 : decode b_Wo_side 35 = .ok (.lload 4, 2) := by decide +kernel
theorem d_Wo_side_37 : decode b_Wo_side 37 = .ok (.lload_n 2, 1) := by decide +kernel
theorem d_Wo_side_38 : decode b_Wo_side 38 = .ok (.invokestatic 106, 3) := by decide +kernel
theorem d_Wo_side_41 : decode b_Wo_side 41 = .ok (.invokestatic 110, 3) := by decide +kernel
theorem d_Wo_side_44 : decode b_Wo_side 44 = .ok (.areturn, 1) := by decide +kernel
theorem p_Wo_side_b32 (d : Nat)  (v1 : Option Nat) (v2 : Int64) (s0 : Int64) (h : gk_H) : gk_P gw_R (d + 6) y_Wo_side b_Wo_side 6 (some (.object "ValueAlgebra$Value")) [] (f_Wo_side_b32  v1 v2 s0 h) 32 [(1, va_rf v1), (2, .long v2)] [.long s0] h := by
  unfold f_Wo_side_b32
  refine gk_lstore (pc := 32) (L' := [(4, .long s0), (1, va_rf v1), (2, .long v2)]) d_Wo_side_32 (Nat.le_of_ble_eq_true rfl) rfl ?_
  refine gk_aload_n (pc := 34) 1 d_Wo_side_34 rfl ?_
  refine gk_lload (pc := 35) 0 d_Wo_side_35 rfl ?_
  refine gk_lload_n (pc := 37) 2 d_Wo_side_37 rfl ?_
  refine gk_callS (pc := 38) (d := (d + 5)) (w' := gv_R) (as := [va_rf v1, .long s0, .long v2]) (n := 3) d_Wo_side_38 rfl rfl (Nat.le_of_ble_eq_true rfl) tw_1358 tw_1359 tw_122 cw_Wo_part hy_Wo_part (Nat.le_of_ble_eq_true rfl) (p_Wo_part d v1 s0 v2 h) fun x1 h1 => ?_
  refine gk_callS (pc := 41) (d := (d + 5)) (w' := gv_R) (as := [va_rf x1]) (n := 1) d_Wo_side_41 rfl rfl (Nat.le_of_ble_eq_true rfl) tw_1365 tw_663 tw_97 cw_Va_ofText hy_Va_ofText (Nat.le_of_ble_eq_true rfl) (p_Va_ofText (d + 3) x1 h1) fun x2 h2 => ?_
  exact gk_aret (pc := 44) rfl d_Wo_side_44 rfl (Or.inl ⟨_, rfl⟩)
theorem w_Wo_side (d : Nat) (a0 : Int32) (a1 : Option Nat) (a2 : Int64) (h : gk_H) : gk_P gw_R (d + 6) y_Wo_side b_Wo_side 6 (some (.object "ValueAlgebra$Value")) [] (f_Wo_side a0 a1 a2 h) 0 [(0, .int a0), (1, va_rf a1), (2, .long a2)] [] h := by
  unfold f_Wo_side
  refine gk_lload_n (pc := 0) 2 d_Wo_side_0 rfl ?_
  refine gk_lconst (pc := 1) (0 : Int64) d_Wo_side_1 rfl ?_
  refine gk_lcmp (pc := 2) d_Wo_side_2 ?_
  refine gk_if_ge (pc := 3) 11 d_Wo_side_3 rfl (fun _ => ?_) (fun _ => ?_)
  · refine gk_iload_n (pc := 11) 0 d_Wo_side_11 rfl ?_
    refine gk_bipush (pc := 12) (57 : Int32) d_Wo_side_12 rfl ?_
    refine gk_icmp_ne (pc := 14) 21 d_Wo_side_14 rfl (fun _ => ?_) (fun _ => ?_)
    · refine gk_lconst (pc := 17) (0 : Int64) d_Wo_side_17 rfl ?_
      refine gk_goto (pc := 18) 32 d_Wo_side_18 rfl ?_
      refine gk_weak [1, 2] (L' := [(1, va_rf a1), (2, .long a2)]) rfl ?_
      exact p_Wo_side_b32 d a1 a2 (0 : Int64) h
    · refine gk_lconst (pc := 21) (0 : Int64) d_Wo_side_21 rfl ?_
      refine gk_aload_n (pc := 22) 1 d_Wo_side_22 rfl ?_
      refine gk_callV (pc := 23) (d := (d + 5)) (w' := gv_I) (as := []) (n := 0) 0 d_Wo_side_23 rfl rfl rfl rfl (Nat.le_of_ble_eq_true rfl) tw_1348 tw_613 tw_614 tw_94 cw_St_length hy_St_length (Nat.le_of_ble_eq_true rfl) (p_St_length (d + 4) a1 h) fun x1 h1 => ?_
      refine gk_i2l (pc := 26) d_Wo_side_26 ?_
      refine gk_lload_n (pc := 27) 2 d_Wo_side_27 rfl ?_
      refine gk_lsub (pc := 28) d_Wo_side_28 ?_
      refine gk_callS (pc := 29) (d := (d + 5)) (w' := gv_J) (as := [.long (0 : Int64), .long ((Int32.toInt64 x1) - a2)]) (n := 2) d_Wo_side_29 rfl rfl (Nat.le_of_ble_eq_true rfl) tw_1355 tw_1356 tw_106 cw_Ma_max_JJ hy_Ma_max_JJ (Nat.le_of_ble_eq_true rfl) (p_Ma_max_JJ (d + 5) (0 : Int64) ((Int32.toInt64 x1) - a2) h1) fun x2 h2 => ?_
      refine gk_weak [1, 2] (L' := [(1, va_rf a1), (2, .long a2)]) rfl ?_
      exact p_Wo_side_b32 d a1 a2 x2 h2
  · refine gk_iconst (pc := 6) (3 : Int32) d_Wo_side_6 rfl ?_
    refine gk_callS (pc := 7) (d := (d + 5)) (w' := gv_R) (as := [.int (3 : Int32)]) (n := 1) d_Wo_side_7 rfl rfl (Nat.le_of_ble_eq_true rfl) tw_1354 tw_236 tw_97 cw_Va_ofError hy_Va_ofError (Nat.le_of_ble_eq_true rfl) (p_Va_ofError (d + 3) (3 : Int32) h) fun x3 h3 => ?_
    exact gk_aret (pc := 10) rfl d_Wo_side_10 rfl (Or.inl ⟨_, rfl⟩)
theorem p_Wo_side (d : Nat) (a0 : Int32) (a1 : Option Nat) (a2 : Int64) (h : gk_H) : ∀ r h1, f_Wo_side a0 a1 a2 h = some (r, h1) → gk_M (d + 6) y_Wo_side b_Wo_side 6 (some (.object "ValueAlgebra$Value")) [.int a0, va_rf a1, .long a2] h (.inl (gv_R r)) h1 :=
  fun r h1 e => gk_M_of2 (by decide +kernel) (by simp [lv_args, gk_cat_rf, gk_catI, gk_catJ, gk_catD, gv_V, gv_I, gv_J, gv_D, gv_R]) (by simp [lg_sl, gk_cat_rf, gk_catI, gk_catJ, gk_catD, gv_V, gv_I, gv_J, gv_D, gv_R]) (w_Wo_side d a0 a1 a2 h r h1 e)
theorem d_Wo_answer_0 : decode b_Wo_answer 0 = .ok (.iload_n 0, 1) := by decide +kernel
theorem d_Wo_answer_1 : decode b_Wo_answer 1 = .ok (.tableswitch 233 56 73 #[87, 100, 100, 116, 135, 135, 135, 145, 154, 159, 173, 178, 183, 183, 189, 206, 215, 224], 87) := by decide +kernel
theorem d_Wo_answer_88 : decode b_Wo_answer 88 = .ok (.aload_n 1, 1) := by decide +kernel
theorem d_Wo_answer_89 : decode b_Wo_answer 89 = .ok (.iconst 0, 1) := by decide +kernel
theorem d_Wo_answer_90 : decode b_Wo_answer 90 = .ok (.invokevirtual 9, 3) := by decide +kernel
theorem d_Wo_answer_93 : decode b_Wo_answer 93 = .ok (.invokevirtual 15, 3) := by decide +kernel
theorem d_Wo_answer_96 : decode b_Wo_answer 96 = .ok (.i2d, 1) := by decide +kernel
theorem d_Wo_answer_97 : decode b_Wo_answer 97 = .ok (.invokestatic 21, 3) := by decide +kernel
theorem d_Wo_answer_100 : decode b_Wo_answer 100 = .ok (.areturn, 1) := by decide +kernel
theorem d_Wo_answer_101 : decode b_Wo_answer 101 = .ok (.iload_n 0, 1) := by decide +kernel
theorem d_Wo_answer_102 : decode b_Wo_answer 102 = .ok (.aload_n 1, 1) := by decide +kernel
theorem d_Wo_answer_103 : decode b_Wo_answer 103 = .ok (.iconst 0, 1) := by decide +kernel
theorem d_Wo_answer_104 : decode b_Wo_answer 104 = .ok (.invokevirtual 9, 3) := by decide +kernel
theorem d_Wo_answer_107 : decode b_Wo_answer 107 = .ok (.aload_n 1, 1) := by decide +kernel
theorem d_Wo_answer_108 : decode b_Wo_answer 108 = .ok (.iconst 1, 1) := by decide +kernel
theorem d_Wo_answer_109 : decode b_Wo_answer 109 = .ok (.lconst 1, 1) := by decide +kernel
theorem d_Wo_answer_110 : decode b_Wo_answer 110 = .ok (.invokevirtual 27, 3) := by decide +kernel
theorem d_Wo_answer_113 : decode b_Wo_answer 113 = .ok (.invokestatic 31, 3) := by decide +kernel
theorem d_Wo_answer_116 : decode b_Wo_answer 116 = .ok (.areturn, 1) := by decide +kernel
theorem d_Wo_answer_117 : decode b_Wo_answer 117 = .ok (.aload_n 1, 1) := by decide +kernel
theorem d_Wo_answer_118 : decode b_Wo_answer 118 = .ok (.iconst 0, 1) := by decide +kernel
theorem d_Wo_answer_119 : decode b_Wo_answer 119 = .ok (.invokevirtual 9, 3) := by decide +kernel
theorem d_Wo_answer_122 : decode b_Wo_answer 122 = .ok (.aload_n 1, 1) := by decide +kernel
theorem d_Wo_answer_123 : decode b_Wo_answer 123 = .ok (.iconst 1, 1) := by decide +kernel
theorem d_Wo_answer_124 : decode b_Wo_answer 124 = .ok (.invokevirtual 37, 3) := by decide +kernel
theorem d_Wo_answer_127 : decode b_Wo_answer 127 = .ok (.aload_n 1, 1) := by decide +kernel
theorem d_Wo_answer_128 : decode b_Wo_answer 128 = .ok (.iconst 2, 1) := by decide +kernel
theorem d_Wo_answer_129 : decode b_Wo_answer 129 = .ok (.invokevirtual 37, 3) := by decide +kernel
theorem d_Wo_answer_132 : decode b_Wo_answer 132 = .ok (.invokestatic 41, 3) := by decide +kernel
theorem d_Wo_answer_135 : decode b_Wo_answer 135 = .ok (.areturn, 1) := by decide +kernel
theorem d_Wo_answer_136 : decode b_Wo_answer 136 = .ok (.iload_n 0, 1) := by decide +kernel
theorem d_Wo_answer_137 : decode b_Wo_answer 137 = .ok (.aload_n 1, 1) := by decide +kernel
theorem d_Wo_answer_138 : decode b_Wo_answer 138 = .ok (.iconst 0, 1) := by decide +kernel
theorem d_Wo_answer_139 : decode b_Wo_answer 139 = .ok (.invokevirtual 9, 3) := by decide +kernel
theorem d_Wo_answer_142 : decode b_Wo_answer 142 = .ok (.invokestatic 45, 3) := by decide +kernel
theorem d_Wo_answer_145 : decode b_Wo_answer 145 = .ok (.areturn, 1) := by decide +kernel
theorem d_Wo_answer_146 : decode b_Wo_answer 146 = .ok (.aload_n 1, 1) := by decide +kernel
theorem d_Wo_answer_147 : decode b_Wo_answer 147 = .ok (.iconst 0, 1) := by decide +kernel
theorem d_Wo_answer_148 : decode b_Wo_answer 148 = .ok (.invokevirtual 9, 3) := by decide +kernel
theorem d_Wo_answer_151 : decode b_Wo_answer 151 = .ok (.invokestatic 49, 3) := by decide +kernel
theorem d_Wo_answer_154 : decode b_Wo_answer 154 = .ok (.areturn, 1) := by decide +kernel
theorem d_Wo_answer_155 : decode b_Wo_answer 155 = .ok (.aload_n 1, 1) := by decide +kernel
theorem d_Wo_answer_156 : decode b_Wo_answer 156 = .ok (.invokestatic 53, 3) := by decide +kernel
theorem d_Wo_answer_159 : decode b_Wo_answer 159 = .ok (.areturn, 1) := by decide +kernel
theorem d_Wo_answer_160 : decode b_Wo_answer 160 = .ok (.aload_n 1, 1) := by decide +kernel
theorem d_Wo_answer_161 : decode b_Wo_answer 161 = .ok (.iconst 0, 1) := by decide +kernel
theorem d_Wo_answer_162 : decode b_Wo_answer 162 = .ok (.invokevirtual 9, 3) := by decide +kernel
theorem d_Wo_answer_165 : decode b_Wo_answer 165 = .ok (.aload_n 1, 1) := by decide +kernel
theorem d_Wo_answer_166 : decode b_Wo_answer 166 = .ok (.iconst 1, 1) := by decide +kernel
theorem d_Wo_answer_167 : decode b_Wo_answer 167 = .ok (.invokevirtual 37, 3) := by decide +kernel
theorem d_Wo_answer_170 : decode b_Wo_answer 170 = .ok (.invokestatic 57, 3) := by decide +kernel
theorem d_Wo_answer_173 : decode b_Wo_answer 173 = .ok (.areturn, 1) := by decide +kernel
theorem d_Wo_answer_174 : decode b_Wo_answer 174 = .ok (.aload_n 1, 1) := by decide +kernel
theorem d_Wo_answer_175 : decode b_Wo_answer 175 = .ok (.invokestatic 61, 3) := by decide +kernel
theorem d_Wo_answer_178 : decode b_Wo_answer 178 = .ok (.areturn, 1) := by decide +kernel
theorem d_Wo_answer_179 : decode b_Wo_answer 179 = .ok (.aload_n 1, 1) := by decide +kernel
theorem d_Wo_answer_180 : decode b_Wo_answer 180 = .ok (.invokestatic 64, 3) := by decide +kernel
theorem d_Wo_answer_183 : decode b_Wo_answer 183 = .ok (.areturn, 1) := by decide +kernel
theorem d_Wo_answer_184 : decode b_Wo_answer 184 = .ok (.iload_n 0, 1) := by decide +kernel
theorem d_Wo_answer_185 : decode b_Wo_answer 185 = .ok (.aload_n 1, 1) := by decide +kernel
theorem d_Wo_answer_186 : decode b_Wo_answer 186 = .ok (.invokestatic 67, 3) := by decide +kernel
theorem d_Wo_answer_189 : decode b_Wo_answer 189 = .ok (.areturn, 1) := by decide +kernel
theorem d_Wo_answer_190 : decode b_Wo_answer 190 = .ok (.aload_n 1, 1) := by decide +kernel
theorem d_Wo_answer_191 : decode b_Wo_answer 191 = .ok (.iconst 0, 1) := by decide +kernel
theorem d_Wo_answer_192 : decode b_Wo_answer 192 = .ok (.invokevirtual 9, 3) := by decide +kernel
theorem d_Wo_answer_195 : decode b_Wo_answer 195 = .ok (.aload_n 1, 1) := by decide +kernel
theorem d_Wo_answer_196 : decode b_Wo_answer 196 = .ok (.iconst 1, 1) := by decide +kernel
theorem d_Wo_answer_197 : decode b_Wo_answer 197 = .ok (.invokevirtual 9, 3) := by decide +kernel
theorem d_Wo_answer_200 : decode b_Wo_answer 200 = .ok (.invokevirtual 71, 3) := by decide +kernel
theorem d_Wo_answer_203 : decode b_Wo_answer 203 = .ok (.invokestatic 75, 3) := by decide +kernel
theorem d_Wo_answer_206 : decode b_Wo_answer 206 = .ok (.areturn, 1) := by decide +kernel
theorem d_Wo_answer_207 : decode b_Wo_answer 207 = .ok (.aload_n 1, 1) := by decide +kernel
theorem d_Wo_answer_208 : decode b_Wo_answer 208 = .ok (.iconst 0, 1) := by decide +kernel
theorem d_Wo_answer_209 : decode b_Wo_answer 209 = .ok (.invokevirtual 37, 3) := by decide +kernel
theorem d_Wo_answer_212 : decode b_Wo_answer 212 = .ok (.invokestatic 79, 3) := by decide +kernel
theorem d_Wo_answer_215 : decode b_Wo_answer 215 = .ok (.areturn, 1) := by decide +kernel
theorem d_Wo_answer_216 : decode b_Wo_answer 216 = .ok (.aload_n 1, 1) := by decide +kernel
theorem d_Wo_answer_217 : decode b_Wo_answer 217 = .ok (.iconst 0, 1) := by decide +kernel
theorem d_Wo_answer_218 : decode b_Wo_answer 218 = .ok (.invokevirtual 9, 3) := by decide +kernel
theorem d_Wo_answer_221 : decode b_Wo_answer 221 = .ok (.invokestatic 83, 3) := by decide +kernel
theorem d_Wo_answer_224 : decode b_Wo_answer 224 = .ok (.areturn, 1) := by decide +kernel
theorem d_Wo_answer_225 : decode b_Wo_answer 225 = .ok (.aload_n 1, 1) := by decide +kernel
theorem d_Wo_answer_226 : decode b_Wo_answer 226 = .ok (.iconst 0, 1) := by decide +kernel
theorem d_Wo_answer_227 : decode b_Wo_answer 227 = .ok (.invokevirtual 9, 3) := by decide +kernel
theorem d_Wo_answer_230 : decode b_Wo_answer 230 = .ok (.invokestatic 86, 3) := by decide +kernel
theorem d_Wo_answer_233 : decode b_Wo_answer 233 = .ok (.areturn, 1) := by decide +kernel
theorem d_Wo_answer_234 : decode b_Wo_answer 234 = .ok (.iconst 3, 1) := by decide +kernel
theorem d_Wo_answer_235 : decode b_Wo_answer 235 = .ok (.invokestatic 89, 3) := by decide +kernel
theorem d_Wo_answer_238 : decode b_Wo_answer 238 = .ok (.areturn, 1) := by decide +kernel
theorem p_Wo_answer_b101 (d : Nat)  (v0 : Int32) (v1 : Option Nat) (h : gk_H) : gk_P gw_R (d + 10) y_Wo_answer b_Wo_answer 2 (some (.object "ValueAlgebra$Value")) [] (f_Wo_answer_b101  v0 v1 h) 101 [(0, .int v0), (1, va_rf v1)] [] h := by
  unfold f_Wo_answer_b101
  refine gk_iload_n (pc := 101) 0 d_Wo_answer_101 rfl ?_
  refine gk_aload_n (pc := 102) 1 d_Wo_answer_102 rfl ?_
  refine gk_iconst (pc := 103) (0 : Int32) d_Wo_answer_103 rfl ?_
  refine gk_callV (pc := 104) (d := (d + 9)) (w' := gv_R) (as := [.int (0 : Int32)]) (n := 1) 4 d_Wo_answer_104 rfl rfl rfl rfl (Nat.le_of_ble_eq_true rfl) tw_1347 tw_886 tw_887 tw_96 cw_Ar_lettersOf hy_Ar_lettersOf (Nat.le_of_ble_eq_true rfl) (p_Ar_lettersOf (d + 1) v1 (0 : Int32) h) fun x1 h1 => ?_
  refine gk_aload_n (pc := 107) 1 d_Wo_answer_107 rfl ?_
  refine gk_iconst (pc := 108) (1 : Int32) d_Wo_answer_108 rfl ?_
  refine gk_lconst (pc := 109) (1 : Int64) d_Wo_answer_109 rfl ?_
  refine gk_callV (pc := 110) (d := (d + 9)) (w' := gv_J) (as := [.int (1 : Int32), .long (1 : Int64)]) (n := 2) 4 d_Wo_answer_110 rfl rfl rfl rfl (by simp [gk_cat_rf, gk_catI, gk_catJ, gk_catD, gv_V, gv_I, gv_J, gv_D, gv_R]) tw_1350 tw_1286 tw_1287 tw_96 cw_Ar_wholeOr hy_Ar_wholeOr (Nat.le_of_ble_eq_true rfl) (p_Ar_wholeOr (d + 1) v1 (1 : Int32) (1 : Int64) h1) fun x2 h2 => ?_
  refine gk_callS (pc := 113) (d := (d + 9)) (w' := gv_R) (as := [.int v0, va_rf x1, .long x2]) (n := 3) d_Wo_answer_113 rfl rfl (Nat.le_of_ble_eq_true rfl) tw_1351 tw_1352 tw_122 cw_Wo_side hy_Wo_side (Nat.le_of_ble_eq_true rfl) (p_Wo_side (d + 3) v0 x1 x2 h2) fun x3 h3 => ?_
  exact gk_aret (pc := 116) rfl d_Wo_answer_116 rfl (Or.inl ⟨_, rfl⟩)
theorem p_Wo_answer_b136 (d : Nat)  (v0 : Int32) (v1 : Option Nat) (h : gk_H) : gk_P gw_R (d + 10) y_Wo_answer b_Wo_answer 2 (some (.object "ValueAlgebra$Value")) [] (f_Wo_answer_b136  v0 v1 h) 136 [(0, .int v0), (1, va_rf v1)] [] h := by
  unfold f_Wo_answer_b136
  refine gk_iload_n (pc := 136) 0 d_Wo_answer_136 rfl ?_
  refine gk_aload_n (pc := 137) 1 d_Wo_answer_137 rfl ?_
  refine gk_iconst (pc := 138) (0 : Int32) d_Wo_answer_138 rfl ?_
  refine gk_callV (pc := 139) (d := (d + 9)) (w' := gv_R) (as := [.int (0 : Int32)]) (n := 1) 4 d_Wo_answer_139 rfl rfl rfl rfl (Nat.le_of_ble_eq_true rfl) tw_1347 tw_886 tw_887 tw_96 cw_Ar_lettersOf hy_Ar_lettersOf (Nat.le_of_ble_eq_true rfl) (p_Ar_lettersOf (d + 1) v1 (0 : Int32) h) fun x1 h1 => ?_
  refine gk_callS (pc := 142) (d := (d + 9)) (w' := gv_R) (as := [.int v0, va_rf x1]) (n := 2) d_Wo_answer_142 rfl rfl (Nat.le_of_ble_eq_true rfl) tw_1370 tw_1371 tw_122 cw_Wo_recast hy_Wo_recast (Nat.le_of_ble_eq_true rfl) (p_Wo_recast (d + 3) v0 x1 h1) fun x2 h2 => ?_
  exact gk_aret (pc := 145) rfl d_Wo_answer_145 rfl (Or.inl ⟨_, rfl⟩)
theorem p_Wo_answer_b184 (d : Nat)  (v0 : Int32) (v1 : Option Nat) (h : gk_H) : gk_P gw_R (d + 10) y_Wo_answer b_Wo_answer 2 (some (.object "ValueAlgebra$Value")) [] (f_Wo_answer_b184  v0 v1 h) 184 [(0, .int v0), (1, va_rf v1)] [] h := by
  unfold f_Wo_answer_b184
  refine gk_iload_n (pc := 184) 0 d_Wo_answer_184 rfl ?_
  refine gk_aload_n (pc := 185) 1 d_Wo_answer_185 rfl ?_
  refine gk_callS (pc := 186) (d := (d + 9)) (w' := gv_R) (as := [.int v0, va_rf v1]) (n := 2) d_Wo_answer_186 rfl rfl (Nat.le_of_ble_eq_true rfl) tw_1408 tw_1409 tw_122 cw_Wo_found hy_Wo_found (Nat.le_of_ble_eq_true rfl) (p_Wo_found d v0 v1 h) fun x1 h1 => ?_
  exact gk_aret (pc := 189) rfl d_Wo_answer_189 rfl (Or.inl ⟨_, rfl⟩)
theorem w_Wo_answer (d : Nat) (a0 : Int32) (a1 : Option Nat) (h : gk_H) : gk_P gw_R (d + 10) y_Wo_answer b_Wo_answer 2 (some (.object "ValueAlgebra$Value")) [] (f_Wo_answer a0 a1 h) 0 [(0, .int a0), (1, va_rf a1)] [] h := by
  unfold f_Wo_answer
  refine gk_iload_n (pc := 0) 0 d_Wo_answer_0 rfl ?_
  refine gk_ite (fun z1_0 => ?_) (fun z1_0 => ?_)
  · refine gk_tsw_in (pc := 1) (56 : Int32) 88 d_Wo_answer_1 z1_0 (by decide) (by decide) rfl rfl ?_
    refine gk_aload_n (pc := 88) 1 d_Wo_answer_88 rfl ?_
    refine gk_iconst (pc := 89) (0 : Int32) d_Wo_answer_89 rfl ?_
    refine gk_callV (pc := 90) (d := (d + 9)) (w' := gv_R) (as := [.int (0 : Int32)]) (n := 1) 4 d_Wo_answer_90 rfl rfl rfl rfl (Nat.le_of_ble_eq_true rfl) tw_1347 tw_886 tw_887 tw_96 cw_Ar_lettersOf hy_Ar_lettersOf (Nat.le_of_ble_eq_true rfl) (p_Ar_lettersOf (d + 1) a1 (0 : Int32) h) fun x1 h1 => ?_
    refine gk_callV (pc := 93) (d := (d + 9)) (w' := gv_I) (as := []) (n := 0) 0 d_Wo_answer_93 rfl rfl rfl rfl (Nat.le_of_ble_eq_true rfl) tw_1348 tw_613 tw_614 tw_94 cw_St_length hy_St_length (Nat.le_of_ble_eq_true rfl) (p_St_length (d + 8) x1 h1) fun x2 h2 => ?_
    refine gk_i2d (pc := 96) d_Wo_answer_96 ?_
    refine gk_callS (pc := 97) (d := (d + 9)) (w' := gv_R) (as := [.double (FP.i2d x2)]) (n := 1) d_Wo_answer_97 rfl rfl (Nat.le_of_ble_eq_true rfl) tw_1349 tw_317 tw_97 cw_Va_ofNumber hy_Va_ofNumber (Nat.le_of_ble_eq_true rfl) (p_Va_ofNumber (d + 7) (FP.i2d x2) h2) fun x3 h3 => ?_
    exact gk_aret (pc := 100) rfl d_Wo_answer_100 rfl (Or.inl ⟨_, rfl⟩)
  ·
    refine gk_ite (fun z1_1 => ?_) (fun z1_1 => ?_)
    · refine gk_tsw_in (pc := 1) (57 : Int32) 101 d_Wo_answer_1 z1_1 (by decide) (by decide) rfl rfl ?_
      exact p_Wo_answer_b101 d a0 a1 h
    ·
      refine gk_ite (fun z1_2 => ?_) (fun z1_2 => ?_)
      · refine gk_tsw_in (pc := 1) (58 : Int32) 101 d_Wo_answer_1 z1_2 (by decide) (by decide) rfl rfl ?_
        exact p_Wo_answer_b101 d a0 a1 h
      ·
        refine gk_ite (fun z1_3 => ?_) (fun z1_3 => ?_)
        · refine gk_tsw_in (pc := 1) (59 : Int32) 117 d_Wo_answer_1 z1_3 (by decide) (by decide) rfl rfl ?_
          refine gk_aload_n (pc := 117) 1 d_Wo_answer_117 rfl ?_
          refine gk_iconst (pc := 118) (0 : Int32) d_Wo_answer_118 rfl ?_
          refine gk_callV (pc := 119) (d := (d + 9)) (w' := gv_R) (as := [.int (0 : Int32)]) (n := 1) 4 d_Wo_answer_119 rfl rfl rfl rfl (Nat.le_of_ble_eq_true rfl) tw_1347 tw_886 tw_887 tw_96 cw_Ar_lettersOf hy_Ar_lettersOf (Nat.le_of_ble_eq_true rfl) (p_Ar_lettersOf (d + 1) a1 (0 : Int32) h) fun x4 h4 => ?_
          refine gk_aload_n (pc := 122) 1 d_Wo_answer_122 rfl ?_
          refine gk_iconst (pc := 123) (1 : Int32) d_Wo_answer_123 rfl ?_
          refine gk_callV (pc := 124) (d := (d + 9)) (w' := gv_J) (as := [.int (1 : Int32)]) (n := 1) 4 d_Wo_answer_124 rfl rfl rfl rfl (by simp [gk_cat_rf, gk_catI, gk_catJ, gk_catD, gv_V, gv_I, gv_J, gv_D, gv_R]) tw_1366 tw_1065 tw_1066 tw_96 cw_Ar_whole hy_Ar_whole (Nat.le_of_ble_eq_true rfl) (p_Ar_whole (d + 2) a1 (1 : Int32) h4) fun x5 h5 => ?_
          refine gk_aload_n (pc := 127) 1 d_Wo_answer_127 rfl ?_
          refine gk_iconst (pc := 128) (2 : Int32) d_Wo_answer_128 rfl ?_
          refine gk_callV (pc := 129) (d := (d + 9)) (w' := gv_J) (as := [.int (2 : Int32)]) (n := 1) 4 d_Wo_answer_129 rfl rfl rfl rfl (by simp [gk_cat_rf, gk_catI, gk_catJ, gk_catD, gv_V, gv_I, gv_J, gv_D, gv_R]) tw_1366 tw_1065 tw_1066 tw_96 cw_Ar_whole hy_Ar_whole (Nat.le_of_ble_eq_true rfl) (p_Ar_whole (d + 2) a1 (2 : Int32) h5) fun x6 h6 => ?_
          refine gk_callS (pc := 132) (d := (d + 9)) (w' := gv_R) (as := [va_rf x4, .long x5, .long x6]) (n := 3) d_Wo_answer_132 rfl rfl (Nat.le_of_ble_eq_true rfl) tw_1367 tw_1368 tw_122 cw_Wo_middle hy_Wo_middle (Nat.le_of_ble_eq_true rfl) (p_Wo_middle (d + 3) x4 x5 x6 h6) fun x7 h7 => ?_
          exact gk_aret (pc := 135) rfl d_Wo_answer_135 rfl (Or.inl ⟨_, rfl⟩)
        ·
          refine gk_ite (fun z1_4 => ?_) (fun z1_4 => ?_)
          · refine gk_tsw_in (pc := 1) (60 : Int32) 136 d_Wo_answer_1 z1_4 (by decide) (by decide) rfl rfl ?_
            exact p_Wo_answer_b136 d a0 a1 h
          ·
            refine gk_ite (fun z1_5 => ?_) (fun z1_5 => ?_)
            · refine gk_tsw_in (pc := 1) (61 : Int32) 136 d_Wo_answer_1 z1_5 (by decide) (by decide) rfl rfl ?_
              exact p_Wo_answer_b136 d a0 a1 h
            ·
              refine gk_ite (fun z1_6 => ?_) (fun z1_6 => ?_)
              · refine gk_tsw_in (pc := 1) (62 : Int32) 136 d_Wo_answer_1 z1_6 (by decide) (by decide) rfl rfl ?_
                exact p_Wo_answer_b136 d a0 a1 h
              ·
                refine gk_ite (fun z1_7 => ?_) (fun z1_7 => ?_)
                · refine gk_tsw_in (pc := 1) (63 : Int32) 146 d_Wo_answer_1 z1_7 (by decide) (by decide) rfl rfl ?_
                  refine gk_aload_n (pc := 146) 1 d_Wo_answer_146 rfl ?_
                  refine gk_iconst (pc := 147) (0 : Int32) d_Wo_answer_147 rfl ?_
                  refine gk_callV (pc := 148) (d := (d + 9)) (w' := gv_R) (as := [.int (0 : Int32)]) (n := 1) 4 d_Wo_answer_148 rfl rfl rfl rfl (Nat.le_of_ble_eq_true rfl) tw_1347 tw_886 tw_887 tw_96 cw_Ar_lettersOf hy_Ar_lettersOf (Nat.le_of_ble_eq_true rfl) (p_Ar_lettersOf (d + 1) a1 (0 : Int32) h) fun x8 h8 => ?_
                  refine gk_callS (pc := 151) (d := (d + 9)) (w' := gv_R) (as := [va_rf x8]) (n := 1) d_Wo_answer_151 rfl rfl (Nat.le_of_ble_eq_true rfl) tw_1385 tw_1386 tw_122 cw_Wo_trimmed hy_Wo_trimmed (Nat.le_of_ble_eq_true rfl) (p_Wo_trimmed (d + 3) x8 h8) fun x9 h9 => ?_
                  exact gk_aret (pc := 154) rfl d_Wo_answer_154 rfl (Or.inl ⟨_, rfl⟩)
                ·
                  refine gk_ite (fun z1_8 => ?_) (fun z1_8 => ?_)
                  · refine gk_tsw_in (pc := 1) (64 : Int32) 155 d_Wo_answer_1 z1_8 (by decide) (by decide) rfl rfl ?_
                    refine gk_aload_n (pc := 155) 1 d_Wo_answer_155 rfl ?_
                    refine gk_callS (pc := 156) (d := (d + 9)) (w' := gv_R) (as := [va_rf a1]) (n := 1) d_Wo_answer_156 rfl rfl (Nat.le_of_ble_eq_true rfl) tw_1389 tw_1390 tw_122 cw_Wo_joined hy_Wo_joined (Nat.le_of_ble_eq_true rfl) (p_Wo_joined d a1 h) fun x10 h10 => ?_
                    exact gk_aret (pc := 159) rfl d_Wo_answer_159 rfl (Or.inl ⟨_, rfl⟩)
                  ·
                    refine gk_ite (fun z1_9 => ?_) (fun z1_9 => ?_)
                    · refine gk_tsw_in (pc := 1) (65 : Int32) 160 d_Wo_answer_1 z1_9 (by decide) (by decide) rfl rfl ?_
                      refine gk_aload_n (pc := 160) 1 d_Wo_answer_160 rfl ?_
                      refine gk_iconst (pc := 161) (0 : Int32) d_Wo_answer_161 rfl ?_
                      refine gk_callV (pc := 162) (d := (d + 9)) (w' := gv_R) (as := [.int (0 : Int32)]) (n := 1) 4 d_Wo_answer_162 rfl rfl rfl rfl (Nat.le_of_ble_eq_true rfl) tw_1347 tw_886 tw_887 tw_96 cw_Ar_lettersOf hy_Ar_lettersOf (Nat.le_of_ble_eq_true rfl) (p_Ar_lettersOf (d + 1) a1 (0 : Int32) h) fun x11 h11 => ?_
                      refine gk_aload_n (pc := 165) 1 d_Wo_answer_165 rfl ?_
                      refine gk_iconst (pc := 166) (1 : Int32) d_Wo_answer_166 rfl ?_
                      refine gk_callV (pc := 167) (d := (d + 9)) (w' := gv_J) (as := [.int (1 : Int32)]) (n := 1) 4 d_Wo_answer_167 rfl rfl rfl rfl (by simp [gk_cat_rf, gk_catI, gk_catJ, gk_catD, gv_V, gv_I, gv_J, gv_D, gv_R]) tw_1366 tw_1065 tw_1066 tw_96 cw_Ar_whole hy_Ar_whole (Nat.le_of_ble_eq_true rfl) (p_Ar_whole (d + 2) a1 (1 : Int32) h11) fun x12 h12 => ?_
                      refine gk_callS (pc := 170) (d := (d + 9)) (w' := gv_R) (as := [va_rf x11, .long x12]) (n := 2) d_Wo_answer_170 rfl rfl (Nat.le_of_ble_eq_true rfl) tw_1394 tw_1395 tw_122 cw_Wo_repeated hy_Wo_repeated (Nat.le_of_ble_eq_true rfl) (p_Wo_repeated (d + 3) x11 x12 h12) fun x13 h13 => ?_
                      exact gk_aret (pc := 173) rfl d_Wo_answer_173 rfl (Or.inl ⟨_, rfl⟩)
                    ·
                      refine gk_ite (fun z1_10 => ?_) (fun z1_10 => ?_)
                      · refine gk_tsw_in (pc := 1) (66 : Int32) 174 d_Wo_answer_1 z1_10 (by decide) (by decide) rfl rfl ?_
                        refine gk_aload_n (pc := 174) 1 d_Wo_answer_174 rfl ?_
                        refine gk_callS (pc := 175) (d := (d + 9)) (w' := gv_R) (as := [va_rf a1]) (n := 1) d_Wo_answer_175 rfl rfl (Nat.le_of_ble_eq_true rfl) tw_1398 tw_1399 tw_122 cw_Wo_substituted hy_Wo_substituted (Nat.le_of_ble_eq_true rfl) (p_Wo_substituted d a1 h) fun x14 h14 => ?_
                        exact gk_aret (pc := 178) rfl d_Wo_answer_178 rfl (Or.inl ⟨_, rfl⟩)
                      ·
                        refine gk_ite (fun z1_11 => ?_) (fun z1_11 => ?_)
                        · refine gk_tsw_in (pc := 1) (67 : Int32) 179 d_Wo_answer_1 z1_11 (by decide) (by decide) rfl rfl ?_
                          refine gk_aload_n (pc := 179) 1 d_Wo_answer_179 rfl ?_
                          refine gk_callS (pc := 180) (d := (d + 9)) (w' := gv_R) (as := [va_rf a1]) (n := 1) d_Wo_answer_180 rfl rfl (Nat.le_of_ble_eq_true rfl) tw_1405 tw_1406 tw_122 cw_Wo_replaced hy_Wo_replaced (Nat.le_of_ble_eq_true rfl) (p_Wo_replaced d a1 h) fun x15 h15 => ?_
                          exact gk_aret (pc := 183) rfl d_Wo_answer_183 rfl (Or.inl ⟨_, rfl⟩)
                        ·
                          refine gk_ite (fun z1_12 => ?_) (fun z1_12 => ?_)
                          · refine gk_tsw_in (pc := 1) (68 : Int32) 184 d_Wo_answer_1 z1_12 (by decide) (by decide) rfl rfl ?_
                            exact p_Wo_answer_b184 d a0 a1 h
                          ·
                            refine gk_ite (fun z1_13 => ?_) (fun z1_13 => ?_)
                            · refine gk_tsw_in (pc := 1) (69 : Int32) 184 d_Wo_answer_1 z1_13 (by decide) (by decide) rfl rfl ?_
                              exact p_Wo_answer_b184 d a0 a1 h
                            ·
                              refine gk_ite (fun z1_14 => ?_) (fun z1_14 => ?_)
                              · refine gk_tsw_in (pc := 1) (70 : Int32) 190 d_Wo_answer_1 z1_14 (by decide) (by decide) rfl rfl ?_
                                refine gk_aload_n (pc := 190) 1 d_Wo_answer_190 rfl ?_
                                refine gk_iconst (pc := 191) (0 : Int32) d_Wo_answer_191 rfl ?_
                                refine gk_callV (pc := 192) (d := (d + 9)) (w' := gv_R) (as := [.int (0 : Int32)]) (n := 1) 4 d_Wo_answer_192 rfl rfl rfl rfl (Nat.le_of_ble_eq_true rfl) tw_1347 tw_886 tw_887 tw_96 cw_Ar_lettersOf hy_Ar_lettersOf (Nat.le_of_ble_eq_true rfl) (p_Ar_lettersOf (d + 1) a1 (0 : Int32) h) fun x16 h16 => ?_
                                refine gk_aload_n (pc := 195) 1 d_Wo_answer_195 rfl ?_
                                refine gk_iconst (pc := 196) (1 : Int32) d_Wo_answer_196 rfl ?_
                                refine gk_callV (pc := 197) (d := (d + 9)) (w' := gv_R) (as := [.int (1 : Int32)]) (n := 1) 4 d_Wo_answer_197 rfl rfl rfl rfl (by simp [gk_cat_rf, gk_catI, gk_catJ, gk_catD, gv_V, gv_I, gv_J, gv_D, gv_R]) tw_1347 tw_886 tw_887 tw_96 cw_Ar_lettersOf hy_Ar_lettersOf (Nat.le_of_ble_eq_true rfl) (p_Ar_lettersOf (d + 1) a1 (1 : Int32) h16) fun x17 h17 => ?_
                                refine gk_callV (pc := 200) (d := (d + 9)) (w' := gv_I) (as := [va_rf x17]) (n := 1) 0 d_Wo_answer_200 rfl rfl rfl rfl (Nat.le_of_ble_eq_true rfl) tw_1420 tw_1421 tw_1422 tw_94 cw_St_equals hy_St_equals (Nat.le_of_ble_eq_true rfl) (p_St_equals (d + 8) x16 x17 h17) fun x18 h18 => ?_
                                refine gk_callS (pc := 203) (d := (d + 9)) (w' := gv_R) (as := [.int x18]) (n := 1) d_Wo_answer_203 rfl rfl (Nat.le_of_ble_eq_true rfl) tw_1428 tw_739 tw_97 cw_Va_ofTruth hy_Va_ofTruth (Nat.le_of_ble_eq_true rfl) (p_Va_ofTruth (d + 7) x18 h18) fun x19 h19 => ?_
                                exact gk_aret (pc := 206) rfl d_Wo_answer_206 rfl (Or.inl ⟨_, rfl⟩)
                              ·
                                refine gk_ite (fun z1_15 => ?_) (fun z1_15 => ?_)
                                · refine gk_tsw_in (pc := 1) (71 : Int32) 207 d_Wo_answer_1 z1_15 (by decide) (by decide) rfl rfl ?_
                                  refine gk_aload_n (pc := 207) 1 d_Wo_answer_207 rfl ?_
                                  refine gk_iconst (pc := 208) (0 : Int32) d_Wo_answer_208 rfl ?_
                                  refine gk_callV (pc := 209) (d := (d + 9)) (w' := gv_J) (as := [.int (0 : Int32)]) (n := 1) 4 d_Wo_answer_209 rfl rfl rfl rfl (Nat.le_of_ble_eq_true rfl) tw_1366 tw_1065 tw_1066 tw_96 cw_Ar_whole hy_Ar_whole (Nat.le_of_ble_eq_true rfl) (p_Ar_whole (d + 2) a1 (0 : Int32) h) fun x20 h20 => ?_
                                  refine gk_callS (pc := 212) (d := (d + 9)) (w' := gv_R) (as := [.long x20]) (n := 1) d_Wo_answer_212 rfl rfl (Nat.le_of_ble_eq_true rfl) tw_1429 tw_1430 tw_122 cw_Wo_character hy_Wo_character (Nat.le_of_ble_eq_true rfl) (p_Wo_character (d + 3) x20 h20) fun x21 h21 => ?_
                                  exact gk_aret (pc := 215) rfl d_Wo_answer_215 rfl (Or.inl ⟨_, rfl⟩)
                                ·
                                  refine gk_ite (fun z1_16 => ?_) (fun z1_16 => ?_)
                                  · refine gk_tsw_in (pc := 1) (72 : Int32) 216 d_Wo_answer_1 z1_16 (by decide) (by decide) rfl rfl ?_
                                    refine gk_aload_n (pc := 216) 1 d_Wo_answer_216 rfl ?_
                                    refine gk_iconst (pc := 217) (0 : Int32) d_Wo_answer_217 rfl ?_
                                    refine gk_callV (pc := 218) (d := (d + 9)) (w' := gv_R) (as := [.int (0 : Int32)]) (n := 1) 4 d_Wo_answer_218 rfl rfl rfl rfl (Nat.le_of_ble_eq_true rfl) tw_1347 tw_886 tw_887 tw_96 cw_Ar_lettersOf hy_Ar_lettersOf (Nat.le_of_ble_eq_true rfl) (p_Ar_lettersOf (d + 1) a1 (0 : Int32) h) fun x22 h22 => ?_
                                    refine gk_callS (pc := 221) (d := (d + 9)) (w' := gv_R) (as := [va_rf x22]) (n := 1) d_Wo_answer_221 rfl rfl (Nat.le_of_ble_eq_true rfl) tw_1434 tw_1435 tw_122 cw_Wo_codeOf hy_Wo_codeOf (Nat.le_of_ble_eq_true rfl) (p_Wo_codeOf (d + 5) x22 h22) fun x23 h23 => ?_
                                    exact gk_aret (pc := 224) rfl d_Wo_answer_224 rfl (Or.inl ⟨_, rfl⟩)
                                  ·
                                    refine gk_ite (fun z1_17 => ?_) (fun z1_17 => ?_)
                                    · refine gk_tsw_in (pc := 1) (73 : Int32) 225 d_Wo_answer_1 z1_17 (by decide) (by decide) rfl rfl ?_
                                      refine gk_aload_n (pc := 225) 1 d_Wo_answer_225 rfl ?_
                                      refine gk_iconst (pc := 226) (0 : Int32) d_Wo_answer_226 rfl ?_
                                      refine gk_callV (pc := 227) (d := (d + 9)) (w' := gv_R) (as := [.int (0 : Int32)]) (n := 1) 4 d_Wo_answer_227 rfl rfl rfl rfl (Nat.le_of_ble_eq_true rfl) tw_1347 tw_886 tw_887 tw_96 cw_Ar_lettersOf hy_Ar_lettersOf (Nat.le_of_ble_eq_true rfl) (p_Ar_lettersOf (d + 1) a1 (0 : Int32) h) fun x24 h24 => ?_
                                      refine gk_callS (pc := 230) (d := (d + 9)) (w' := gv_R) (as := [va_rf x24]) (n := 1) d_Wo_answer_230 rfl rfl (Nat.le_of_ble_eq_true rfl) tw_1437 tw_1438 tw_122 cw_Wo_numeralOf hy_Wo_numeralOf (Nat.le_of_ble_eq_true rfl) (p_Wo_numeralOf (d + 3) x24 h24) fun x25 h25 => ?_
                                      exact gk_aret (pc := 233) rfl d_Wo_answer_233 rfl (Or.inl ⟨_, rfl⟩)
                                    ·
                                      refine gk_tsw_out (pc := 1) 234 d_Wo_answer_1 (by have e0 := gk_neT z1_0 (by decide : (56 : Int32).toInt = 56); have e1 := gk_neT z1_1 (by decide : (57 : Int32).toInt = 57); have e2 := gk_neT z1_2 (by decide : (58 : Int32).toInt = 58); have e3 := gk_neT z1_3 (by decide : (59 : Int32).toInt = 59); have e4 := gk_neT z1_4 (by decide : (60 : Int32).toInt = 60); have e5 := gk_neT z1_5 (by decide : (61 : Int32).toInt = 61); have e6 := gk_neT z1_6 (by decide : (62 : Int32).toInt = 62); have e7 := gk_neT z1_7 (by decide : (63 : Int32).toInt = 63); have e8 := gk_neT z1_8 (by decide : (64 : Int32).toInt = 64); have e9 := gk_neT z1_9 (by decide : (65 : Int32).toInt = 65); have e10 := gk_neT z1_10 (by decide : (66 : Int32).toInt = 66); have e11 := gk_neT z1_11 (by decide : (67 : Int32).toInt = 67); have e12 := gk_neT z1_12 (by decide : (68 : Int32).toInt = 68); have e13 := gk_neT z1_13 (by decide : (69 : Int32).toInt = 69); have e14 := gk_neT z1_14 (by decide : (70 : Int32).toInt = 70); have e15 := gk_neT z1_15 (by decide : (71 : Int32).toInt = 71); have e16 := gk_neT z1_16 (by decide : (72 : Int32).toInt = 72); have e17 := gk_neT z1_17 (by decide : (73 : Int32).toInt = 73); omega) rfl ?_
                                      refine gk_iconst (pc := 234) (3 : Int32) d_Wo_answer_234 rfl ?_
                                      refine gk_callS (pc := 235) (d := (d + 9)) (w' := gv_R) (as := [.int (3 : Int32)]) (n := 1) d_Wo_answer_235 rfl rfl (Nat.le_of_ble_eq_true rfl) tw_1354 tw_236 tw_97 cw_Va_ofError hy_Va_ofError (Nat.le_of_ble_eq_true rfl) (p_Va_ofError (d + 7) (3 : Int32) h) fun x26 h26 => ?_
                                      exact gk_aret (pc := 238) rfl d_Wo_answer_238 rfl (Or.inl ⟨_, rfl⟩)
theorem p_Wo_answer (d : Nat) (a0 : Int32) (a1 : Option Nat) (h : gk_H) : ∀ r h1, f_Wo_answer a0 a1 h = some (r, h1) → gk_M (d + 10) y_Wo_answer b_Wo_answer 2 (some (.object "ValueAlgebra$Value")) [.int a0, va_rf a1] h (.inl (gv_R r)) h1 :=
  fun r h1 e => gk_M_of2 (by decide +kernel) (by simp [lv_args, gk_cat_rf, gk_catI, gk_catJ, gk_catD, gv_V, gv_I, gv_J, gv_D, gv_R]) (by simp [lg_sl, gk_cat_rf, gk_catI, gk_catJ, gk_catD, gv_V, gv_I, gv_J, gv_D, gv_R]) (w_Wo_answer d a0 a1 h r h1 e)
theorem d_Va_cellIn_0 : decode b_Va_cellIn 0 = .ok (.aload_n 0, 1) := by decide +kernel
theorem d_Va_cellIn_1 : decode b_Va_cellIn 1 = .ok (.iload_n 1, 1) := by decide +kernel
theorem d_Va_cellIn_2 : decode b_Va_cellIn 2 = .ok (.aload_n 0, 1) := by decide +kernel
theorem d_Va_cellIn_3 : decode b_Va_cellIn 3 = .ok (.getfield 29, 3) := by decide +kernel
theorem d_Va_cellIn_6 : decode b_Va_cellIn 6 = .ok (.imul, 1) := by decide +kernel
theorem d_Va_cellIn_7 : decode b_Va_cellIn 7 = .ok (.iload_n 2, 1) := by decide +kernel
theorem d_Va_cellIn_8 : decode b_Va_cellIn 8 = .ok (.iadd, 1) := by decide +kernel
theorem d_Va_cellIn_9 : decode b_Va_cellIn 9 = .ok (.invokevirtual 55, 3) := by decide +kernel
theorem d_Va_cellIn_12 : decode b_Va_cellIn 12 = .ok (.areturn, 1) := by decide +kernel
theorem w_Va_cellIn (d : Nat) (a0 : Option Nat) (a1 : Int32) (a2 : Int32) (h : gk_H) : gk_P gw_R (d + 1) y_Va_cellIn b_Va_cellIn 3 (some (.object "ValueAlgebra$Value")) [] (f_Va_cellIn a0 a1 a2 h) 0 [(0, va_rf a0), (1, .int a1), (2, .int a2)] [] h := by
  unfold f_Va_cellIn
  refine gk_aload_n (pc := 0) 0 d_Va_cellIn_0 rfl ?_
  refine gk_iload_n (pc := 1) 1 d_Va_cellIn_1 rfl ?_
  refine gk_aload_n (pc := 2) 0 d_Va_cellIn_2 rfl ?_
  refine gk_getI (pc := 3) 2 5 d_Va_cellIn_3 rfl (Nat.le_of_ble_eq_true rfl) tw_215 fun x1 => ?_
  refine gk_imul (pc := 6) d_Va_cellIn_6 ?_
  refine gk_iload_n (pc := 7) 2 d_Va_cellIn_7 rfl ?_
  refine gk_iadd (pc := 8) d_Va_cellIn_8 ?_
  refine gk_callV (pc := 9) (d := d) (w' := gv_R) (as := [.int ((a1 * x1) + a2)]) (n := 1) 2 d_Va_cellIn_9 rfl rfl rfl rfl (Nat.le_of_ble_eq_true rfl) tw_1458 tw_780 tw_781 tw_97 cw_Va_cellAt hy_Va_cellAt (Nat.le_of_ble_eq_true rfl) (p_Va_cellAt d a0 ((a1 * x1) + a2) h) fun x2 h1 => ?_
  exact gk_aret (pc := 12) rfl d_Va_cellIn_12 rfl (Or.inl ⟨_, rfl⟩)
theorem p_Va_cellIn (d : Nat) (a0 : Option Nat) (a1 : Int32) (a2 : Int32) (h : gk_H) : ∀ r h1, f_Va_cellIn a0 a1 a2 h = some (r, h1) → gk_M (d + 1) y_Va_cellIn b_Va_cellIn 3 (some (.object "ValueAlgebra$Value")) [va_rf a0, .int a1, .int a2] h (.inl (gv_R r)) h1 :=
  fun r h1 e => gk_M_of2 (by decide +kernel) (by simp [lv_args, gk_cat_rf, gk_catI, gk_catJ, gk_catD, gv_V, gv_I, gv_J, gv_D, gv_R]) (by simp [lg_sl, gk_cat_rf, gk_catI, gk_catJ, gk_catD, gv_V, gv_I, gv_J, gv_D, gv_R]) (w_Va_cellIn d a0 a1 a2 h r h1 e)
