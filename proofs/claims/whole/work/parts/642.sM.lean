theorem d_M_fail_0 : decode b_M_fail 0 = .ok (.aload_n 0, 1) := by decide +kernel
theorem d_M_fail_1 : decode b_M_fail 1 = .ok (.aload_n 0, 1) := by decide +kernel
theorem d_M_fail_2 : decode b_M_fail 2 = .ok (.getfield 62, 3) := by decide +kernel
theorem d_M_fail_5 : decode b_M_fail 5 = .ok (.ifCond .ne 7, 3) := by decide +kernel
theorem d_M_fail_8 : decode b_M_fail 8 = .ok (.iload_n 1, 1) := by decide +kernel
theorem d_M_fail_9 : decode b_M_fail 9 = .ok (.goto 7, 3) := by decide +kernel
theorem d_M_fail_12 : decode b_M_fail 12 = .ok (.aload_n 0, 1) := by decide +kernel
theorem d_M_fail_13 : decode b_M_fail 13 = .ok (.getfield 62, 3) := by decide +kernel
theorem d_M_fail_16 : decode b_M_fail 16 = .ok (.putfield 62, 3) := by decide +kernel
theorem d_M_fail_19 : decode b_M_fail 19 = .ok (.return_, 1) := by decide +kernel
theorem p_M_fail_b16 (d : Nat)  (s0 : Option Nat) (s1 : Int32) (h : gk_H) : gk_P gw_V d y_M_fail b_M_fail 2 none [] (f_M_fail_b16  s0 s1 h) 16 [] [.int s1, va_rf s0] h := by
  unfold f_M_fail_b16
  refine gk_putfield (pc := 16) 7 11 d_M_fail_16 rfl (Nat.le_of_ble_eq_true rfl) tw_1656 (Or.inl rfl) fun h1 => ?_
  exact gk_vret (pc := 19) rfl d_M_fail_19 rfl
theorem w_M_fail (d : Nat) (a0 : Option Nat) (a1 : Int32) (h : gk_H) : gk_P gw_V d y_M_fail b_M_fail 2 none [] (f_M_fail a0 a1 h) 0 [(0, va_rf a0), (1, .int a1)] [] h := by
  unfold f_M_fail
  refine gk_aload_n (pc := 0) 0 d_M_fail_0 rfl ?_
  refine gk_aload_n (pc := 1) 0 d_M_fail_1 rfl ?_
  refine gk_getI (pc := 2) 7 11 d_M_fail_2 rfl (Nat.le_of_ble_eq_true rfl) tw_1656 fun x1 => ?_
  refine gk_if_ne (pc := 5) 12 d_M_fail_5 rfl (fun _ => ?_) (fun _ => ?_)
  · refine gk_iload_n (pc := 8) 1 d_M_fail_8 rfl ?_
    refine gk_goto (pc := 9) 16 d_M_fail_9 rfl ?_
    refine gk_weak [] (L' := []) rfl ?_
    exact p_M_fail_b16 d a0 a1 h
  · refine gk_aload_n (pc := 12) 0 d_M_fail_12 rfl ?_
    refine gk_getI (pc := 13) 7 11 d_M_fail_13 rfl (Nat.le_of_ble_eq_true rfl) tw_1656 fun x2 => ?_
    refine gk_weak [] (L' := []) rfl ?_
    exact p_M_fail_b16 d a0 x2 h
theorem p_M_fail (d : Nat) (a0 : Option Nat) (a1 : Int32) (h : gk_H) : ∀ r h1, f_M_fail a0 a1 h = some (r, h1) → gk_M d y_M_fail b_M_fail 2 none [va_rf a0, .int a1] h (.inl (gv_V r)) h1 :=
  fun r h1 e => gk_M_of2 (by decide +kernel) (by simp [lv_args, gk_cat_rf, gk_catI, gk_catJ, gk_catD, gv_V, gv_I, gv_J, gv_D, gv_R]) (by simp [lg_sl, gk_cat_rf, gk_catI, gk_catJ, gk_catD, gv_V, gv_I, gv_J, gv_D, gv_R]) (w_M_fail d a0 a1 h r h1 e)
theorem d_M_single_0 : decode b_M_single 0 = .ok (.aload_n 0, 1) := by decide +kernel
theorem d_M_single_1 : decode b_M_single 1 = .ok (.getfield 17, 3) := by decide +kernel
theorem d_M_single_4 : decode b_M_single 4 = .ok (.iload_n 1, 1) := by decide +kernel
theorem d_M_single_5 : decode b_M_single 5 = .ok (.iaload, 1) := by decide +kernel
theorem d_M_single_6 : decode b_M_single 6 = .ok (.aload_n 0, 1) := by decide +kernel
theorem d_M_single_7 : decode b_M_single 7 = .ok (.getfield 20, 3) := by decide +kernel
theorem d_M_single_10 : decode b_M_single 10 = .ok (.iload_n 1, 1) := by decide +kernel
theorem d_M_single_11 : decode b_M_single 11 = .ok (.iaload, 1) := by decide +kernel
theorem d_M_single_12 : decode b_M_single 12 = .ok (.imul, 1) := by decide +kernel
theorem d_M_single_13 : decode b_M_single 13 = .ok (.iconst 1, 1) := by decide +kernel
theorem d_M_single_14 : decode b_M_single 14 = .ok (.if_icmp .eq 8, 3) := by decide +kernel
theorem d_M_single_17 : decode b_M_single 17 = .ok (.aload_n 0, 1) := by decide +kernel
theorem d_M_single_18 : decode b_M_single 18 = .ok (.iconst 3, 1) := by decide +kernel
theorem d_M_single_19 : decode b_M_single 19 = .ok (.invokevirtual 58, 3) := by decide +kernel
theorem d_M_single_22 : decode b_M_single 22 = .ok (.bipush 16, 2) := by decide +kernel
theorem d_M_single_24 : decode b_M_single 24 = .ok (.iload_n 1, 1) := by decide +kernel
theorem d_M_single_25 : decode b_M_single 25 = .ok (.imul, 1) := by decide +kernel
theorem d_M_single_26 : decode b_M_single 26 = .ok (.ireturn, 1) := by decide +kernel
theorem p_M_single_b22 (d : Nat)  (v1 : Int32) (h : gk_H) : gk_P gw_I (d + 1) y_M_single b_M_single 2 (some .int) [] (f_M_single_b22  v1 h) 22 [(1, .int v1)] [] h := by
  unfold f_M_single_b22
  refine gk_bipush (pc := 22) (16 : Int32) d_M_single_22 rfl ?_
  refine gk_iload_n (pc := 24) 0 d_M_single_24 rfl ?_
  refine gk_imul (pc := 25) d_M_single_25 ?_
  exact gk_iret (pc := 26) rfl d_M_single_26 rfl
theorem w_M_single (d : Nat) (a0 : Option Nat) (a1 : Int32) (h : gk_H) : gk_P gw_I (d + 1) y_M_single b_M_single 2 (some .int) [] (f_M_single a0 a1 h) 0 [(0, va_rf a0), (1, .int a1)] [] h := by
  unfold f_M_single
  refine gk_aload_n (pc := 0) 0 d_M_single_0 rfl ?_
  refine gk_getR (pc := 1) 7 5 d_M_single_1 rfl (Nat.le_of_ble_eq_true rfl) tw_1650 fun x1 => ?_
  refine gk_iload_n (pc := 4) 1 d_M_single_4 rfl ?_
  refine gk_iald (pc := 5) d_M_single_5 fun x2 => ?_
  refine gk_aload_n (pc := 6) 0 d_M_single_6 rfl ?_
  refine gk_getR (pc := 7) 7 6 d_M_single_7 rfl (Nat.le_of_ble_eq_true rfl) tw_1651 fun x3 => ?_
  refine gk_iload_n (pc := 10) 1 d_M_single_10 rfl ?_
  refine gk_iald (pc := 11) d_M_single_11 fun x4 => ?_
  refine gk_imul (pc := 12) d_M_single_12 ?_
  refine gk_iconst (pc := 13) (1 : Int32) d_M_single_13 rfl ?_
  refine gk_icmp_eq (pc := 14) 22 d_M_single_14 rfl (fun _ => ?_) (fun _ => ?_)
  · refine gk_weak [1] (L' := [(1, .int a1)]) rfl ?_
    exact p_M_single_b22 d a1 h
  · refine gk_aload_n (pc := 17) 0 d_M_single_17 rfl ?_
    refine gk_iconst (pc := 18) (3 : Int32) d_M_single_18 rfl ?_
    refine gk_callV (pc := 19) (d := d) (w' := gv_V) (as := [.int (3 : Int32)]) (n := 1) 7 d_M_single_19 rfl rfl rfl rfl (Nat.le_of_ble_eq_true rfl) tw_1805 tw_1807 tw_21 tw_99 cw_M_fail hy_M_fail (Nat.le_of_ble_eq_true rfl) (p_M_fail d a0 (3 : Int32) h) fun _ h1 => ?_
    refine gk_weak [1] (L' := [(1, .int a1)]) rfl ?_
    exact p_M_single_b22 d a1 h1
theorem p_M_single (d : Nat) (a0 : Option Nat) (a1 : Int32) (h : gk_H) : ∀ r h1, f_M_single a0 a1 h = some (r, h1) → gk_M (d + 1) y_M_single b_M_single 2 (some .int) [va_rf a0, .int a1] h (.inl (gv_I r)) h1 :=
  fun r h1 e => gk_M_of2 (by decide +kernel) (by simp [lv_args, gk_cat_rf, gk_catI, gk_catJ, gk_catD, gv_V, gv_I, gv_J, gv_D, gv_R]) (by simp [lg_sl, gk_cat_rf, gk_catI, gk_catJ, gk_catD, gv_V, gv_I, gv_J, gv_D, gv_R]) (w_M_single d a0 a1 h r h1 e)
theorem d_M_wantAny_0 : decode b_M_wantAny 0 = .ok (.aload_n 0, 1) := by decide +kernel
theorem d_M_wantAny_1 : decode b_M_wantAny 1 = .ok (.getfield 62, 3) := by decide +kernel
theorem d_M_wantAny_4 : decode b_M_wantAny 4 = .ok (.ifCond .le 8, 3) := by decide +kernel
theorem d_M_wantAny_7 : decode b_M_wantAny 7 = .ok (.bipush 16, 2) := by decide +kernel
theorem d_M_wantAny_9 : decode b_M_wantAny 9 = .ok (.iload_n 1, 1) := by decide +kernel
theorem d_M_wantAny_10 : decode b_M_wantAny 10 = .ok (.imul, 1) := by decide +kernel
theorem d_M_wantAny_11 : decode b_M_wantAny 11 = .ok (.ireturn, 1) := by decide +kernel
theorem d_M_wantAny_12 : decode b_M_wantAny 12 = .ok (.aload_n 0, 1) := by decide +kernel
theorem d_M_wantAny_13 : decode b_M_wantAny 13 = .ok (.iload_n 1, 1) := by decide +kernel
theorem d_M_wantAny_14 : decode b_M_wantAny 14 = .ok (.invokevirtual 126, 3) := by decide +kernel
theorem d_M_wantAny_17 : decode b_M_wantAny 17 = .ok (.istore_n 2, 1) := by decide +kernel
theorem d_M_wantAny_18 : decode b_M_wantAny 18 = .ok (.aload_n 0, 1) := by decide +kernel
theorem d_M_wantAny_19 : decode b_M_wantAny 19 = .ok (.getfield 62, 3) := by decide +kernel
theorem d_M_wantAny_22 : decode b_M_wantAny 22 = .ok (.ifCond .ne 24, 3) := by decide +kernel
theorem d_M_wantAny_25 : decode b_M_wantAny 25 = .ok (.aload_n 0, 1) := by decide +kernel
theorem d_M_wantAny_26 : decode b_M_wantAny 26 = .ok (.getfield 23, 3) := by decide +kernel
theorem d_M_wantAny_29 : decode b_M_wantAny 29 = .ok (.iload_n 2, 1) := by decide +kernel
theorem d_M_wantAny_30 : decode b_M_wantAny 30 = .ok (.iaload, 1) := by decide +kernel
theorem d_M_wantAny_31 : decode b_M_wantAny 31 = .ok (.iconst 4, 1) := by decide +kernel
theorem d_M_wantAny_32 : decode b_M_wantAny 32 = .ok (.if_icmp .ne 14, 3) := by decide +kernel
theorem d_M_wantAny_35 : decode b_M_wantAny 35 = .ok (.aload_n 0, 1) := by decide +kernel
theorem d_M_wantAny_36 : decode b_M_wantAny 36 = .ok (.aload_n 0, 1) := by decide +kernel
theorem d_M_wantAny_37 : decode b_M_wantAny 37 = .ok (.getfield 26, 3) := by decide +kernel
theorem d_M_wantAny_40 : decode b_M_wantAny 40 = .ok (.iload_n 2, 1) := by decide +kernel
theorem d_M_wantAny_41 : decode b_M_wantAny 41 = .ok (.daload, 1) := by decide +kernel
theorem d_M_wantAny_42 : decode b_M_wantAny 42 = .ok (.d2i, 1) := by decide +kernel
theorem d_M_wantAny_43 : decode b_M_wantAny 43 = .ok (.invokevirtual 58, 3) := by decide +kernel
theorem d_M_wantAny_46 : decode b_M_wantAny 46 = .ok (.iload_n 2, 1) := by decide +kernel
theorem d_M_wantAny_47 : decode b_M_wantAny 47 = .ok (.ireturn, 1) := by decide +kernel
theorem p_M_wantAny_b46 (d : Nat)  (v2 : Int32) (h : gk_H) : gk_P gw_I (d + 2) y_M_wantAny b_M_wantAny 3 (some .int) [] (f_M_wantAny_b46  v2 h) 46 [(2, .int v2)] [] h := by
  unfold f_M_wantAny_b46
  refine gk_iload_n (pc := 46) 0 d_M_wantAny_46 rfl ?_
  exact gk_iret (pc := 47) rfl d_M_wantAny_47 rfl
theorem w_M_wantAny (d : Nat) (a0 : Option Nat) (a1 : Int32) (h : gk_H) : gk_P gw_I (d + 2) y_M_wantAny b_M_wantAny 3 (some .int) [] (f_M_wantAny a0 a1 h) 0 [(0, va_rf a0), (1, .int a1)] [] h := by
  unfold f_M_wantAny
  refine gk_aload_n (pc := 0) 0 d_M_wantAny_0 rfl ?_
  refine gk_getI (pc := 1) 7 11 d_M_wantAny_1 rfl (Nat.le_of_ble_eq_true rfl) tw_1656 fun x1 => ?_
  refine gk_if_le (pc := 4) 12 d_M_wantAny_4 rfl (fun _ => ?_) (fun _ => ?_)
  · refine gk_aload_n (pc := 12) 0 d_M_wantAny_12 rfl ?_
    refine gk_iload_n (pc := 13) 1 d_M_wantAny_13 rfl ?_
    refine gk_callV (pc := 14) (d := (d + 1)) (w' := gv_I) (as := [.int a1]) (n := 1) 7 d_M_wantAny_14 rfl rfl rfl rfl (Nat.le_of_ble_eq_true rfl) tw_1801 tw_1803 tw_20 tw_99 cw_M_single hy_M_single (Nat.le_of_ble_eq_true rfl) (p_M_single d a0 a1 h) fun x2 h1 => ?_
    refine gk_istore_n (pc := 17) (L' := [(2, .int x2), (0, va_rf a0), (1, .int a1)]) d_M_wantAny_17 (Nat.le_of_ble_eq_true rfl) rfl ?_
    refine gk_aload_n (pc := 18) 1 d_M_wantAny_18 rfl ?_
    refine gk_getI (pc := 19) 7 11 d_M_wantAny_19 rfl (Nat.le_of_ble_eq_true rfl) tw_1656 fun x3 => ?_
    refine gk_if_ne (pc := 22) 46 d_M_wantAny_22 rfl (fun _ => ?_) (fun _ => ?_)
    · refine gk_aload_n (pc := 25) 1 d_M_wantAny_25 rfl ?_
      refine gk_getR (pc := 26) 7 7 d_M_wantAny_26 rfl (Nat.le_of_ble_eq_true rfl) tw_1652 fun x4 => ?_
      refine gk_iload_n (pc := 29) 0 d_M_wantAny_29 rfl ?_
      refine gk_iald (pc := 30) d_M_wantAny_30 fun x5 => ?_
      refine gk_iconst (pc := 31) (4 : Int32) d_M_wantAny_31 rfl ?_
      refine gk_icmp_ne (pc := 32) 46 d_M_wantAny_32 rfl (fun _ => ?_) (fun _ => ?_)
      · refine gk_aload_n (pc := 35) 1 d_M_wantAny_35 rfl ?_
        refine gk_aload_n (pc := 36) 1 d_M_wantAny_36 rfl ?_
        refine gk_getR (pc := 37) 7 8 d_M_wantAny_37 rfl (Nat.le_of_ble_eq_true rfl) tw_1653 fun x6 => ?_
        refine gk_iload_n (pc := 40) 0 d_M_wantAny_40 rfl ?_
        refine gk_dald (pc := 41) d_M_wantAny_41 fun x7 => ?_
        refine gk_d2i (pc := 42) d_M_wantAny_42 ?_
        refine gk_callV (pc := 43) (d := (d + 1)) (w' := gv_V) (as := [.int (FP.d2i x7)]) (n := 1) 7 d_M_wantAny_43 rfl rfl rfl rfl (Nat.le_of_ble_eq_true rfl) tw_1805 tw_1807 tw_21 tw_99 cw_M_fail hy_M_fail (Nat.le_of_ble_eq_true rfl) (p_M_fail (d + 1) a0 (FP.d2i x7) h1) fun _ h2 => ?_
        refine gk_weak [0] (L' := [(2, .int x2)]) rfl ?_
        exact p_M_wantAny_b46 d x2 h2
      · refine gk_weak [0] (L' := [(2, .int x2)]) rfl ?_
        exact p_M_wantAny_b46 d x2 h1
    · refine gk_weak [0] (L' := [(2, .int x2)]) rfl ?_
      exact p_M_wantAny_b46 d x2 h1
  · refine gk_bipush (pc := 7) (16 : Int32) d_M_wantAny_7 rfl ?_
    refine gk_iload_n (pc := 9) 1 d_M_wantAny_9 rfl ?_
    refine gk_imul (pc := 10) d_M_wantAny_10 ?_
    exact gk_iret (pc := 11) rfl d_M_wantAny_11 rfl
theorem p_M_wantAny (d : Nat) (a0 : Option Nat) (a1 : Int32) (h : gk_H) : ∀ r h1, f_M_wantAny a0 a1 h = some (r, h1) → gk_M (d + 2) y_M_wantAny b_M_wantAny 3 (some .int) [va_rf a0, .int a1] h (.inl (gv_I r)) h1 :=
  fun r h1 e => gk_M_of2 (by decide +kernel) (by simp [lv_args, gk_cat_rf, gk_catI, gk_catJ, gk_catD, gv_V, gv_I, gv_J, gv_D, gv_R]) (by simp [lg_sl, gk_cat_rf, gk_catI, gk_catJ, gk_catD, gv_V, gv_I, gv_J, gv_D, gv_R]) (w_M_wantAny d a0 a1 h r h1 e)
theorem d_M_great_0 : decode b_M_great 0 = .ok (.iload_n 0, 1) := by decide +kernel
theorem d_M_great_1 : decode b_M_great 1 = .ok (.bipush 97, 2) := by decide +kernel
theorem d_M_great_3 : decode b_M_great 3 = .ok (.if_icmp .lt 16, 3) := by decide +kernel
theorem d_M_great_6 : decode b_M_great 6 = .ok (.iload_n 0, 1) := by decide +kernel
theorem d_M_great_7 : decode b_M_great 7 = .ok (.bipush 122, 2) := by decide +kernel
theorem d_M_great_9 : decode b_M_great 9 = .ok (.if_icmp .gt 10, 3) := by decide +kernel
theorem d_M_great_12 : decode b_M_great 12 = .ok (.iload_n 0, 1) := by decide +kernel
theorem d_M_great_13 : decode b_M_great 13 = .ok (.bipush 32, 2) := by decide +kernel
theorem d_M_great_15 : decode b_M_great 15 = .ok (.isub, 1) := by decide +kernel
theorem d_M_great_16 : decode b_M_great 16 = .ok (.goto 4, 3) := by decide +kernel
theorem d_M_great_19 : decode b_M_great 19 = .ok (.iload_n 0, 1) := by decide +kernel
theorem d_M_great_20 : decode b_M_great 20 = .ok (.ireturn, 1) := by decide +kernel
theorem p_M_great_b20 (d : Nat)  (s0 : Int32) (h : gk_H) : gk_P gw_I d y_M_great b_M_great 1 (some .int) [] (f_M_great_b20  s0 h) 20 [] [.int s0] h := by
  unfold f_M_great_b20
  exact gk_iret (pc := 20) rfl d_M_great_20 rfl
theorem p_M_great_b19 (d : Nat)  (v0 : Int32) (h : gk_H) : gk_P gw_I d y_M_great b_M_great 1 (some .int) [] (f_M_great_b19  v0 h) 19 [(0, .int v0)] [] h := by
  unfold f_M_great_b19
  refine gk_iload_n (pc := 19) 0 d_M_great_19 rfl ?_
  refine gk_weak [] (L' := []) rfl ?_
  exact p_M_great_b20 d v0 h
theorem w_M_great (d : Nat) (a0 : Int32) (h : gk_H) : gk_P gw_I d y_M_great b_M_great 1 (some .int) [] (f_M_great a0 h) 0 [(0, .int a0)] [] h := by
  unfold f_M_great
  refine gk_iload_n (pc := 0) 0 d_M_great_0 rfl ?_
  refine gk_bipush (pc := 1) (97 : Int32) d_M_great_1 rfl ?_
  refine gk_icmp_lt (pc := 3) 19 d_M_great_3 rfl (fun _ => ?_) (fun _ => ?_)
  · exact p_M_great_b19 d a0 h
  · refine gk_iload_n (pc := 6) 0 d_M_great_6 rfl ?_
    refine gk_bipush (pc := 7) (122 : Int32) d_M_great_7 rfl ?_
    refine gk_icmp_gt (pc := 9) 19 d_M_great_9 rfl (fun _ => ?_) (fun _ => ?_)
    · exact p_M_great_b19 d a0 h
    · refine gk_iload_n (pc := 12) 0 d_M_great_12 rfl ?_
      refine gk_bipush (pc := 13) (32 : Int32) d_M_great_13 rfl ?_
      refine gk_isub (pc := 15) d_M_great_15 ?_
      refine gk_goto (pc := 16) 20 d_M_great_16 rfl ?_
      refine gk_weak [] (L' := []) rfl ?_
      exact p_M_great_b20 d (a0 - (32 : Int32)) h
theorem p_M_great (d : Nat) (a0 : Int32) (h : gk_H) : ∀ r h1, f_M_great a0 h = some (r, h1) → gk_M d y_M_great b_M_great 1 (some .int) [.int a0] h (.inl (gv_I r)) h1 :=
  fun r h1 e => gk_M_of2 (by decide +kernel) (by simp [lv_args, gk_cat_rf, gk_catI, gk_catJ, gk_catD, gv_V, gv_I, gv_J, gv_D, gv_R]) (by simp [lg_sl, gk_cat_rf, gk_catI, gk_catJ, gk_catD, gv_V, gv_I, gv_J, gv_D, gv_R]) (w_M_great d a0 h r h1 e)
theorem d_M_compareWords_0 : decode b_M_compareWords 0 = .ok (.iconst 0, 1) := by decide +kernel
theorem d_M_compareWords_1 : decode b_M_compareWords 1 = .ok (.istore 7, 2) := by decide +kernel
theorem d_M_compareWords_3 : decode b_M_compareWords 3 = .ok (.iload 7, 2) := by decide +kernel
theorem d_M_compareWords_5 : decode b_M_compareWords 5 = .ok (.iload_n 3, 1) := by decide +kernel
theorem d_M_compareWords_6 : decode b_M_compareWords 6 = .ok (.if_icmp .ge 60, 3) := by decide +kernel
theorem d_M_compareWords_9 : decode b_M_compareWords 9 = .ok (.iload 7, 2) := by decide +kernel
theorem d_M_compareWords_11 : decode b_M_compareWords 11 = .ok (.iload 6, 2) := by decide +kernel
theorem d_M_compareWords_13 : decode b_M_compareWords 13 = .ok (.if_icmp .ge 53, 3) := by decide +kernel
theorem d_M_compareWords_16 : decode b_M_compareWords 16 = .ok (.aload_n 1, 1) := by decide +kernel
theorem d_M_compareWords_17 : decode b_M_compareWords 17 = .ok (.iload_n 2, 1) := by decide +kernel
theorem d_M_compareWords_18 : decode b_M_compareWords 18 = .ok (.iload 7, 2) := by decide +kernel
theorem d_M_compareWords_20 : decode b_M_compareWords 20 = .ok (.iadd, 1) := by decide +kernel
theorem d_M_compareWords_21 : decode b_M_compareWords 21 = .ok (.baload, 1) := by decide +kernel
theorem d_M_compareWords_22 : decode b_M_compareWords 22 = .ok (.invokestatic 158, 3) := by decide +kernel
theorem d_M_compareWords_25 : decode b_M_compareWords 25 = .ok (.istore 8, 2) := by decide +kernel
theorem d_M_compareWords_27 : decode b_M_compareWords 27 = .ok (.aload 4, 2) := by decide +kernel
theorem d_M_compareWords_29 : decode b_M_compareWords 29 = .ok (.iload 5, 2) := by decide +kernel
theorem d_M_compareWords_31 : decode b_M_compareWords 31 = .ok (.iload 7, 2) := by decide +kernel
theorem d_M_compareWords_33 : decode b_M_compareWords 33 = .ok (.iadd, 1) := by decide +kernel
theorem d_M_compareWords_34 : decode b_M_compareWords 34 = .ok (.baload, 1) := by decide +kernel
theorem d_M_compareWords_35 : decode b_M_compareWords 35 = .ok (.invokestatic 158, 3) := by decide +kernel
theorem d_M_compareWords_38 : decode b_M_compareWords 38 = .ok (.istore 9, 2) := by decide +kernel
theorem d_M_compareWords_40 : decode b_M_compareWords 40 = .ok (.iload 8, 2) := by decide +kernel
theorem d_M_compareWords_42 : decode b_M_compareWords 42 = .ok (.iload 9, 2) := by decide +kernel
theorem d_M_compareWords_44 : decode b_M_compareWords 44 = .ok (.if_icmp .eq 16, 3) := by decide +kernel
theorem d_M_compareWords_47 : decode b_M_compareWords 47 = .ok (.iload 8, 2) := by decide +kernel
theorem d_M_compareWords_49 : decode b_M_compareWords 49 = .ok (.iload 9, 2) := by decide +kernel
theorem d_M_compareWords_51 : decode b_M_compareWords 51 = .ok (.if_icmp .ge 7, 3) := by decide +kernel
theorem d_M_compareWords_54 : decode b_M_compareWords 54 = .ok (.iconst (-1), 1) := by decide +kernel
theorem d_M_compareWords_55 : decode b_M_compareWords 55 = .ok (.goto 4, 3) := by decide +kernel
theorem d_M_compareWords_58 : decode b_M_compareWords 58 = .ok (.iconst 1, 1) := by decide +kernel
theorem d_M_compareWords_59 : decode b_M_compareWords 59 = .ok (.ireturn, 1) := by decide +kernel
theorem d_M_compareWords_60 : decode b_M_compareWords 60 = .ok (.iinc 7 1, 3) := by decide +kernel
theorem d_M_compareWords_63 : decode b_M_compareWords 63 = .ok (.goto (-60), 3) := by decide +kernel
theorem d_M_compareWords_66 : decode b_M_compareWords 66 = .ok (.iload_n 3, 1) := by decide +kernel
theorem d_M_compareWords_67 : decode b_M_compareWords 67 = .ok (.iload 6, 2) := by decide +kernel
theorem d_M_compareWords_69 : decode b_M_compareWords 69 = .ok (.if_icmp .ge 7, 3) := by decide +kernel
theorem d_M_compareWords_72 : decode b_M_compareWords 72 = .ok (.iconst (-1), 1) := by decide +kernel
theorem d_M_compareWords_73 : decode b_M_compareWords 73 = .ok (.goto 14, 3) := by decide +kernel
theorem d_M_compareWords_76 : decode b_M_compareWords 76 = .ok (.iload_n 3, 1) := by decide +kernel
theorem d_M_compareWords_77 : decode b_M_compareWords 77 = .ok (.iload 6, 2) := by decide +kernel
theorem d_M_compareWords_79 : decode b_M_compareWords 79 = .ok (.if_icmp .le 7, 3) := by decide +kernel
theorem d_M_compareWords_82 : decode b_M_compareWords 82 = .ok (.iconst 1, 1) := by decide +kernel
theorem d_M_compareWords_83 : decode b_M_compareWords 83 = .ok (.goto 4, 3) := by decide +kernel
theorem d_M_compareWords_86 : decode b_M_compareWords 86 = .ok (.iconst 0, 1) := by decide +kernel
theorem d_M_compareWords_87 : decode b_M_compareWords 87 = .ok (.ireturn, 1) := by decide +kernel
theorem p_M_compareWords_b87 (d : Nat)  (s0 : Int32) (h : gk_H) : gk_P gw_I (d + 1) y_M_compareWords b_M_compareWords 10 (some .int) [] (f_M_compareWords_b87  s0 h) 87 [] [.int s0] h := by
  unfold f_M_compareWords_b87
  exact gk_iret (pc := 87) rfl d_M_compareWords_87 rfl
theorem p_M_compareWords_b66 (d : Nat)  (v3 : Int32) (v6 : Int32) (h : gk_H) : gk_P gw_I (d + 1) y_M_compareWords b_M_compareWords 10 (some .int) [] (f_M_compareWords_b66  v3 v6 h) 66 [(3, .int v3), (6, .int v6)] [] h := by
  unfold f_M_compareWords_b66
  refine gk_iload_n (pc := 66) 0 d_M_compareWords_66 rfl ?_
  refine gk_iload (pc := 67) 1 d_M_compareWords_67 rfl ?_
  refine gk_icmp_ge (pc := 69) 76 d_M_compareWords_69 rfl (fun _ => ?_) (fun _ => ?_)
  · refine gk_iload_n (pc := 76) 0 d_M_compareWords_76 rfl ?_
    refine gk_iload (pc := 77) 1 d_M_compareWords_77 rfl ?_
    refine gk_icmp_le (pc := 79) 86 d_M_compareWords_79 rfl (fun _ => ?_) (fun _ => ?_)
    · refine gk_iconst (pc := 86) (0 : Int32) d_M_compareWords_86 rfl ?_
      refine gk_weak [] (L' := []) rfl ?_
      exact p_M_compareWords_b87 d (0 : Int32) h
    · refine gk_iconst (pc := 82) (1 : Int32) d_M_compareWords_82 rfl ?_
      refine gk_goto (pc := 83) 87 d_M_compareWords_83 rfl ?_
      refine gk_weak [] (L' := []) rfl ?_
      exact p_M_compareWords_b87 d (1 : Int32) h
  · refine gk_iconst (pc := 72) (-1 : Int32) d_M_compareWords_72 rfl ?_
    refine gk_goto (pc := 73) 87 d_M_compareWords_73 rfl ?_
    refine gk_weak [] (L' := []) rfl ?_
    exact p_M_compareWords_b87 d (-1 : Int32) h
theorem p_M_compareWords_b59 (d : Nat)  (s0 : Int32) (h : gk_H) : gk_P gw_I (d + 1) y_M_compareWords b_M_compareWords 10 (some .int) [] (f_M_compareWords_b59  s0 h) 59 [] [.int s0] h := by
  unfold f_M_compareWords_b59
  exact gk_iret (pc := 59) rfl d_M_compareWords_59 rfl
theorem p_M_compareWords_b3 (d : Nat)  : ∀ (fu : Nat) (v1 : Option Nat) (v2 : Int32) (v3 : Int32) (v4 : Option Nat) (v5 : Int32) (v6 : Int32) (v7 : Int32) (h : gk_H), gk_P gw_I (d + 1) y_M_compareWords b_M_compareWords 10 (some .int) [] (f_M_compareWords_b3  fu v1 v2 v3 v4 v5 v6 v7 h) 3 [(1, va_rf v1), (2, .int v2), (3, .int v3), (4, va_rf v4), (5, .int v5), (6, .int v6), (7, .int v7)] [] h := by
  intro fu
  induction fu with
  | zero => intros; exact gk_none
  | succ fu q3 =>
    intro v1 v2 v3 v4 v5 v6 v7 h
    rw [f_M_compareWords_b3]
    refine gk_iload (pc := 3) 6 d_M_compareWords_3 rfl ?_
    refine gk_iload_n (pc := 5) 2 d_M_compareWords_5 rfl ?_
    refine gk_icmp_ge (pc := 6) 66 d_M_compareWords_6 rfl (fun _ => ?_) (fun _ => ?_)
    · refine gk_weak [2, 5] (L' := [(3, .int v3), (6, .int v6)]) rfl ?_
      exact p_M_compareWords_b66 d v3 v6 h
    · refine gk_iload (pc := 9) 6 d_M_compareWords_9 rfl ?_
      refine gk_iload (pc := 11) 5 d_M_compareWords_11 rfl ?_
      refine gk_icmp_ge (pc := 13) 66 d_M_compareWords_13 rfl (fun _ => ?_) (fun _ => ?_)
      · refine gk_weak [2, 5] (L' := [(3, .int v3), (6, .int v6)]) rfl ?_
        exact p_M_compareWords_b66 d v3 v6 h
      · refine gk_aload_n (pc := 16) 0 d_M_compareWords_16 rfl ?_
        refine gk_iload_n (pc := 17) 1 d_M_compareWords_17 rfl ?_
        refine gk_iload (pc := 18) 6 d_M_compareWords_18 rfl ?_
        refine gk_iadd (pc := 20) d_M_compareWords_20 ?_
        refine gk_bald (pc := 21) d_M_compareWords_21 fun x1 => ?_
        refine gk_callS (pc := 22) (d := d) (w' := gv_I) (as := [.int x1]) (n := 1) d_M_compareWords_22 rfl rfl (Nat.le_of_ble_eq_true rfl) tw_1817 tw_1818 tw_99 cw_M_great hy_M_great (Nat.le_of_ble_eq_true rfl) (p_M_great d x1 h) fun x2 h1 => ?_
        refine gk_istore (pc := 25) (L' := [(8, .int x2), (1, va_rf v1), (2, .int v2), (3, .int v3), (4, va_rf v4), (5, .int v5), (6, .int v6), (7, .int v7)]) d_M_compareWords_25 (Nat.le_of_ble_eq_true rfl) rfl ?_
        refine gk_aload (pc := 27) 4 d_M_compareWords_27 rfl ?_
        refine gk_iload (pc := 29) 5 d_M_compareWords_29 rfl ?_
        refine gk_iload (pc := 31) 7 d_M_compareWords_31 rfl ?_
        refine gk_iadd (pc := 33) d_M_compareWords_33 ?_
        refine gk_bald (pc := 34) d_M_compareWords_34 fun x3 => ?_
        refine gk_callS (pc := 35) (d := d) (w' := gv_I) (as := [.int x3]) (n := 1) d_M_compareWords_35 rfl rfl (Nat.le_of_ble_eq_true rfl) tw_1817 tw_1818 tw_99 cw_M_great hy_M_great (Nat.le_of_ble_eq_true rfl) (p_M_great d x3 h1) fun x4 h2 => ?_
        refine gk_istore (pc := 38) (L' := [(9, .int x4), (8, .int x2), (1, va_rf v1), (2, .int v2), (3, .int v3), (4, va_rf v4), (5, .int v5), (6, .int v6), (7, .int v7)]) d_M_compareWords_38 (Nat.le_of_ble_eq_true rfl) rfl ?_
        refine gk_iload (pc := 40) 1 d_M_compareWords_40 rfl ?_
        refine gk_iload (pc := 42) 0 d_M_compareWords_42 rfl ?_
        refine gk_icmp_eq (pc := 44) 60 d_M_compareWords_44 rfl (fun _ => ?_) (fun _ => ?_)
        · refine gk_iincN (pc := 60) 8 (1 : Int32) (L' := fun x5 => [(7, .int x5), (9, .int x4), (8, .int x2), (1, va_rf v1), (2, .int v2), (3, .int v3), (4, va_rf v4), (5, .int v5), (6, .int v6)]) d_M_compareWords_60 rfl rfl (Nat.le_of_ble_eq_true rfl) (fun _ => rfl) fun x5 => ?_
          refine gk_goto (pc := 63) 3 d_M_compareWords_63 rfl ?_
          refine gk_weak [3, 4, 5, 6, 7, 8, 0] (L' := [(1, va_rf v1), (2, .int v2), (3, .int v3), (4, va_rf v4), (5, .int v5), (6, .int v6), (7, .int x5)]) rfl ?_
          exact q3 v1 v2 v3 v4 v5 v6 x5 h2
        · refine gk_iload (pc := 47) 1 d_M_compareWords_47 rfl ?_
          refine gk_iload (pc := 49) 0 d_M_compareWords_49 rfl ?_
          refine gk_icmp_ge (pc := 51) 58 d_M_compareWords_51 rfl (fun _ => ?_) (fun _ => ?_)
          · refine gk_iconst (pc := 58) (1 : Int32) d_M_compareWords_58 rfl ?_
            refine gk_weak [] (L' := []) rfl ?_
            exact p_M_compareWords_b59 d (1 : Int32) h2
          · refine gk_iconst (pc := 54) (-1 : Int32) d_M_compareWords_54 rfl ?_
            refine gk_goto (pc := 55) 59 d_M_compareWords_55 rfl ?_
            refine gk_weak [] (L' := []) rfl ?_
            exact p_M_compareWords_b59 d (-1 : Int32) h2
theorem w_M_compareWords (d : Nat) (a0 : Option Nat) (a1 : Option Nat) (a2 : Int32) (a3 : Int32) (a4 : Option Nat) (a5 : Int32) (a6 : Int32) (h : gk_H) : gk_P gw_I (d + 1) y_M_compareWords b_M_compareWords 10 (some .int) [] (f_M_compareWords a0 a1 a2 a3 a4 a5 a6 h) 0 [(0, va_rf a0), (1, va_rf a1), (2, .int a2), (3, .int a3), (4, va_rf a4), (5, .int a5), (6, .int a6)] [] h := by
  unfold f_M_compareWords
  refine gk_iconst (pc := 0) (0 : Int32) d_M_compareWords_0 rfl ?_
  refine gk_istore (pc := 1) (L' := [(7, .int (0 : Int32)), (0, va_rf a0), (1, va_rf a1), (2, .int a2), (3, .int a3), (4, va_rf a4), (5, .int a5), (6, .int a6)]) d_M_compareWords_1 (Nat.le_of_ble_eq_true rfl) rfl ?_
  refine gk_weak [2, 3, 4, 5, 6, 7, 0] (L' := [(1, va_rf a1), (2, .int a2), (3, .int a3), (4, va_rf a4), (5, .int a5), (6, .int a6), (7, .int (0 : Int32))]) rfl ?_
  exact p_M_compareWords_b3 d gk_F a1 a2 a3 a4 a5 a6 (0 : Int32) h
theorem p_M_compareWords (d : Nat) (a0 : Option Nat) (a1 : Option Nat) (a2 : Int32) (a3 : Int32) (a4 : Option Nat) (a5 : Int32) (a6 : Int32) (h : gk_H) : ∀ r h1, f_M_compareWords a0 a1 a2 a3 a4 a5 a6 h = some (r, h1) → gk_M (d + 1) y_M_compareWords b_M_compareWords 10 (some .int) [va_rf a0, va_rf a1, .int a2, .int a3, va_rf a4, .int a5, .int a6] h (.inl (gv_I r)) h1 :=
  fun r h1 e => gk_M_of2 (by decide +kernel) (by simp [lv_args, gk_cat_rf, gk_catI, gk_catJ, gk_catD, gv_V, gv_I, gv_J, gv_D, gv_R]) (by simp [lg_sl, gk_cat_rf, gk_catI, gk_catJ, gk_catD, gv_V, gv_I, gv_J, gv_D, gv_R]) (w_M_compareWords d a0 a1 a2 a3 a4 a5 a6 h r h1 e)
theorem d_M_compareNumbers_0 : decode b_M_compareNumbers 0 = .ok (.dload_n 0, 1) := by decide +kernel
theorem d_M_compareNumbers_1 : decode b_M_compareNumbers 1 = .ok (.dload_n 2, 1) := by decide +kernel
theorem d_M_compareNumbers_2 : decode b_M_compareNumbers 2 = .ok (.dcmp .g, 1) := by decide +kernel
theorem d_M_compareNumbers_3 : decode b_M_compareNumbers 3 = .ok (.ifCond .ge 7, 3) := by decide +kernel
theorem d_M_compareNumbers_6 : decode b_M_compareNumbers 6 = .ok (.iconst (-1), 1) := by decide +kernel
theorem d_M_compareNumbers_7 : decode b_M_compareNumbers 7 = .ok (.goto 14, 3) := by decide +kernel
theorem d_M_compareNumbers_10 : decode b_M_compareNumbers 10 = .ok (.dload_n 0, 1) := by decide +kernel
theorem d_M_compareNumbers_11 : decode b_M_compareNumbers 11 = .ok (.dload_n 2, 1) := by decide +kernel
theorem d_M_compareNumbers_12 : decode b_M_compareNumbers 12 = .ok (.dcmp .l, 1) := by decide +kernel
theorem d_M_compareNumbers_13 : decode b_M_compareNumbers 13 = .ok (.ifCond .le 7, 3) := by decide +kernel
theorem d_M_compareNumbers_16 : decode b_M_compareNumbers 16 = .ok (.iconst 1, 1) := by decide +kernel
theorem d_M_compareNumbers_17 : decode b_M_compareNumbers 17 = .ok (.goto 4, 3) := by decide +kernel
theorem d_M_compareNumbers_20 : decode b_M_compareNumbers 20 = .ok (.iconst 0, 1) := by decide +kernel
theorem d_M_compareNumbers_21 : decode b_M_compareNumbers 21 = .ok (.ireturn, 1) := by decide +kernel
theorem p_M_compareNumbers_b21 (d : Nat)  (s0 : Int32) (h : gk_H) : gk_P gw_I d y_M_compareNumbers b_M_compareNumbers 4 (some .int) [] (f_M_compareNumbers_b21  s0 h) 21 [] [.int s0] h := by
  unfold f_M_compareNumbers_b21
  exact gk_iret (pc := 21) rfl d_M_compareNumbers_21 rfl
theorem w_M_compareNumbers (d : Nat) (a0 : UInt64) (a1 : UInt64) (h : gk_H) : gk_P gw_I d y_M_compareNumbers b_M_compareNumbers 4 (some .int) [] (f_M_compareNumbers a0 a1 h) 0 [(0, .double a0), (2, .double a1)] [] h := by
  unfold f_M_compareNumbers
  refine gk_dload_n (pc := 0) 0 d_M_compareNumbers_0 rfl ?_
  refine gk_dload_n (pc := 1) 1 d_M_compareNumbers_1 rfl ?_
  refine gk_dcmp (pc := 2) d_M_compareNumbers_2 ?_
  refine gk_if_ge (pc := 3) 10 d_M_compareNumbers_3 rfl (fun _ => ?_) (fun _ => ?_)
  · refine gk_dload_n (pc := 10) 0 d_M_compareNumbers_10 rfl ?_
    refine gk_dload_n (pc := 11) 1 d_M_compareNumbers_11 rfl ?_
    refine gk_dcmp (pc := 12) d_M_compareNumbers_12 ?_
    refine gk_if_le (pc := 13) 20 d_M_compareNumbers_13 rfl (fun _ => ?_) (fun _ => ?_)
    · refine gk_iconst (pc := 20) (0 : Int32) d_M_compareNumbers_20 rfl ?_
      refine gk_weak [] (L' := []) rfl ?_
      exact p_M_compareNumbers_b21 d (0 : Int32) h
    · refine gk_iconst (pc := 16) (1 : Int32) d_M_compareNumbers_16 rfl ?_
      refine gk_goto (pc := 17) 21 d_M_compareNumbers_17 rfl ?_
      refine gk_weak [] (L' := []) rfl ?_
      exact p_M_compareNumbers_b21 d (1 : Int32) h
  · refine gk_iconst (pc := 6) (-1 : Int32) d_M_compareNumbers_6 rfl ?_
    refine gk_goto (pc := 7) 21 d_M_compareNumbers_7 rfl ?_
    refine gk_weak [] (L' := []) rfl ?_
    exact p_M_compareNumbers_b21 d (-1 : Int32) h
theorem p_M_compareNumbers (d : Nat) (a0 : UInt64) (a1 : UInt64) (h : gk_H) : ∀ r h1, f_M_compareNumbers a0 a1 h = some (r, h1) → gk_M d y_M_compareNumbers b_M_compareNumbers 4 (some .int) [.double a0, .double a1] h (.inl (gv_I r)) h1 :=
  fun r h1 e => gk_M_of2 (by decide +kernel) (by simp [lv_args, gk_cat_rf, gk_catI, gk_catJ, gk_catD, gv_V, gv_I, gv_J, gv_D, gv_R]) (by simp [lg_sl, gk_cat_rf, gk_catI, gk_catJ, gk_catD, gv_V, gv_I, gv_J, gv_D, gv_R]) (w_M_compareNumbers d a0 a1 h r h1 e)
theorem d_M_compareCells_0 : decode b_M_compareCells 0 = .ok (.aload_n 0, 1) := by decide +kernel
theorem d_M_compareCells_1 : decode b_M_compareCells 1 = .ok (.getfield 23, 3) := by decide +kernel
theorem d_M_compareCells_4 : decode b_M_compareCells 4 = .ok (.iload_n 1, 1) := by decide +kernel
theorem d_M_compareCells_5 : decode b_M_compareCells 5 = .ok (.iaload, 1) := by decide +kernel
theorem d_M_compareCells_6 : decode b_M_compareCells 6 = .ok (.ifCond .ne 12, 3) := by decide +kernel
theorem d_M_compareCells_9 : decode b_M_compareCells 9 = .ok (.aload_n 0, 1) := by decide +kernel
theorem d_M_compareCells_10 : decode b_M_compareCells 10 = .ok (.getfield 23, 3) := by decide +kernel
theorem d_M_compareCells_13 : decode b_M_compareCells 13 = .ok (.iload_n 2, 1) := by decide +kernel
theorem d_M_compareCells_14 : decode b_M_compareCells 14 = .ok (.iaload, 1) := by decide +kernel
theorem d_M_compareCells_15 : decode b_M_compareCells 15 = .ok (.goto 9, 3) := by decide +kernel
theorem d_M_compareCells_18 : decode b_M_compareCells 18 = .ok (.aload_n 0, 1) := by decide +kernel
theorem d_M_compareCells_19 : decode b_M_compareCells 19 = .ok (.getfield 23, 3) := by decide +kernel
theorem d_M_compareCells_22 : decode b_M_compareCells 22 = .ok (.iload_n 1, 1) := by decide +kernel
theorem d_M_compareCells_23 : decode b_M_compareCells 23 = .ok (.iaload, 1) := by decide +kernel
theorem d_M_compareCells_24 : decode b_M_compareCells 24 = .ok (.istore_n 3, 1) := by decide +kernel
theorem d_M_compareCells_25 : decode b_M_compareCells 25 = .ok (.aload_n 0, 1) := by decide +kernel
theorem d_M_compareCells_26 : decode b_M_compareCells 26 = .ok (.getfield 23, 3) := by decide +kernel
theorem d_M_compareCells_29 : decode b_M_compareCells 29 = .ok (.iload_n 2, 1) := by decide +kernel
theorem d_M_compareCells_30 : decode b_M_compareCells 30 = .ok (.iaload, 1) := by decide +kernel
theorem d_M_compareCells_31 : decode b_M_compareCells 31 = .ok (.ifCond .ne 12, 3) := by decide +kernel
theorem d_M_compareCells_34 : decode b_M_compareCells 34 = .ok (.aload_n 0, 1) := by decide +kernel
theorem d_M_compareCells_35 : decode b_M_compareCells 35 = .ok (.getfield 23, 3) := by decide +kernel
theorem d_M_compareCells_38 : decode b_M_compareCells 38 = .ok (.iload_n 1, 1) := by decide +kernel
theorem d_M_compareCells_39 : decode b_M_compareCells 39 = .ok (.iaload, 1) := by decide +kernel
theorem d_M_compareCells_40 : decode b_M_compareCells 40 = .ok (.goto 9, 3) := by decide +kernel
theorem d_M_compareCells_43 : decode b_M_compareCells 43 = .ok (.aload_n 0, 1) := by decide +kernel
theorem d_M_compareCells_44 : decode b_M_compareCells 44 = .ok (.getfield 23, 3) := by decide +kernel
theorem d_M_compareCells_47 : decode b_M_compareCells 47 = .ok (.iload_n 2, 1) := by decide +kernel
theorem d_M_compareCells_48 : decode b_M_compareCells 48 = .ok (.iaload, 1) := by decide +kernel
theorem d_M_compareCells_49 : decode b_M_compareCells 49 = .ok (.istore 4, 2) := by decide +kernel
theorem d_M_compareCells_51 : decode b_M_compareCells 51 = .ok (.iload_n 3, 1) := by decide +kernel
theorem d_M_compareCells_52 : decode b_M_compareCells 52 = .ok (.iload 4, 2) := by decide +kernel
theorem d_M_compareCells_54 : decode b_M_compareCells 54 = .ok (.if_icmp .eq 15, 3) := by decide +kernel
theorem d_M_compareCells_57 : decode b_M_compareCells 57 = .ok (.iload_n 3, 1) := by decide +kernel
theorem d_M_compareCells_58 : decode b_M_compareCells 58 = .ok (.iload 4, 2) := by decide +kernel
theorem d_M_compareCells_60 : decode b_M_compareCells 60 = .ok (.if_icmp .ge 7, 3) := by decide +kernel
theorem d_M_compareCells_63 : decode b_M_compareCells 63 = .ok (.iconst (-1), 1) := by decide +kernel
theorem d_M_compareCells_64 : decode b_M_compareCells 64 = .ok (.goto 4, 3) := by decide +kernel
theorem d_M_compareCells_67 : decode b_M_compareCells 67 = .ok (.iconst 1, 1) := by decide +kernel
theorem d_M_compareCells_68 : decode b_M_compareCells 68 = .ok (.ireturn, 1) := by decide +kernel
theorem d_M_compareCells_69 : decode b_M_compareCells 69 = .ok (.iload_n 3, 1) := by decide +kernel
theorem d_M_compareCells_70 : decode b_M_compareCells 70 = .ok (.iconst 2, 1) := by decide +kernel
theorem d_M_compareCells_71 : decode b_M_compareCells 71 = .ok (.if_icmp .ne 64, 3) := by decide +kernel
theorem d_M_compareCells_74 : decode b_M_compareCells 74 = .ok (.aload_n 0, 1) := by decide +kernel
theorem d_M_compareCells_75 : decode b_M_compareCells 75 = .ok (.aload_n 0, 1) := by decide +kernel
theorem d_M_compareCells_76 : decode b_M_compareCells 76 = .ok (.getfield 34, 3) := by decide +kernel
theorem d_M_compareCells_79 : decode b_M_compareCells 79 = .ok (.sipush 256, 3) := by decide +kernel
theorem d_M_compareCells_82 : decode b_M_compareCells 82 = .ok (.iload_n 1, 1) := by decide +kernel
theorem d_M_compareCells_83 : decode b_M_compareCells 83 = .ok (.imul, 1) := by decide +kernel
theorem d_M_compareCells_84 : decode b_M_compareCells 84 = .ok (.aload_n 0, 1) := by decide +kernel
theorem d_M_compareCells_85 : decode b_M_compareCells 85 = .ok (.getfield 23, 3) := by decide +kernel
theorem d_M_compareCells_88 : decode b_M_compareCells 88 = .ok (.iload_n 1, 1) := by decide +kernel
theorem d_M_compareCells_89 : decode b_M_compareCells 89 = .ok (.iaload, 1) := by decide +kernel
theorem d_M_compareCells_90 : decode b_M_compareCells 90 = .ok (.ifCond .ne 7, 3) := by decide +kernel
theorem d_M_compareCells_93 : decode b_M_compareCells 93 = .ok (.iconst 0, 1) := by decide +kernel
theorem d_M_compareCells_94 : decode b_M_compareCells 94 = .ok (.goto 9, 3) := by decide +kernel
theorem d_M_compareCells_97 : decode b_M_compareCells 97 = .ok (.aload_n 0, 1) := by decide +kernel
theorem d_M_compareCells_98 : decode b_M_compareCells 98 = .ok (.getfield 30, 3) := by decide +kernel
theorem d_M_compareCells_101 : decode b_M_compareCells 101 = .ok (.iload_n 1, 1) := by decide +kernel
theorem d_M_compareCells_102 : decode b_M_compareCells 102 = .ok (.iaload, 1) := by decide +kernel
theorem d_M_compareCells_103 : decode b_M_compareCells 103 = .ok (.aload_n 0, 1) := by decide +kernel
theorem d_M_compareCells_104 : decode b_M_compareCells 104 = .ok (.getfield 34, 3) := by decide +kernel
theorem d_M_compareCells_107 : decode b_M_compareCells 107 = .ok (.sipush 256, 3) := by decide +kernel
theorem d_M_compareCells_110 : decode b_M_compareCells 110 = .ok (.iload_n 2, 1) := by decide +kernel
theorem d_M_compareCells_111 : decode b_M_compareCells 111 = .ok (.imul, 1) := by decide +kernel
theorem d_M_compareCells_112 : decode b_M_compareCells 112 = .ok (.aload_n 0, 1) := by decide +kernel
theorem d_M_compareCells_113 : decode b_M_compareCells 113 = .ok (.getfield 23, 3) := by decide +kernel
theorem d_M_compareCells_116 : decode b_M_compareCells 116 = .ok (.iload_n 2, 1) := by decide +kernel
theorem d_M_compareCells_117 : decode b_M_compareCells 117 = .ok (.iaload, 1) := by decide +kernel
theorem d_M_compareCells_118 : decode b_M_compareCells 118 = .ok (.ifCond .ne 7, 3) := by decide +kernel
theorem d_M_compareCells_121 : decode b_M_compareCells 121 = .ok (.iconst 0, 1) := by decide +kernel
theorem d_M_compareCells_122 : decode b_M_compareCells 122 = .ok (.goto 9, 3) := by decide +kernel
theorem d_M_compareCells_125 : decode b_M_compareCells 125 = .ok (.aload_n 0, 1) := by decide +kernel
theorem d_M_compareCells_126 : decode b_M_compareCells 126 = .ok (.getfield 30, 3) := by decide +kernel
theorem d_M_compareCells_129 : decode b_M_compareCells 129 = .ok (.iload_n 2, 1) := by decide +kernel
theorem d_M_compareCells_130 : decode b_M_compareCells 130 = .ok (.iaload, 1) := by decide +kernel
theorem d_M_compareCells_131 : decode b_M_compareCells 131 = .ok (.invokevirtual 175, 3) := by decide +kernel
theorem d_M_compareCells_134 : decode b_M_compareCells 134 = .ok (.ireturn, 1) := by decide +kernel
theorem d_M_compareCells_135 : decode b_M_compareCells 135 = .ok (.aload_n 0, 1) := by decide +kernel
theorem d_M_compareCells_136 : decode b_M_compareCells 136 = .ok (.getfield 23, 3) := by decide +kernel
theorem d_M_compareCells_139 : decode b_M_compareCells 139 = .ok (.iload_n 1, 1) := by decide +kernel
theorem d_M_compareCells_140 : decode b_M_compareCells 140 = .ok (.iaload, 1) := by decide +kernel
theorem d_M_compareCells_141 : decode b_M_compareCells 141 = .ok (.ifCond .ne 7, 3) := by decide +kernel
theorem d_M_compareCells_144 : decode b_M_compareCells 144 = .ok (.dconst 0, 1) := by decide +kernel
theorem d_M_compareCells_145 : decode b_M_compareCells 145 = .ok (.goto 9, 3) := by decide +kernel
theorem d_M_compareCells_148 : decode b_M_compareCells 148 = .ok (.aload_n 0, 1) := by decide +kernel
theorem d_M_compareCells_149 : decode b_M_compareCells 149 = .ok (.getfield 26, 3) := by decide +kernel
theorem d_M_compareCells_152 : decode b_M_compareCells 152 = .ok (.iload_n 1, 1) := by decide +kernel
theorem d_M_compareCells_153 : decode b_M_compareCells 153 = .ok (.daload, 1) := by decide +kernel
theorem d_M_compareCells_154 : decode b_M_compareCells 154 = .ok (.aload_n 0, 1) := by decide +kernel
theorem d_M_compareCells_155 : decode b_M_compareCells 155 = .ok (.getfield 23, 3) := by decide +kernel
theorem d_M_compareCells_158 : decode b_M_compareCells 158 = .ok (.iload_n 2, 1) := by decide +kernel
theorem d_M_compareCells_159 : decode b_M_compareCells 159 = .ok (.iaload, 1) := by decide +kernel
theorem d_M_compareCells_160 : decode b_M_compareCells 160 = .ok (.ifCond .ne 7, 3) := by decide +kernel
theorem d_M_compareCells_163 : decode b_M_compareCells 163 = .ok (.dconst 0, 1) := by decide +kernel
theorem d_M_compareCells_164 : decode b_M_compareCells 164 = .ok (.goto 9, 3) := by decide +kernel
theorem d_M_compareCells_167 : decode b_M_compareCells 167 = .ok (.aload_n 0, 1) := by decide +kernel
theorem d_M_compareCells_168 : decode b_M_compareCells 168 = .ok (.getfield 26, 3) := by decide +kernel
theorem d_M_compareCells_171 : decode b_M_compareCells 171 = .ok (.iload_n 2, 1) := by decide +kernel
theorem d_M_compareCells_172 : decode b_M_compareCells 172 = .ok (.daload, 1) := by decide +kernel
theorem d_M_compareCells_173 : decode b_M_compareCells 173 = .ok (.invokestatic 179, 3) := by decide +kernel
theorem d_M_compareCells_176 : decode b_M_compareCells 176 = .ok (.ireturn, 1) := by decide +kernel
theorem p_M_compareCells_b173 (d : Nat)  (s0 : UInt64) (s1 : UInt64) (h : gk_H) : gk_P gw_I (d + 2) y_M_compareCells b_M_compareCells 5 (some .int) [] (f_M_compareCells_b173  s0 s1 h) 173 [] [.double s1, .double s0] h := by
  unfold f_M_compareCells_b173
  refine gk_callS (pc := 173) (d := (d + 1)) (w' := gv_I) (as := [.double s0, .double s1]) (n := 2) d_M_compareCells_173 rfl rfl (Nat.le_of_ble_eq_true rfl) tw_1820 tw_1821 tw_99 cw_M_compareNumbers hy_M_compareNumbers (Nat.le_of_ble_eq_true rfl) (p_M_compareNumbers (d + 1) s0 s1 h) fun x1 h1 => ?_
  exact gk_iret (pc := 176) rfl d_M_compareCells_176 rfl
theorem p_M_compareCells_b154 (d : Nat)  (v0 : Option Nat) (v2 : Int32) (s0 : UInt64) (h : gk_H) : gk_P gw_I (d + 2) y_M_compareCells b_M_compareCells 5 (some .int) [] (f_M_compareCells_b154  v0 v2 s0 h) 154 [(0, va_rf v0), (2, .int v2)] [.double s0] h := by
  unfold f_M_compareCells_b154
  refine gk_aload_n (pc := 154) 0 d_M_compareCells_154 rfl ?_
  refine gk_getR (pc := 155) 7 7 d_M_compareCells_155 rfl (Nat.le_of_ble_eq_true rfl) tw_1652 fun x1 => ?_
  refine gk_iload_n (pc := 158) 1 d_M_compareCells_158 rfl ?_
  refine gk_iald (pc := 159) d_M_compareCells_159 fun x2 => ?_
  refine gk_if_ne (pc := 160) 167 d_M_compareCells_160 rfl (fun _ => ?_) (fun _ => ?_)
  · refine gk_dconst0 (pc := 163) d_M_compareCells_163 ?_
    refine gk_goto (pc := 164) 173 d_M_compareCells_164 rfl ?_
    refine gk_weak [] (L' := []) rfl ?_
    exact p_M_compareCells_b173 d s0 (0x0000000000000000) h
  · refine gk_aload_n (pc := 167) 0 d_M_compareCells_167 rfl ?_
    refine gk_getR (pc := 168) 7 8 d_M_compareCells_168 rfl (Nat.le_of_ble_eq_true rfl) tw_1653 fun x3 => ?_
    refine gk_iload_n (pc := 171) 1 d_M_compareCells_171 rfl ?_
    refine gk_dald (pc := 172) d_M_compareCells_172 fun x4 => ?_
    refine gk_weak [] (L' := []) rfl ?_
    exact p_M_compareCells_b173 d s0 x4 h
theorem p_M_compareCells_b131 (d : Nat)  (s0 : Option Nat) (s1 : Option Nat) (s2 : Int32) (s3 : Int32) (s4 : Option Nat) (s5 : Int32) (s6 : Int32) (h : gk_H) : gk_P gw_I (d + 2) y_M_compareCells b_M_compareCells 5 (some .int) [] (f_M_compareCells_b131  s0 s1 s2 s3 s4 s5 s6 h) 131 [] [.int s6, .int s5, va_rf s4, .int s3, .int s2, va_rf s1, va_rf s0] h := by
  unfold f_M_compareCells_b131
  refine gk_callV (pc := 131) (d := (d + 1)) (w' := gv_I) (as := [va_rf s1, .int s2, .int s3, va_rf s4, .int s5, .int s6]) (n := 6) 7 d_M_compareCells_131 rfl rfl rfl rfl (Nat.le_of_ble_eq_true rfl) tw_1813 tw_1815 tw_23 tw_99 cw_M_compareWords hy_M_compareWords (Nat.le_of_ble_eq_true rfl) (p_M_compareWords d s0 s1 s2 s3 s4 s5 s6 h) fun x1 h1 => ?_
  exact gk_iret (pc := 134) rfl d_M_compareCells_134 rfl
theorem p_M_compareCells_b103 (d : Nat)  (v0 : Option Nat) (v2 : Int32) (s0 : Option Nat) (s1 : Option Nat) (s2 : Int32) (s3 : Int32) (h : gk_H) : gk_P gw_I (d + 2) y_M_compareCells b_M_compareCells 5 (some .int) [] (f_M_compareCells_b103  v0 v2 s0 s1 s2 s3 h) 103 [(0, va_rf v0), (2, .int v2)] [.int s3, .int s2, va_rf s1, va_rf s0] h := by
  unfold f_M_compareCells_b103
  refine gk_aload_n (pc := 103) 0 d_M_compareCells_103 rfl ?_
  refine gk_getR (pc := 104) 7 10 d_M_compareCells_104 rfl (Nat.le_of_ble_eq_true rfl) tw_1655 fun x1 => ?_
  refine gk_sipush (pc := 107) (256 : Int32) d_M_compareCells_107 rfl ?_
  refine gk_iload_n (pc := 110) 1 d_M_compareCells_110 rfl ?_
  refine gk_imul (pc := 111) d_M_compareCells_111 ?_
  refine gk_aload_n (pc := 112) 0 d_M_compareCells_112 rfl ?_
  refine gk_getR (pc := 113) 7 7 d_M_compareCells_113 rfl (Nat.le_of_ble_eq_true rfl) tw_1652 fun x2 => ?_
  refine gk_iload_n (pc := 116) 1 d_M_compareCells_116 rfl ?_
  refine gk_iald (pc := 117) d_M_compareCells_117 fun x3 => ?_
  refine gk_if_ne (pc := 118) 125 d_M_compareCells_118 rfl (fun _ => ?_) (fun _ => ?_)
  · refine gk_iconst (pc := 121) (0 : Int32) d_M_compareCells_121 rfl ?_
    refine gk_goto (pc := 122) 131 d_M_compareCells_122 rfl ?_
    refine gk_weak [] (L' := []) rfl ?_
    exact p_M_compareCells_b131 d s0 s1 s2 s3 x1 ((256 : Int32) * v2) (0 : Int32) h
  · refine gk_aload_n (pc := 125) 0 d_M_compareCells_125 rfl ?_
    refine gk_getR (pc := 126) 7 9 d_M_compareCells_126 rfl (Nat.le_of_ble_eq_true rfl) tw_1654 fun x4 => ?_
    refine gk_iload_n (pc := 129) 1 d_M_compareCells_129 rfl ?_
    refine gk_iald (pc := 130) d_M_compareCells_130 fun x5 => ?_
    refine gk_weak [] (L' := []) rfl ?_
    exact p_M_compareCells_b131 d s0 s1 s2 s3 x1 ((256 : Int32) * v2) x5 h
theorem p_M_compareCells_b68 (d : Nat)  (s0 : Int32) (h : gk_H) : gk_P gw_I (d + 2) y_M_compareCells b_M_compareCells 5 (some .int) [] (f_M_compareCells_b68  s0 h) 68 [] [.int s0] h := by
  unfold f_M_compareCells_b68
  exact gk_iret (pc := 68) rfl d_M_compareCells_68 rfl
theorem p_M_compareCells_b49 (d : Nat)  (v0 : Option Nat) (v1 : Int32) (v2 : Int32) (v3 : Int32) (s0 : Int32) (h : gk_H) : gk_P gw_I (d + 2) y_M_compareCells b_M_compareCells 5 (some .int) [] (f_M_compareCells_b49  v0 v1 v2 v3 s0 h) 49 [(0, va_rf v0), (1, .int v1), (2, .int v2), (3, .int v3)] [.int s0] h := by
  unfold f_M_compareCells_b49
  refine gk_istore (pc := 49) (L' := [(4, .int s0), (0, va_rf v0), (1, .int v1), (2, .int v2), (3, .int v3)]) d_M_compareCells_49 (Nat.le_of_ble_eq_true rfl) rfl ?_
  refine gk_iload_n (pc := 51) 4 d_M_compareCells_51 rfl ?_
  refine gk_iload (pc := 52) 0 d_M_compareCells_52 rfl ?_
  refine gk_icmp_eq (pc := 54) 69 d_M_compareCells_54 rfl (fun _ => ?_) (fun _ => ?_)
  · refine gk_iload_n (pc := 69) 4 d_M_compareCells_69 rfl ?_
    refine gk_iconst (pc := 70) (2 : Int32) d_M_compareCells_70 rfl ?_
    refine gk_icmp_ne (pc := 71) 135 d_M_compareCells_71 rfl (fun _ => ?_) (fun _ => ?_)
    · refine gk_aload_n (pc := 74) 1 d_M_compareCells_74 rfl ?_
      refine gk_aload_n (pc := 75) 1 d_M_compareCells_75 rfl ?_
      refine gk_getR (pc := 76) 7 10 d_M_compareCells_76 rfl (Nat.le_of_ble_eq_true rfl) tw_1655 fun x1 => ?_
      refine gk_sipush (pc := 79) (256 : Int32) d_M_compareCells_79 rfl ?_
      refine gk_iload_n (pc := 82) 2 d_M_compareCells_82 rfl ?_
      refine gk_imul (pc := 83) d_M_compareCells_83 ?_
      refine gk_aload_n (pc := 84) 1 d_M_compareCells_84 rfl ?_
      refine gk_getR (pc := 85) 7 7 d_M_compareCells_85 rfl (Nat.le_of_ble_eq_true rfl) tw_1652 fun x2 => ?_
      refine gk_iload_n (pc := 88) 2 d_M_compareCells_88 rfl ?_
      refine gk_iald (pc := 89) d_M_compareCells_89 fun x3 => ?_
      refine gk_if_ne (pc := 90) 97 d_M_compareCells_90 rfl (fun _ => ?_) (fun _ => ?_)
      · refine gk_iconst (pc := 93) (0 : Int32) d_M_compareCells_93 rfl ?_
        refine gk_goto (pc := 94) 103 d_M_compareCells_94 rfl ?_
        refine gk_weak [1, 3] (L' := [(0, va_rf v0), (2, .int v2)]) rfl ?_
        exact p_M_compareCells_b103 d v0 v2 v0 x1 ((256 : Int32) * v1) (0 : Int32) h
      · refine gk_aload_n (pc := 97) 1 d_M_compareCells_97 rfl ?_
        refine gk_getR (pc := 98) 7 9 d_M_compareCells_98 rfl (Nat.le_of_ble_eq_true rfl) tw_1654 fun x4 => ?_
        refine gk_iload_n (pc := 101) 2 d_M_compareCells_101 rfl ?_
        refine gk_iald (pc := 102) d_M_compareCells_102 fun x5 => ?_
        refine gk_weak [1, 3] (L' := [(0, va_rf v0), (2, .int v2)]) rfl ?_
        exact p_M_compareCells_b103 d v0 v2 v0 x1 ((256 : Int32) * v1) x5 h
    · refine gk_aload_n (pc := 135) 1 d_M_compareCells_135 rfl ?_
      refine gk_getR (pc := 136) 7 7 d_M_compareCells_136 rfl (Nat.le_of_ble_eq_true rfl) tw_1652 fun x6 => ?_
      refine gk_iload_n (pc := 139) 2 d_M_compareCells_139 rfl ?_
      refine gk_iald (pc := 140) d_M_compareCells_140 fun x7 => ?_
      refine gk_if_ne (pc := 141) 148 d_M_compareCells_141 rfl (fun _ => ?_) (fun _ => ?_)
      · refine gk_dconst0 (pc := 144) d_M_compareCells_144 ?_
        refine gk_goto (pc := 145) 154 d_M_compareCells_145 rfl ?_
        refine gk_weak [1, 3] (L' := [(0, va_rf v0), (2, .int v2)]) rfl ?_
        exact p_M_compareCells_b154 d v0 v2 (0x0000000000000000) h
      · refine gk_aload_n (pc := 148) 1 d_M_compareCells_148 rfl ?_
        refine gk_getR (pc := 149) 7 8 d_M_compareCells_149 rfl (Nat.le_of_ble_eq_true rfl) tw_1653 fun x8 => ?_
        refine gk_iload_n (pc := 152) 2 d_M_compareCells_152 rfl ?_
        refine gk_dald (pc := 153) d_M_compareCells_153 fun x9 => ?_
        refine gk_weak [1, 3] (L' := [(0, va_rf v0), (2, .int v2)]) rfl ?_
        exact p_M_compareCells_b154 d v0 v2 x9 h
  · refine gk_iload_n (pc := 57) 4 d_M_compareCells_57 rfl ?_
    refine gk_iload (pc := 58) 0 d_M_compareCells_58 rfl ?_
    refine gk_icmp_ge (pc := 60) 67 d_M_compareCells_60 rfl (fun _ => ?_) (fun _ => ?_)
    · refine gk_iconst (pc := 67) (1 : Int32) d_M_compareCells_67 rfl ?_
      refine gk_weak [] (L' := []) rfl ?_
      exact p_M_compareCells_b68 d (1 : Int32) h
    · refine gk_iconst (pc := 63) (-1 : Int32) d_M_compareCells_63 rfl ?_
      refine gk_goto (pc := 64) 68 d_M_compareCells_64 rfl ?_
      refine gk_weak [] (L' := []) rfl ?_
      exact p_M_compareCells_b68 d (-1 : Int32) h
theorem p_M_compareCells_b24 (d : Nat)  (v0 : Option Nat) (v1 : Int32) (v2 : Int32) (s0 : Int32) (h : gk_H) : gk_P gw_I (d + 2) y_M_compareCells b_M_compareCells 5 (some .int) [] (f_M_compareCells_b24  v0 v1 v2 s0 h) 24 [(0, va_rf v0), (1, .int v1), (2, .int v2)] [.int s0] h := by
  unfold f_M_compareCells_b24
  refine gk_istore_n (pc := 24) (L' := [(3, .int s0), (0, va_rf v0), (1, .int v1), (2, .int v2)]) d_M_compareCells_24 (Nat.le_of_ble_eq_true rfl) rfl ?_
  refine gk_aload_n (pc := 25) 1 d_M_compareCells_25 rfl ?_
  refine gk_getR (pc := 26) 7 7 d_M_compareCells_26 rfl (Nat.le_of_ble_eq_true rfl) tw_1652 fun x1 => ?_
  refine gk_iload_n (pc := 29) 3 d_M_compareCells_29 rfl ?_
  refine gk_iald (pc := 30) d_M_compareCells_30 fun x2 => ?_
  refine gk_if_ne (pc := 31) 43 d_M_compareCells_31 rfl (fun _ => ?_) (fun _ => ?_)
  · refine gk_aload_n (pc := 34) 1 d_M_compareCells_34 rfl ?_
    refine gk_getR (pc := 35) 7 7 d_M_compareCells_35 rfl (Nat.le_of_ble_eq_true rfl) tw_1652 fun x3 => ?_
    refine gk_iload_n (pc := 38) 2 d_M_compareCells_38 rfl ?_
    refine gk_iald (pc := 39) d_M_compareCells_39 fun x4 => ?_
    refine gk_goto (pc := 40) 49 d_M_compareCells_40 rfl ?_
    refine gk_weak [1, 2, 3, 0] (L' := [(0, va_rf v0), (1, .int v1), (2, .int v2), (3, .int s0)]) rfl ?_
    exact p_M_compareCells_b49 d v0 v1 v2 s0 x4 h
  · refine gk_aload_n (pc := 43) 1 d_M_compareCells_43 rfl ?_
    refine gk_getR (pc := 44) 7 7 d_M_compareCells_44 rfl (Nat.le_of_ble_eq_true rfl) tw_1652 fun x5 => ?_
    refine gk_iload_n (pc := 47) 3 d_M_compareCells_47 rfl ?_
    refine gk_iald (pc := 48) d_M_compareCells_48 fun x6 => ?_
    refine gk_weak [1, 2, 3, 0] (L' := [(0, va_rf v0), (1, .int v1), (2, .int v2), (3, .int s0)]) rfl ?_
    exact p_M_compareCells_b49 d v0 v1 v2 s0 x6 h
theorem w_M_compareCells (d : Nat) (a0 : Option Nat) (a1 : Int32) (a2 : Int32) (h : gk_H) : gk_P gw_I (d + 2) y_M_compareCells b_M_compareCells 5 (some .int) [] (f_M_compareCells a0 a1 a2 h) 0 [(0, va_rf a0), (1, .int a1), (2, .int a2)] [] h := by
  unfold f_M_compareCells
  refine gk_aload_n (pc := 0) 0 d_M_compareCells_0 rfl ?_
  refine gk_getR (pc := 1) 7 7 d_M_compareCells_1 rfl (Nat.le_of_ble_eq_true rfl) tw_1652 fun x1 => ?_
  refine gk_iload_n (pc := 4) 1 d_M_compareCells_4 rfl ?_
  refine gk_iald (pc := 5) d_M_compareCells_5 fun x2 => ?_
  refine gk_if_ne (pc := 6) 18 d_M_compareCells_6 rfl (fun _ => ?_) (fun _ => ?_)
  · refine gk_aload_n (pc := 9) 0 d_M_compareCells_9 rfl ?_
    refine gk_getR (pc := 10) 7 7 d_M_compareCells_10 rfl (Nat.le_of_ble_eq_true rfl) tw_1652 fun x3 => ?_
    refine gk_iload_n (pc := 13) 2 d_M_compareCells_13 rfl ?_
    refine gk_iald (pc := 14) d_M_compareCells_14 fun x4 => ?_
    refine gk_goto (pc := 15) 24 d_M_compareCells_15 rfl ?_
    exact p_M_compareCells_b24 d a0 a1 a2 x4 h
  · refine gk_aload_n (pc := 18) 0 d_M_compareCells_18 rfl ?_
    refine gk_getR (pc := 19) 7 7 d_M_compareCells_19 rfl (Nat.le_of_ble_eq_true rfl) tw_1652 fun x5 => ?_
    refine gk_iload_n (pc := 22) 1 d_M_compareCells_22 rfl ?_
    refine gk_iald (pc := 23) d_M_compareCells_23 fun x6 => ?_
    exact p_M_compareCells_b24 d a0 a1 a2 x6 h
theorem p_M_compareCells (d : Nat) (a0 : Option Nat) (a1 : Int32) (a2 : Int32) (h : gk_H) : ∀ r h1, f_M_compareCells a0 a1 a2 h = some (r, h1) → gk_M (d + 2) y_M_compareCells b_M_compareCells 5 (some .int) [va_rf a0, .int a1, .int a2] h (.inl (gv_I r)) h1 :=
  fun r h1 e => gk_M_of2 (by decide +kernel) (by simp [lv_args, gk_cat_rf, gk_catI, gk_catJ, gk_catD, gv_V, gv_I, gv_J, gv_D, gv_R]) (by simp [lg_sl, gk_cat_rf, gk_catI, gk_catJ, gk_catD, gv_V, gv_I, gv_J, gv_D, gv_R]) (w_M_compareCells d a0 a1 a2 h r h1 e)
theorem d_M_stands_0 : decode b_M_stands 0 = .ok (.iload_n 0, 1) := by decide +kernel
theorem d_M_stands_1 : decode b_M_stands 1 = .ok (.ifCond .ne 15, 3) := by decide +kernel
theorem d_M_stands_4 : decode b_M_stands 4 = .ok (.iload_n 1, 1) := by decide +kernel
theorem d_M_stands_5 : decode b_M_stands 5 = .ok (.ifCond .ne 7, 3) := by decide +kernel
theorem d_M_stands_8 : decode b_M_stands 8 = .ok (.iconst 1, 1) := by decide +kernel
theorem d_M_stands_9 : decode b_M_stands 9 = .ok (.goto 84, 3) := by decide +kernel
theorem d_M_stands_12 : decode b_M_stands 12 = .ok (.iconst 0, 1) := by decide +kernel
theorem d_M_stands_13 : decode b_M_stands 13 = .ok (.goto 80, 3) := by decide +kernel
theorem d_M_stands_16 : decode b_M_stands 16 = .ok (.iload_n 0, 1) := by decide +kernel
theorem d_M_stands_17 : decode b_M_stands 17 = .ok (.iconst 1, 1) := by decide +kernel
theorem d_M_stands_18 : decode b_M_stands 18 = .ok (.if_icmp .ne 15, 3) := by decide +kernel
theorem d_M_stands_21 : decode b_M_stands 21 = .ok (.iload_n 1, 1) := by decide +kernel
theorem d_M_stands_22 : decode b_M_stands 22 = .ok (.ifCond .eq 7, 3) := by decide +kernel
theorem d_M_stands_25 : decode b_M_stands 25 = .ok (.iconst 1, 1) := by decide +kernel
theorem d_M_stands_26 : decode b_M_stands 26 = .ok (.goto 67, 3) := by decide +kernel
theorem d_M_stands_29 : decode b_M_stands 29 = .ok (.iconst 0, 1) := by decide +kernel
theorem d_M_stands_30 : decode b_M_stands 30 = .ok (.goto 63, 3) := by decide +kernel
theorem d_M_stands_33 : decode b_M_stands 33 = .ok (.iload_n 0, 1) := by decide +kernel
theorem d_M_stands_34 : decode b_M_stands 34 = .ok (.iconst 2, 1) := by decide +kernel
theorem d_M_stands_35 : decode b_M_stands 35 = .ok (.if_icmp .ne 15, 3) := by decide +kernel
theorem d_M_stands_38 : decode b_M_stands 38 = .ok (.iload_n 1, 1) := by decide +kernel
theorem d_M_stands_39 : decode b_M_stands 39 = .ok (.ifCond .ge 7, 3) := by decide +kernel
theorem d_M_stands_42 : decode b_M_stands 42 = .ok (.iconst 1, 1) := by decide +kernel
theorem d_M_stands_43 : decode b_M_stands 43 = .ok (.goto 50, 3) := by decide +kernel
theorem d_M_stands_46 : decode b_M_stands 46 = .ok (.iconst 0, 1) := by decide +kernel
theorem d_M_stands_47 : decode b_M_stands 47 = .ok (.goto 46, 3) := by decide +kernel
theorem d_M_stands_50 : decode b_M_stands 50 = .ok (.iload_n 0, 1) := by decide +kernel
theorem d_M_stands_51 : decode b_M_stands 51 = .ok (.iconst 3, 1) := by decide +kernel
theorem d_M_stands_52 : decode b_M_stands 52 = .ok (.if_icmp .ne 15, 3) := by decide +kernel
theorem d_M_stands_55 : decode b_M_stands 55 = .ok (.iload_n 1, 1) := by decide +kernel
theorem d_M_stands_56 : decode b_M_stands 56 = .ok (.ifCond .le 7, 3) := by decide +kernel
theorem d_M_stands_59 : decode b_M_stands 59 = .ok (.iconst 1, 1) := by decide +kernel
theorem d_M_stands_60 : decode b_M_stands 60 = .ok (.goto 33, 3) := by decide +kernel
theorem d_M_stands_63 : decode b_M_stands 63 = .ok (.iconst 0, 1) := by decide +kernel
theorem d_M_stands_64 : decode b_M_stands 64 = .ok (.goto 29, 3) := by decide +kernel
theorem d_M_stands_67 : decode b_M_stands 67 = .ok (.iload_n 0, 1) := by decide +kernel
theorem d_M_stands_68 : decode b_M_stands 68 = .ok (.iconst 4, 1) := by decide +kernel
theorem d_M_stands_69 : decode b_M_stands 69 = .ok (.if_icmp .ne 15, 3) := by decide +kernel
theorem d_M_stands_72 : decode b_M_stands 72 = .ok (.iload_n 1, 1) := by decide +kernel
theorem d_M_stands_73 : decode b_M_stands 73 = .ok (.ifCond .gt 7, 3) := by decide +kernel
theorem d_M_stands_76 : decode b_M_stands 76 = .ok (.iconst 1, 1) := by decide +kernel
theorem d_M_stands_77 : decode b_M_stands 77 = .ok (.goto 16, 3) := by decide +kernel
theorem d_M_stands_80 : decode b_M_stands 80 = .ok (.iconst 0, 1) := by decide +kernel
theorem d_M_stands_81 : decode b_M_stands 81 = .ok (.goto 12, 3) := by decide +kernel
theorem d_M_stands_84 : decode b_M_stands 84 = .ok (.iload_n 1, 1) := by decide +kernel
theorem d_M_stands_85 : decode b_M_stands 85 = .ok (.ifCond .lt 7, 3) := by decide +kernel
theorem d_M_stands_88 : decode b_M_stands 88 = .ok (.iconst 1, 1) := by decide +kernel
theorem d_M_stands_89 : decode b_M_stands 89 = .ok (.goto 4, 3) := by decide +kernel
theorem d_M_stands_92 : decode b_M_stands 92 = .ok (.iconst 0, 1) := by decide +kernel
theorem d_M_stands_93 : decode b_M_stands 93 = .ok (.ireturn, 1) := by decide +kernel
theorem p_M_stands_b93 (d : Nat)  (s0 : Int32) (h : gk_H) : gk_P gw_I d y_M_stands b_M_stands 2 (some .boolean) [] (f_M_stands_b93  s0 h) 93 [] [.int s0] h := by
  unfold f_M_stands_b93
  exact gk_zret (pc := 93) rfl d_M_stands_93 rfl
theorem w_M_stands (d : Nat) (a0 : Int32) (a1 : Int32) (h : gk_H) : gk_P gw_I d y_M_stands b_M_stands 2 (some .boolean) [] (f_M_stands a0 a1 h) 0 [(0, .int a0), (1, .int a1)] [] h := by
  unfold f_M_stands
  refine gk_iload_n (pc := 0) 0 d_M_stands_0 rfl ?_
  refine gk_if_ne (pc := 1) 16 d_M_stands_1 rfl (fun _ => ?_) (fun _ => ?_)
  · refine gk_iload_n (pc := 4) 1 d_M_stands_4 rfl ?_
    refine gk_if_ne (pc := 5) 12 d_M_stands_5 rfl (fun _ => ?_) (fun _ => ?_)
    · refine gk_iconst (pc := 8) (1 : Int32) d_M_stands_8 rfl ?_
      refine gk_goto (pc := 9) 93 d_M_stands_9 rfl ?_
      refine gk_weak [] (L' := []) rfl ?_
      exact p_M_stands_b93 d (1 : Int32) h
    · refine gk_iconst (pc := 12) (0 : Int32) d_M_stands_12 rfl ?_
      refine gk_goto (pc := 13) 93 d_M_stands_13 rfl ?_
      refine gk_weak [] (L' := []) rfl ?_
      exact p_M_stands_b93 d (0 : Int32) h
  · refine gk_iload_n (pc := 16) 0 d_M_stands_16 rfl ?_
    refine gk_iconst (pc := 17) (1 : Int32) d_M_stands_17 rfl ?_
    refine gk_icmp_ne (pc := 18) 33 d_M_stands_18 rfl (fun _ => ?_) (fun _ => ?_)
    · refine gk_iload_n (pc := 21) 1 d_M_stands_21 rfl ?_
      refine gk_if_eq (pc := 22) 29 d_M_stands_22 rfl (fun _ => ?_) (fun _ => ?_)
      · refine gk_iconst (pc := 29) (0 : Int32) d_M_stands_29 rfl ?_
        refine gk_goto (pc := 30) 93 d_M_stands_30 rfl ?_
        refine gk_weak [] (L' := []) rfl ?_
        exact p_M_stands_b93 d (0 : Int32) h
      · refine gk_iconst (pc := 25) (1 : Int32) d_M_stands_25 rfl ?_
        refine gk_goto (pc := 26) 93 d_M_stands_26 rfl ?_
        refine gk_weak [] (L' := []) rfl ?_
        exact p_M_stands_b93 d (1 : Int32) h
    · refine gk_iload_n (pc := 33) 0 d_M_stands_33 rfl ?_
      refine gk_iconst (pc := 34) (2 : Int32) d_M_stands_34 rfl ?_
      refine gk_icmp_ne (pc := 35) 50 d_M_stands_35 rfl (fun _ => ?_) (fun _ => ?_)
      · refine gk_iload_n (pc := 38) 1 d_M_stands_38 rfl ?_
        refine gk_if_ge (pc := 39) 46 d_M_stands_39 rfl (fun _ => ?_) (fun _ => ?_)
        · refine gk_iconst (pc := 46) (0 : Int32) d_M_stands_46 rfl ?_
          refine gk_goto (pc := 47) 93 d_M_stands_47 rfl ?_
          refine gk_weak [] (L' := []) rfl ?_
          exact p_M_stands_b93 d (0 : Int32) h
        · refine gk_iconst (pc := 42) (1 : Int32) d_M_stands_42 rfl ?_
          refine gk_goto (pc := 43) 93 d_M_stands_43 rfl ?_
          refine gk_weak [] (L' := []) rfl ?_
          exact p_M_stands_b93 d (1 : Int32) h
      · refine gk_iload_n (pc := 50) 0 d_M_stands_50 rfl ?_
        refine gk_iconst (pc := 51) (3 : Int32) d_M_stands_51 rfl ?_
        refine gk_icmp_ne (pc := 52) 67 d_M_stands_52 rfl (fun _ => ?_) (fun _ => ?_)
        · refine gk_iload_n (pc := 55) 1 d_M_stands_55 rfl ?_
          refine gk_if_le (pc := 56) 63 d_M_stands_56 rfl (fun _ => ?_) (fun _ => ?_)
          · refine gk_iconst (pc := 63) (0 : Int32) d_M_stands_63 rfl ?_
            refine gk_goto (pc := 64) 93 d_M_stands_64 rfl ?_
            refine gk_weak [] (L' := []) rfl ?_
            exact p_M_stands_b93 d (0 : Int32) h
          · refine gk_iconst (pc := 59) (1 : Int32) d_M_stands_59 rfl ?_
            refine gk_goto (pc := 60) 93 d_M_stands_60 rfl ?_
            refine gk_weak [] (L' := []) rfl ?_
            exact p_M_stands_b93 d (1 : Int32) h
        · refine gk_iload_n (pc := 67) 0 d_M_stands_67 rfl ?_
          refine gk_iconst (pc := 68) (4 : Int32) d_M_stands_68 rfl ?_
          refine gk_icmp_ne (pc := 69) 84 d_M_stands_69 rfl (fun _ => ?_) (fun _ => ?_)
          · refine gk_iload_n (pc := 72) 1 d_M_stands_72 rfl ?_
            refine gk_if_gt (pc := 73) 80 d_M_stands_73 rfl (fun _ => ?_) (fun _ => ?_)
            · refine gk_iconst (pc := 80) (0 : Int32) d_M_stands_80 rfl ?_
              refine gk_goto (pc := 81) 93 d_M_stands_81 rfl ?_
              refine gk_weak [] (L' := []) rfl ?_
              exact p_M_stands_b93 d (0 : Int32) h
            · refine gk_iconst (pc := 76) (1 : Int32) d_M_stands_76 rfl ?_
              refine gk_goto (pc := 77) 93 d_M_stands_77 rfl ?_
              refine gk_weak [] (L' := []) rfl ?_
              exact p_M_stands_b93 d (1 : Int32) h
          · refine gk_iload_n (pc := 84) 1 d_M_stands_84 rfl ?_
            refine gk_if_lt (pc := 85) 92 d_M_stands_85 rfl (fun _ => ?_) (fun _ => ?_)
            · refine gk_iconst (pc := 92) (0 : Int32) d_M_stands_92 rfl ?_
              refine gk_weak [] (L' := []) rfl ?_
              exact p_M_stands_b93 d (0 : Int32) h
            · refine gk_iconst (pc := 88) (1 : Int32) d_M_stands_88 rfl ?_
              refine gk_goto (pc := 89) 93 d_M_stands_89 rfl ?_
              refine gk_weak [] (L' := []) rfl ?_
              exact p_M_stands_b93 d (1 : Int32) h
theorem p_M_stands (d : Nat) (a0 : Int32) (a1 : Int32) (h : gk_H) : ∀ r h1, f_M_stands a0 a1 h = some (r, h1) → gk_M d y_M_stands b_M_stands 2 (some .boolean) [.int a0, .int a1] h (.inl (gv_I r)) h1 :=
  fun r h1 e => gk_M_of2 (by decide +kernel) (by simp [lv_args, gk_cat_rf, gk_catI, gk_catJ, gk_catD, gv_V, gv_I, gv_J, gv_D, gv_R]) (by simp [lg_sl, gk_cat_rf, gk_catI, gk_catJ, gk_catD, gv_V, gv_I, gv_J, gv_D, gv_R]) (w_M_stands d a0 a1 h r h1 e)
theorem d_M_answerTruth_0 : decode b_M_answerTruth 0 = .ok (.aload_n 0, 1) := by decide +kernel
theorem d_M_answerTruth_1 : decode b_M_answerTruth 1 = .ok (.bipush 16, 2) := by decide +kernel
theorem d_M_answerTruth_3 : decode b_M_answerTruth 3 = .ok (.iconst 3, 1) := by decide +kernel
theorem d_M_answerTruth_4 : decode b_M_answerTruth 4 = .ok (.iload_n 1, 1) := by decide +kernel
theorem d_M_answerTruth_5 : decode b_M_answerTruth 5 = .ok (.ifCond .eq 7, 3) := by decide +kernel
theorem d_M_answerTruth_8 : decode b_M_answerTruth 8 = .ok (.dconst 1, 1) := by decide +kernel
theorem d_M_answerTruth_9 : decode b_M_answerTruth 9 = .ok (.goto 4, 3) := by decide +kernel
theorem d_M_answerTruth_12 : decode b_M_answerTruth 12 = .ok (.dconst 0, 1) := by decide +kernel
theorem d_M_answerTruth_13 : decode b_M_answerTruth 13 = .ok (.invokevirtual 76, 3) := by decide +kernel
theorem d_M_answerTruth_16 : decode b_M_answerTruth 16 = .ok (.return_, 1) := by decide +kernel
theorem p_M_answerTruth_b13 (d : Nat)  (s0 : Option Nat) (s1 : Int32) (s2 : Int32) (s3 : UInt64) (h : gk_H) : gk_P gw_V (d + 1) y_M_answerTruth b_M_answerTruth 2 none [] (f_M_answerTruth_b13  s0 s1 s2 s3 h) 13 [] [.double s3, .int s2, .int s1, va_rf s0] h := by
  unfold f_M_answerTruth_b13
  refine gk_callV (pc := 13) (d := d) (w' := gv_V) (as := [.int s1, .int s2, .double s3]) (n := 3) 7 d_M_answerTruth_13 rfl rfl rfl rfl (Nat.le_of_ble_eq_true rfl) tw_1733 tw_1735 tw_15 tw_99 cw_M_setSingle hy_M_setSingle (Nat.le_of_ble_eq_true rfl) (p_M_setSingle d s0 s1 s2 s3 h) fun _ h1 => ?_
  exact gk_vret (pc := 16) rfl d_M_answerTruth_16 rfl
theorem w_M_answerTruth (d : Nat) (a0 : Option Nat) (a1 : Int32) (h : gk_H) : gk_P gw_V (d + 1) y_M_answerTruth b_M_answerTruth 2 none [] (f_M_answerTruth a0 a1 h) 0 [(0, va_rf a0), (1, .int a1)] [] h := by
  unfold f_M_answerTruth
  refine gk_aload_n (pc := 0) 0 d_M_answerTruth_0 rfl ?_
  refine gk_bipush (pc := 1) (16 : Int32) d_M_answerTruth_1 rfl ?_
  refine gk_iconst (pc := 3) (3 : Int32) d_M_answerTruth_3 rfl ?_
  refine gk_iload_n (pc := 4) 1 d_M_answerTruth_4 rfl ?_
  refine gk_if_eq (pc := 5) 12 d_M_answerTruth_5 rfl (fun _ => ?_) (fun _ => ?_)
  · refine gk_dconst0 (pc := 12) d_M_answerTruth_12 ?_
    refine gk_weak [] (L' := []) rfl ?_
    exact p_M_answerTruth_b13 d a0 (16 : Int32) (3 : Int32) (0x0000000000000000) h
  · refine gk_dconst1 (pc := 8) d_M_answerTruth_8 ?_
    refine gk_goto (pc := 9) 13 d_M_answerTruth_9 rfl ?_
    refine gk_weak [] (L' := []) rfl ?_
    exact p_M_answerTruth_b13 d a0 (16 : Int32) (3 : Int32) (0x3ff0000000000000) h
theorem p_M_answerTruth (d : Nat) (a0 : Option Nat) (a1 : Int32) (h : gk_H) : ∀ r h1, f_M_answerTruth a0 a1 h = some (r, h1) → gk_M (d + 1) y_M_answerTruth b_M_answerTruth 2 none [va_rf a0, .int a1] h (.inl (gv_V r)) h1 :=
  fun r h1 e => gk_M_of2 (by decide +kernel) (by simp [lv_args, gk_cat_rf, gk_catI, gk_catJ, gk_catD, gv_V, gv_I, gv_J, gv_D, gv_R]) (by simp [lg_sl, gk_cat_rf, gk_catI, gk_catJ, gk_catD, gv_V, gv_I, gv_J, gv_D, gv_R]) (w_M_answerTruth d a0 a1 h r h1 e)
theorem d_M_putLetter_0 : decode b_M_putLetter 0 = .ok (.aload_n 0, 1) := by decide +kernel
theorem d_M_putLetter_1 : decode b_M_putLetter 1 = .ok (.getfield 43, 3) := by decide +kernel
theorem d_M_putLetter_4 : decode b_M_putLetter 4 = .ok (.sipush 256, 3) := by decide +kernel
theorem d_M_putLetter_7 : decode b_M_putLetter 7 = .ok (.iload_n 1, 1) := by decide +kernel
theorem d_M_putLetter_8 : decode b_M_putLetter 8 = .ok (.imul, 1) := by decide +kernel
theorem d_M_putLetter_9 : decode b_M_putLetter 9 = .ok (.aload_n 0, 1) := by decide +kernel
theorem d_M_putLetter_10 : decode b_M_putLetter 10 = .ok (.getfield 40, 3) := by decide +kernel
theorem d_M_putLetter_13 : decode b_M_putLetter 13 = .ok (.iload_n 1, 1) := by decide +kernel
theorem d_M_putLetter_14 : decode b_M_putLetter 14 = .ok (.iaload, 1) := by decide +kernel
theorem d_M_putLetter_15 : decode b_M_putLetter 15 = .ok (.iadd, 1) := by decide +kernel
theorem d_M_putLetter_16 : decode b_M_putLetter 16 = .ok (.iload_n 2, 1) := by decide +kernel
theorem d_M_putLetter_17 : decode b_M_putLetter 17 = .ok (.i2b, 1) := by decide +kernel
theorem d_M_putLetter_18 : decode b_M_putLetter 18 = .ok (.bastore, 1) := by decide +kernel
theorem d_M_putLetter_19 : decode b_M_putLetter 19 = .ok (.aload_n 0, 1) := by decide +kernel
theorem d_M_putLetter_20 : decode b_M_putLetter 20 = .ok (.getfield 40, 3) := by decide +kernel
theorem d_M_putLetter_23 : decode b_M_putLetter 23 = .ok (.iload_n 1, 1) := by decide +kernel
theorem d_M_putLetter_24 : decode b_M_putLetter 24 = .ok (.dup2, 1) := by decide +kernel
theorem d_M_putLetter_25 : decode b_M_putLetter 25 = .ok (.iaload, 1) := by decide +kernel
theorem d_M_putLetter_26 : decode b_M_putLetter 26 = .ok (.iconst 1, 1) := by decide +kernel
theorem d_M_putLetter_27 : decode b_M_putLetter 27 = .ok (.iadd, 1) := by decide +kernel
theorem d_M_putLetter_28 : decode b_M_putLetter 28 = .ok (.iastore, 1) := by decide +kernel
theorem d_M_putLetter_29 : decode b_M_putLetter 29 = .ok (.return_, 1) := by decide +kernel
theorem w_M_putLetter (d : Nat) (a0 : Option Nat) (a1 : Int32) (a2 : Int32) (h : gk_H) : gk_P gw_V d y_M_putLetter b_M_putLetter 3 none [] (f_M_putLetter a0 a1 a2 h) 0 [(0, va_rf a0), (1, .int a1), (2, .int a2)] [] h := by
  unfold f_M_putLetter
  refine gk_aload_n (pc := 0) 0 d_M_putLetter_0 rfl ?_
  refine gk_getR (pc := 1) 7 15 d_M_putLetter_1 rfl (Nat.le_of_ble_eq_true rfl) tw_1660 fun x1 => ?_
  refine gk_sipush (pc := 4) (256 : Int32) d_M_putLetter_4 rfl ?_
  refine gk_iload_n (pc := 7) 1 d_M_putLetter_7 rfl ?_
  refine gk_imul (pc := 8) d_M_putLetter_8 ?_
  refine gk_aload_n (pc := 9) 0 d_M_putLetter_9 rfl ?_
  refine gk_getR (pc := 10) 7 14 d_M_putLetter_10 rfl (Nat.le_of_ble_eq_true rfl) tw_1659 fun x2 => ?_
  refine gk_iload_n (pc := 13) 1 d_M_putLetter_13 rfl ?_
  refine gk_iald (pc := 14) d_M_putLetter_14 fun x3 => ?_
  refine gk_iadd (pc := 15) d_M_putLetter_15 ?_
  refine gk_iload_n (pc := 16) 2 d_M_putLetter_16 rfl ?_
  refine gk_i2b (pc := 17) d_M_putLetter_17 ?_
  refine gk_bast (pc := 18) d_M_putLetter_18 fun h1 => ?_
  refine gk_aload_n (pc := 19) 0 d_M_putLetter_19 rfl ?_
  refine gk_getR (pc := 20) 7 14 d_M_putLetter_20 rfl (Nat.le_of_ble_eq_true rfl) tw_1659 fun x4 => ?_
  refine gk_iload_n (pc := 23) 1 d_M_putLetter_23 rfl ?_
  refine gk_dup2 (pc := 24) d_M_putLetter_24 rfl (gk_cat_rf _) ?_
  refine gk_iald (pc := 25) d_M_putLetter_25 fun x5 => ?_
  refine gk_iconst (pc := 26) (1 : Int32) d_M_putLetter_26 rfl ?_
  refine gk_iadd (pc := 27) d_M_putLetter_27 ?_
  refine gk_iast (pc := 28) d_M_putLetter_28 fun h2 => ?_
  exact gk_vret (pc := 29) rfl d_M_putLetter_29 rfl
theorem p_M_putLetter (d : Nat) (a0 : Option Nat) (a1 : Int32) (a2 : Int32) (h : gk_H) : ∀ r h1, f_M_putLetter a0 a1 a2 h = some (r, h1) → gk_M d y_M_putLetter b_M_putLetter 3 none [va_rf a0, .int a1, .int a2] h (.inl (gv_V r)) h1 :=
  fun r h1 e => gk_M_of2 (by decide +kernel) (by simp [lv_args, gk_cat_rf, gk_catI, gk_catJ, gk_catD, gv_V, gv_I, gv_J, gv_D, gv_R]) (by simp [lg_sl, gk_cat_rf, gk_catI, gk_catJ, gk_catD, gv_V, gv_I, gv_J, gv_D, gv_R]) (w_M_putLetter d a0 a1 a2 h r h1 e)
theorem d_M_digits_0 : decode b_M_digits 0 = .ok (.lconst 1, 1) := by decide +kernel
theorem d_M_digits_1 : decode b_M_digits 1 = .ok (.lstore 5, 2) := by decide +kernel
theorem d_M_digits_3 : decode b_M_digits 3 = .ok (.iconst 1, 1) := by decide +kernel
theorem d_M_digits_4 : decode b_M_digits 4 = .ok (.istore 7, 2) := by decide +kernel
theorem d_M_digits_6 : decode b_M_digits 6 = .ok (.iload 7, 2) := by decide +kernel
theorem d_M_digits_8 : decode b_M_digits 8 = .ok (.iload 4, 2) := by decide +kernel
theorem d_M_digits_10 : decode b_M_digits 10 = .ok (.if_icmp .ge 17, 3) := by decide +kernel
theorem d_M_digits_13 : decode b_M_digits 13 = .ok (.lload 5, 2) := by decide +kernel
theorem d_M_digits_15 : decode b_M_digits 15 = .ok (.ldc2_w 93, 3) := by decide +kernel
theorem d_M_digits_18 : decode b_M_digits 18 = .ok (.lmul, 1) := by decide +kernel
theorem d_M_digits_19 : decode b_M_digits 19 = .ok (.lstore 5, 2) := by decide +kernel
theorem d_M_digits_21 : decode b_M_digits 21 = .ok (.iinc 7 1, 3) := by decide +kernel
theorem d_M_digits_24 : decode b_M_digits 24 = .ok (.goto (-18), 3) := by decide +kernel
theorem d_M_digits_27 : decode b_M_digits 27 = .ok (.lload 5, 2) := by decide +kernel
theorem d_M_digits_29 : decode b_M_digits 29 = .ok (.lload_n 2, 1) := by decide +kernel
theorem d_M_digits_30 : decode b_M_digits 30 = .ok (.ldc2_w 93, 3) := by decide +kernel
theorem d_M_digits_33 : decode b_M_digits 33 = .ok (.ldiv, 1) := by decide +kernel
theorem d_M_digits_34 : decode b_M_digits 34 = .ok (.lcmp, 1) := by decide +kernel
theorem d_M_digits_35 : decode b_M_digits 35 = .ok (.ifCond .gt 14, 3) := by decide +kernel
theorem d_M_digits_38 : decode b_M_digits 38 = .ok (.lload 5, 2) := by decide +kernel
theorem d_M_digits_40 : decode b_M_digits 40 = .ok (.ldc2_w 93, 3) := by decide +kernel
theorem d_M_digits_43 : decode b_M_digits 43 = .ok (.lmul, 1) := by decide +kernel
theorem d_M_digits_44 : decode b_M_digits 44 = .ok (.lstore 5, 2) := by decide +kernel
theorem d_M_digits_46 : decode b_M_digits 46 = .ok (.goto (-19), 3) := by decide +kernel
theorem d_M_digits_49 : decode b_M_digits 49 = .ok (.lload 5, 2) := by decide +kernel
theorem d_M_digits_51 : decode b_M_digits 51 = .ok (.lconst 0, 1) := by decide +kernel
theorem d_M_digits_52 : decode b_M_digits 52 = .ok (.lcmp, 1) := by decide +kernel
theorem d_M_digits_53 : decode b_M_digits 53 = .ok (.ifCond .le 32, 3) := by decide +kernel
theorem d_M_digits_56 : decode b_M_digits 56 = .ok (.aload_n 0, 1) := by decide +kernel
theorem d_M_digits_57 : decode b_M_digits 57 = .ok (.iload_n 1, 1) := by decide +kernel
theorem d_M_digits_58 : decode b_M_digits 58 = .ok (.ldc2_w 95, 3) := by decide +kernel
theorem d_M_digits_61 : decode b_M_digits 61 = .ok (.lload_n 2, 1) := by decide +kernel
theorem d_M_digits_62 : decode b_M_digits 62 = .ok (.lload 5, 2) := by decide +kernel
theorem d_M_digits_64 : decode b_M_digits 64 = .ok (.ldiv, 1) := by decide +kernel
theorem d_M_digits_65 : decode b_M_digits 65 = .ok (.ldc2_w 93, 3) := by decide +kernel
theorem d_M_digits_68 : decode b_M_digits 68 = .ok (.lrem, 1) := by decide +kernel
theorem d_M_digits_69 : decode b_M_digits 69 = .ok (.ladd, 1) := by decide +kernel
theorem d_M_digits_70 : decode b_M_digits 70 = .ok (.l2i, 1) := by decide +kernel
theorem d_M_digits_71 : decode b_M_digits 71 = .ok (.invokevirtual 109, 3) := by decide +kernel
theorem d_M_digits_74 : decode b_M_digits 74 = .ok (.lload 5, 2) := by decide +kernel
theorem d_M_digits_76 : decode b_M_digits 76 = .ok (.ldc2_w 93, 3) := by decide +kernel
theorem d_M_digits_79 : decode b_M_digits 79 = .ok (.ldiv, 1) := by decide +kernel
theorem d_M_digits_80 : decode b_M_digits 80 = .ok (.lstore 5, 2) := by decide +kernel
theorem d_M_digits_82 : decode b_M_digits 82 = .ok (.goto (-33), 3) := by decide +kernel
theorem d_M_digits_85 : decode b_M_digits 85 = .ok (.return_, 1) := by decide +kernel
theorem p_M_digits_b49 (d : Nat)  : ∀ (fu : Nat) (v0 : Option Nat) (v1 : Int32) (v2 : Int64) (v5 : Int64) (h : gk_H), gk_P gw_V (d + 1) y_M_digits b_M_digits 8 none [] (f_M_digits_b49  fu v0 v1 v2 v5 h) 49 [(0, va_rf v0), (1, .int v1), (2, .long v2), (5, .long v5)] [] h := by
  intro fu
  induction fu with
  | zero => intros; exact gk_none
  | succ fu q49 =>
    intro v0 v1 v2 v5 h
    rw [f_M_digits_b49]
    refine gk_lload (pc := 49) 3 d_M_digits_49 rfl ?_
    refine gk_lconst (pc := 51) (0 : Int64) d_M_digits_51 rfl ?_
    refine gk_lcmp (pc := 52) d_M_digits_52 ?_
    refine gk_if_le (pc := 53) 85 d_M_digits_53 rfl (fun _ => ?_) (fun _ => ?_)
    · exact gk_vret (pc := 85) rfl d_M_digits_85 rfl
    · refine gk_aload_n (pc := 56) 0 d_M_digits_56 rfl ?_
      refine gk_iload_n (pc := 57) 1 d_M_digits_57 rfl ?_
      refine gk_ldc2 (pc := 58) tw_1848 d_M_digits_58 ?_
      refine gk_lload_n (pc := 61) 2 d_M_digits_61 rfl ?_
      refine gk_lload (pc := 62) 3 d_M_digits_62 rfl ?_
      refine gk_ite (fun _ => gk_none) fun hz64 => ?_
      refine gk_ldiv (pc := 64) hz64 d_M_digits_64 ?_
      refine gk_ldc2 (pc := 65) tw_1847 d_M_digits_65 ?_
      refine gk_lrem (pc := 68) (by decide) d_M_digits_68 ?_
      refine gk_ladd (pc := 69) d_M_digits_69 ?_
      refine gk_l2i (pc := 70) d_M_digits_70 ?_
      refine gk_callV (pc := 71) (d := d) (w' := gv_V) (as := [.int v1, .int (Int64.toInt32 ((48 : Int64) + ((v2 / v5) - (v2 / v5) / (10 : Int64) * (10 : Int64))))]) (n := 2) 7 d_M_digits_71 rfl rfl rfl rfl (Nat.le_of_ble_eq_true rfl) tw_1839 tw_1841 tw_27 tw_99 cw_M_putLetter hy_M_putLetter (Nat.le_of_ble_eq_true rfl) (p_M_putLetter d v0 v1 (Int64.toInt32 ((48 : Int64) + ((v2 / v5) - (v2 / v5) / (10 : Int64) * (10 : Int64)))) h) fun _ h1 => ?_
      refine gk_lload (pc := 74) 3 d_M_digits_74 rfl ?_
      refine gk_ldc2 (pc := 76) tw_1847 d_M_digits_76 ?_
      refine gk_ldiv (pc := 79) (by decide) d_M_digits_79 ?_
      refine gk_topJ (pc := 80) fun x1 => ?_
      refine gk_lstore (pc := 80) (L' := [(5, .long x1), (0, va_rf v0), (1, .int v1), (2, .long v2)]) d_M_digits_80 (Nat.le_of_ble_eq_true rfl) rfl ?_
      refine gk_goto (pc := 82) 49 d_M_digits_82 rfl ?_
      refine gk_weak [1, 2, 3, 0] (L' := [(0, va_rf v0), (1, .int v1), (2, .long v2), (5, .long x1)]) rfl ?_
      exact q49 v0 v1 v2 x1 h1
theorem p_M_digits_b27 (d : Nat)  : ∀ (fu : Nat) (v0 : Option Nat) (v1 : Int32) (v2 : Int64) (v5 : Int64) (h : gk_H), gk_P gw_V (d + 1) y_M_digits b_M_digits 8 none [] (f_M_digits_b27  fu v0 v1 v2 v5 h) 27 [(0, va_rf v0), (1, .int v1), (2, .long v2), (5, .long v5)] [] h := by
  intro fu
  induction fu with
  | zero => intros; exact gk_none
  | succ fu q27 =>
    intro v0 v1 v2 v5 h
    rw [f_M_digits_b27]
    refine gk_lload (pc := 27) 3 d_M_digits_27 rfl ?_
    refine gk_lload_n (pc := 29) 2 d_M_digits_29 rfl ?_
    refine gk_ldc2 (pc := 30) tw_1847 d_M_digits_30 ?_
    refine gk_ldiv (pc := 33) (by decide) d_M_digits_33 ?_
    refine gk_lcmp (pc := 34) d_M_digits_34 ?_
    refine gk_if_gt (pc := 35) 49 d_M_digits_35 rfl (fun _ => ?_) (fun _ => ?_)
    · exact p_M_digits_b49 d gk_F v0 v1 v2 v5 h
    · refine gk_lload (pc := 38) 3 d_M_digits_38 rfl ?_
      refine gk_ldc2 (pc := 40) tw_1847 d_M_digits_40 ?_
      refine gk_lmul (pc := 43) d_M_digits_43 ?_
      refine gk_topJ (pc := 44) fun x1 => ?_
      refine gk_lstore (pc := 44) (L' := [(5, .long x1), (0, va_rf v0), (1, .int v1), (2, .long v2)]) d_M_digits_44 (Nat.le_of_ble_eq_true rfl) rfl ?_
      refine gk_goto (pc := 46) 27 d_M_digits_46 rfl ?_
      refine gk_weak [1, 2, 3, 0] (L' := [(0, va_rf v0), (1, .int v1), (2, .long v2), (5, .long x1)]) rfl ?_
      exact q27 v0 v1 v2 x1 h
theorem p_M_digits_b6 (d : Nat)  : ∀ (fu : Nat) (v0 : Option Nat) (v1 : Int32) (v2 : Int64) (v4 : Int32) (v5 : Int64) (v7 : Int32) (h : gk_H), gk_P gw_V (d + 1) y_M_digits b_M_digits 8 none [] (f_M_digits_b6  fu v0 v1 v2 v4 v5 v7 h) 6 [(0, va_rf v0), (1, .int v1), (2, .long v2), (4, .int v4), (5, .long v5), (7, .int v7)] [] h := by
  intro fu
  induction fu with
  | zero => intros; exact gk_none
  | succ fu q6 =>
    intro v0 v1 v2 v4 v5 v7 h
    rw [f_M_digits_b6]
    refine gk_iload (pc := 6) 5 d_M_digits_6 rfl ?_
    refine gk_iload (pc := 8) 3 d_M_digits_8 rfl ?_
    refine gk_icmp_ge (pc := 10) 27 d_M_digits_10 rfl (fun _ => ?_) (fun _ => ?_)
    · refine gk_weak [0, 1, 2, 4] (L' := [(0, va_rf v0), (1, .int v1), (2, .long v2), (5, .long v5)]) rfl ?_
      exact p_M_digits_b27 d gk_F v0 v1 v2 v5 h
    · refine gk_lload (pc := 13) 4 d_M_digits_13 rfl ?_
      refine gk_ldc2 (pc := 15) tw_1847 d_M_digits_15 ?_
      refine gk_lmul (pc := 18) d_M_digits_18 ?_
      refine gk_topJ (pc := 19) fun x1 => ?_
      refine gk_lstore (pc := 19) (L' := [(5, .long x1), (0, va_rf v0), (1, .int v1), (2, .long v2), (4, .int v4), (7, .int v7)]) d_M_digits_19 (Nat.le_of_ble_eq_true rfl) rfl ?_
      refine gk_iincN (pc := 21) 5 (1 : Int32) (L' := fun x2 => [(7, .int x2), (5, .long x1), (0, va_rf v0), (1, .int v1), (2, .long v2), (4, .int v4)]) d_M_digits_21 rfl rfl (Nat.le_of_ble_eq_true rfl) (fun _ => rfl) fun x2 => ?_
      refine gk_goto (pc := 24) 6 d_M_digits_24 rfl ?_
      refine gk_weak [2, 3, 4, 5, 1, 0] (L' := [(0, va_rf v0), (1, .int v1), (2, .long v2), (4, .int v4), (5, .long x1), (7, .int x2)]) rfl ?_
      exact q6 v0 v1 v2 v4 x1 x2 h
theorem w_M_digits (d : Nat) (a0 : Option Nat) (a1 : Int32) (a2 : Int64) (a3 : Int32) (h : gk_H) : gk_P gw_V (d + 1) y_M_digits b_M_digits 8 none [] (f_M_digits a0 a1 a2 a3 h) 0 [(0, va_rf a0), (1, .int a1), (2, .long a2), (4, .int a3)] [] h := by
  unfold f_M_digits
  refine gk_lconst (pc := 0) (1 : Int64) d_M_digits_0 rfl ?_
  refine gk_lstore (pc := 1) (L' := [(5, .long (1 : Int64)), (0, va_rf a0), (1, .int a1), (2, .long a2), (4, .int a3)]) d_M_digits_1 (Nat.le_of_ble_eq_true rfl) rfl ?_
  refine gk_iconst (pc := 3) (1 : Int32) d_M_digits_3 rfl ?_
  refine gk_istore (pc := 4) (L' := [(7, .int (1 : Int32)), (5, .long (1 : Int64)), (0, va_rf a0), (1, .int a1), (2, .long a2), (4, .int a3)]) d_M_digits_4 (Nat.le_of_ble_eq_true rfl) rfl ?_
  refine gk_weak [2, 3, 4, 5, 1, 0] (L' := [(0, va_rf a0), (1, .int a1), (2, .long a2), (4, .int a3), (5, .long (1 : Int64)), (7, .int (1 : Int32))]) rfl ?_
  exact p_M_digits_b6 d gk_F a0 a1 a2 a3 (1 : Int64) (1 : Int32) h
theorem p_M_digits (d : Nat) (a0 : Option Nat) (a1 : Int32) (a2 : Int64) (a3 : Int32) (h : gk_H) : ∀ r h1, f_M_digits a0 a1 a2 a3 h = some (r, h1) → gk_M (d + 1) y_M_digits b_M_digits 8 none [va_rf a0, .int a1, .long a2, .int a3] h (.inl (gv_V r)) h1 :=
  fun r h1 e => gk_M_of2 (by decide +kernel) (by simp [lv_args, gk_cat_rf, gk_catI, gk_catJ, gk_catD, gv_V, gv_I, gv_J, gv_D, gv_R]) (by simp [lg_sl, gk_cat_rf, gk_catI, gk_catJ, gk_catD, gv_V, gv_I, gv_J, gv_D, gv_R]) (w_M_digits d a0 a1 a2 a3 h r h1 e)
theorem d_M_write_0 : decode b_M_write 0 = .ok (.dload_n 2, 1) := by decide +kernel
theorem d_M_write_1 : decode b_M_write 1 = .ok (.dconst 0, 1) := by decide +kernel
theorem d_M_write_2 : decode b_M_write 2 = .ok (.dcmp .g, 1) := by decide +kernel
theorem d_M_write_3 : decode b_M_write 3 = .ok (.ifCond .ge 8, 3) := by decide +kernel
theorem d_M_write_6 : decode b_M_write 6 = .ok (.dload_n 2, 1) := by decide +kernel
theorem d_M_write_7 : decode b_M_write 7 = .ok (.dneg, 1) := by decide +kernel
theorem d_M_write_8 : decode b_M_write 8 = .ok (.goto 4, 3) := by decide +kernel
theorem d_M_write_11 : decode b_M_write 11 = .ok (.dload_n 2, 1) := by decide +kernel
theorem d_M_write_12 : decode b_M_write 12 = .ok (.dstore 4, 2) := by decide +kernel
theorem d_M_write_14 : decode b_M_write 14 = .ok (.aload_n 0, 1) := by decide +kernel
theorem d_M_write_15 : decode b_M_write 15 = .ok (.getfield 40, 3) := by decide +kernel
theorem d_M_write_18 : decode b_M_write 18 = .ok (.iload_n 1, 1) := by decide +kernel
theorem d_M_write_19 : decode b_M_write 19 = .ok (.iconst 0, 1) := by decide +kernel
theorem d_M_write_20 : decode b_M_write 20 = .ok (.iastore, 1) := by decide +kernel
theorem d_M_write_21 : decode b_M_write 21 = .ok (.dload 4, 2) := by decide +kernel
theorem d_M_write_23 : decode b_M_write 23 = .ok (.ldc2_w 112, 3) := by decide +kernel
theorem d_M_write_26 : decode b_M_write 26 = .ok (.dcmp .g, 1) := by decide +kernel
theorem d_M_write_27 : decode b_M_write 27 = .ok (.ifCond .lt 9, 3) := by decide +kernel
theorem d_M_write_30 : decode b_M_write 30 = .ok (.aload_n 0, 1) := by decide +kernel
theorem d_M_write_31 : decode b_M_write 31 = .ok (.iconst 3, 1) := by decide +kernel
theorem d_M_write_32 : decode b_M_write 32 = .ok (.invokevirtual 58, 3) := by decide +kernel
theorem d_M_write_35 : decode b_M_write 35 = .ok (.return_, 1) := by decide +kernel
theorem d_M_write_36 : decode b_M_write 36 = .ok (.dload_n 2, 1) := by decide +kernel
theorem d_M_write_37 : decode b_M_write 37 = .ok (.dconst 0, 1) := by decide +kernel
theorem d_M_write_38 : decode b_M_write 38 = .ok (.dcmp .g, 1) := by decide +kernel
theorem d_M_write_39 : decode b_M_write 39 = .ok (.ifCond .ge 10, 3) := by decide +kernel
theorem d_M_write_42 : decode b_M_write 42 = .ok (.aload_n 0, 1) := by decide +kernel
theorem d_M_write_43 : decode b_M_write 43 = .ok (.iload_n 1, 1) := by decide +kernel
theorem d_M_write_44 : decode b_M_write 44 = .ok (.bipush 45, 2) := by decide +kernel
theorem d_M_write_46 : decode b_M_write 46 = .ok (.invokevirtual 109, 3) := by decide +kernel
theorem d_M_write_49 : decode b_M_write 49 = .ok (.dload 4, 2) := by decide +kernel
theorem d_M_write_51 : decode b_M_write 51 = .ok (.d2l, 1) := by decide +kernel
theorem d_M_write_52 : decode b_M_write 52 = .ok (.lstore 6, 2) := by decide +kernel
theorem d_M_write_54 : decode b_M_write 54 = .ok (.lload 6, 2) := by decide +kernel
theorem d_M_write_56 : decode b_M_write 56 = .ok (.l2d, 1) := by decide +kernel
theorem d_M_write_57 : decode b_M_write 57 = .ok (.dload 4, 2) := by decide +kernel
theorem d_M_write_59 : decode b_M_write 59 = .ok (.dcmp .l, 1) := by decide +kernel
theorem d_M_write_60 : decode b_M_write 60 = .ok (.ifCond .ne 14, 3) := by decide +kernel
theorem d_M_write_63 : decode b_M_write 63 = .ok (.aload_n 0, 1) := by decide +kernel
theorem d_M_write_64 : decode b_M_write 64 = .ok (.iload_n 1, 1) := by decide +kernel
theorem d_M_write_65 : decode b_M_write 65 = .ok (.lload 6, 2) := by decide +kernel
theorem d_M_write_67 : decode b_M_write 67 = .ok (.iconst 1, 1) := by decide +kernel
theorem d_M_write_68 : decode b_M_write 68 = .ok (.invokevirtual 114, 3) := by decide +kernel
theorem d_M_write_71 : decode b_M_write 71 = .ok (.goto 121, 3) := by decide +kernel
theorem d_M_write_74 : decode b_M_write 74 = .ok (.dload 4, 2) := by decide +kernel
theorem d_M_write_76 : decode b_M_write 76 = .ok (.ldc2_w 118, 3) := by decide +kernel
theorem d_M_write_79 : decode b_M_write 79 = .ok (.dcmp .g, 1) := by decide +kernel
theorem d_M_write_80 : decode b_M_write 80 = .ok (.ifCond .ge 99, 3) := by decide +kernel
theorem d_M_write_83 : decode b_M_write 83 = .ok (.dload 4, 2) := by decide +kernel
theorem d_M_write_85 : decode b_M_write 85 = .ok (.ldc2_w 120, 3) := by decide +kernel
theorem d_M_write_88 : decode b_M_write 88 = .ok (.dmul, 1) := by decide +kernel
theorem d_M_write_89 : decode b_M_write 89 = .ok (.ldc2_w 122, 3) := by decide +kernel
theorem d_M_write_92 : decode b_M_write 92 = .ok (.dadd, 1) := by decide +kernel
theorem d_M_write_93 : decode b_M_write 93 = .ok (.d2l, 1) := by decide +kernel
theorem d_M_write_94 : decode b_M_write 94 = .ok (.lstore 8, 2) := by decide +kernel
theorem d_M_write_96 : decode b_M_write 96 = .ok (.aload_n 0, 1) := by decide +kernel
theorem d_M_write_97 : decode b_M_write 97 = .ok (.iload_n 1, 1) := by decide +kernel
theorem d_M_write_98 : decode b_M_write 98 = .ok (.lload 8, 2) := by decide +kernel
theorem d_M_write_100 : decode b_M_write 100 = .ok (.ldc2_w 124, 3) := by decide +kernel
theorem d_M_write_103 : decode b_M_write 103 = .ok (.ldiv, 1) := by decide +kernel
theorem d_M_write_104 : decode b_M_write 104 = .ok (.iconst 1, 1) := by decide +kernel
theorem d_M_write_105 : decode b_M_write 105 = .ok (.invokevirtual 114, 3) := by decide +kernel
theorem d_M_write_108 : decode b_M_write 108 = .ok (.lload 8, 2) := by decide +kernel
theorem d_M_write_110 : decode b_M_write 110 = .ok (.ldc2_w 124, 3) := by decide +kernel
theorem d_M_write_113 : decode b_M_write 113 = .ok (.lrem, 1) := by decide +kernel
theorem d_M_write_114 : decode b_M_write 114 = .ok (.lstore 10, 2) := by decide +kernel
theorem d_M_write_116 : decode b_M_write 116 = .ok (.lload 10, 2) := by decide +kernel
theorem d_M_write_118 : decode b_M_write 118 = .ok (.lconst 0, 1) := by decide +kernel
theorem d_M_write_119 : decode b_M_write 119 = .ok (.lcmp, 1) := by decide +kernel
theorem d_M_write_120 : decode b_M_write 120 = .ok (.ifCond .le 56, 3) := by decide +kernel
theorem d_M_write_123 : decode b_M_write 123 = .ok (.aload_n 0, 1) := by decide +kernel
theorem d_M_write_124 : decode b_M_write 124 = .ok (.iload_n 1, 1) := by decide +kernel
theorem d_M_write_125 : decode b_M_write 125 = .ok (.bipush 46, 2) := by decide +kernel
theorem d_M_write_127 : decode b_M_write 127 = .ok (.invokevirtual 109, 3) := by decide +kernel
theorem d_M_write_130 : decode b_M_write 130 = .ok (.aload_n 0, 1) := by decide +kernel
theorem d_M_write_131 : decode b_M_write 131 = .ok (.iload_n 1, 1) := by decide +kernel
theorem d_M_write_132 : decode b_M_write 132 = .ok (.lload 10, 2) := by decide +kernel
theorem d_M_write_134 : decode b_M_write 134 = .ok (.bipush 9, 2) := by decide +kernel
theorem d_M_write_136 : decode b_M_write 136 = .ok (.invokevirtual 114, 3) := by decide +kernel
theorem d_M_write_139 : decode b_M_write 139 = .ok (.aload_n 0, 1) := by decide +kernel
theorem d_M_write_140 : decode b_M_write 140 = .ok (.getfield 43, 3) := by decide +kernel
theorem d_M_write_143 : decode b_M_write 143 = .ok (.sipush 256, 3) := by decide +kernel
theorem d_M_write_146 : decode b_M_write 146 = .ok (.iload_n 1, 1) := by decide +kernel
theorem d_M_write_147 : decode b_M_write 147 = .ok (.imul, 1) := by decide +kernel
theorem d_M_write_148 : decode b_M_write 148 = .ok (.aload_n 0, 1) := by decide +kernel
theorem d_M_write_149 : decode b_M_write 149 = .ok (.getfield 40, 3) := by decide +kernel
theorem d_M_write_152 : decode b_M_write 152 = .ok (.iload_n 1, 1) := by decide +kernel
theorem d_M_write_153 : decode b_M_write 153 = .ok (.iaload, 1) := by decide +kernel
theorem d_M_write_154 : decode b_M_write 154 = .ok (.iadd, 1) := by decide +kernel
theorem d_M_write_155 : decode b_M_write 155 = .ok (.iconst 1, 1) := by decide +kernel
theorem d_M_write_156 : decode b_M_write 156 = .ok (.isub, 1) := by decide +kernel
theorem d_M_write_157 : decode b_M_write 157 = .ok (.baload, 1) := by decide +kernel
theorem d_M_write_158 : decode b_M_write 158 = .ok (.bipush 48, 2) := by decide +kernel
theorem d_M_write_160 : decode b_M_write 160 = .ok (.if_icmp .ne 16, 3) := by decide +kernel
theorem d_M_write_163 : decode b_M_write 163 = .ok (.aload_n 0, 1) := by decide +kernel
theorem d_M_write_164 : decode b_M_write 164 = .ok (.getfield 40, 3) := by decide +kernel
theorem d_M_write_167 : decode b_M_write 167 = .ok (.iload_n 1, 1) := by decide +kernel
theorem d_M_write_168 : decode b_M_write 168 = .ok (.dup2, 1) := by decide +kernel
theorem d_M_write_169 : decode b_M_write 169 = .ok (.iaload, 1) := by decide +kernel
theorem d_M_write_170 : decode b_M_write 170 = .ok (.iconst 1, 1) := by decide +kernel
theorem d_M_write_171 : decode b_M_write 171 = .ok (.isub, 1) := by decide +kernel
theorem d_M_write_172 : decode b_M_write 172 = .ok (.iastore, 1) := by decide +kernel
theorem d_M_write_173 : decode b_M_write 173 = .ok (.goto (-34), 3) := by decide +kernel
theorem d_M_write_176 : decode b_M_write 176 = .ok (.goto 16, 3) := by decide +kernel
theorem d_M_write_179 : decode b_M_write 179 = .ok (.aload_n 0, 1) := by decide +kernel
theorem d_M_write_180 : decode b_M_write 180 = .ok (.iload_n 1, 1) := by decide +kernel
theorem d_M_write_181 : decode b_M_write 181 = .ok (.dload 4, 2) := by decide +kernel
theorem d_M_write_183 : decode b_M_write 183 = .ok (.ldc2_w 122, 3) := by decide +kernel
theorem d_M_write_186 : decode b_M_write 186 = .ok (.dadd, 1) := by decide +kernel
theorem d_M_write_187 : decode b_M_write 187 = .ok (.d2l, 1) := by decide +kernel
theorem d_M_write_188 : decode b_M_write 188 = .ok (.iconst 1, 1) := by decide +kernel
theorem d_M_write_189 : decode b_M_write 189 = .ok (.invokevirtual 114, 3) := by decide +kernel
theorem d_M_write_192 : decode b_M_write 192 = .ok (.return_, 1) := by decide +kernel
theorem p_M_write_b192 (d : Nat)   (h : gk_H) : gk_P gw_V (d + 2) y_M_write b_M_write 12 none [] (f_M_write_b192   h) 192 [] [] h := by
  unfold f_M_write_b192
  exact gk_vret (pc := 192) rfl d_M_write_192 rfl
theorem p_M_write_b176 (d : Nat)   (h : gk_H) : gk_P gw_V (d + 2) y_M_write b_M_write 12 none [] (f_M_write_b176   h) 176 [] [] h := by
  unfold f_M_write_b176
  refine gk_goto (pc := 176) 192 d_M_write_176 rfl ?_
  exact p_M_write_b192 d h
theorem p_M_write_b139 (d : Nat)  : ∀ (fu : Nat) (v0 : Option Nat) (v1 : Int32) (h : gk_H), gk_P gw_V (d + 2) y_M_write b_M_write 12 none [] (f_M_write_b139  fu v0 v1 h) 139 [(0, va_rf v0), (1, .int v1)] [] h := by
  intro fu
  induction fu with
  | zero => intros; exact gk_none
  | succ fu q139 =>
    intro v0 v1 h
    rw [f_M_write_b139]
    refine gk_aload_n (pc := 139) 0 d_M_write_139 rfl ?_
    refine gk_getR (pc := 140) 7 15 d_M_write_140 rfl (Nat.le_of_ble_eq_true rfl) tw_1660 fun x1 => ?_
    refine gk_sipush (pc := 143) (256 : Int32) d_M_write_143 rfl ?_
    refine gk_iload_n (pc := 146) 1 d_M_write_146 rfl ?_
    refine gk_imul (pc := 147) d_M_write_147 ?_
    refine gk_aload_n (pc := 148) 0 d_M_write_148 rfl ?_
    refine gk_getR (pc := 149) 7 14 d_M_write_149 rfl (Nat.le_of_ble_eq_true rfl) tw_1659 fun x2 => ?_
    refine gk_iload_n (pc := 152) 1 d_M_write_152 rfl ?_
    refine gk_iald (pc := 153) d_M_write_153 fun x3 => ?_
    refine gk_iadd (pc := 154) d_M_write_154 ?_
    refine gk_iconst (pc := 155) (1 : Int32) d_M_write_155 rfl ?_
    refine gk_isub (pc := 156) d_M_write_156 ?_
    refine gk_bald (pc := 157) d_M_write_157 fun x4 => ?_
    refine gk_bipush (pc := 158) (48 : Int32) d_M_write_158 rfl ?_
    refine gk_icmp_ne (pc := 160) 176 d_M_write_160 rfl (fun _ => ?_) (fun _ => ?_)
    · refine gk_aload_n (pc := 163) 0 d_M_write_163 rfl ?_
      refine gk_getR (pc := 164) 7 14 d_M_write_164 rfl (Nat.le_of_ble_eq_true rfl) tw_1659 fun x5 => ?_
      refine gk_iload_n (pc := 167) 1 d_M_write_167 rfl ?_
      refine gk_dup2 (pc := 168) d_M_write_168 rfl (gk_cat_rf _) ?_
      refine gk_iald (pc := 169) d_M_write_169 fun x6 => ?_
      refine gk_iconst (pc := 170) (1 : Int32) d_M_write_170 rfl ?_
      refine gk_isub (pc := 171) d_M_write_171 ?_
      refine gk_iast (pc := 172) d_M_write_172 fun h1 => ?_
      refine gk_goto (pc := 173) 139 d_M_write_173 rfl ?_
      exact q139 v0 v1 h1
    · refine gk_weak [] (L' := []) rfl ?_
      exact p_M_write_b176 d h
theorem p_M_write_b49 (d : Nat)  (v0 : Option Nat) (v1 : Int32) (v4 : UInt64) (h : gk_H) : gk_P gw_V (d + 2) y_M_write b_M_write 12 none [] (f_M_write_b49  v0 v1 v4 h) 49 [(0, va_rf v0), (1, .int v1), (4, .double v4)] [] h := by
  unfold f_M_write_b49
  refine gk_dload (pc := 49) 2 d_M_write_49 rfl ?_
  refine gk_d2l (pc := 51) d_M_write_51 ?_
  refine gk_topJ (pc := 52) fun x1 => ?_
  refine gk_lstore (pc := 52) (L' := [(6, .long x1), (0, va_rf v0), (1, .int v1), (4, .double v4)]) d_M_write_52 (Nat.le_of_ble_eq_true rfl) rfl ?_
  refine gk_lload (pc := 54) 0 d_M_write_54 rfl ?_
  refine gk_l2d (pc := 56) d_M_write_56 ?_
  refine gk_dload (pc := 57) 3 d_M_write_57 rfl ?_
  refine gk_dcmp (pc := 59) d_M_write_59 ?_
  refine gk_if_ne (pc := 60) 74 d_M_write_60 rfl (fun _ => ?_) (fun _ => ?_)
  · refine gk_aload_n (pc := 63) 1 d_M_write_63 rfl ?_
    refine gk_iload_n (pc := 64) 2 d_M_write_64 rfl ?_
    refine gk_lload (pc := 65) 0 d_M_write_65 rfl ?_
    refine gk_iconst (pc := 67) (1 : Int32) d_M_write_67 rfl ?_
    refine gk_callV (pc := 68) (d := (d + 1)) (w' := gv_V) (as := [.int v1, .long x1, .int (1 : Int32)]) (n := 3) 7 d_M_write_68 rfl rfl rfl rfl (Nat.le_of_ble_eq_true rfl) tw_1843 tw_1845 tw_28 tw_99 cw_M_digits hy_M_digits (Nat.le_of_ble_eq_true rfl) (p_M_digits d v0 v1 x1 (1 : Int32) h) fun _ h1 => ?_
    refine gk_goto (pc := 71) 192 d_M_write_71 rfl ?_
    refine gk_weak [] (L' := []) rfl ?_
    exact p_M_write_b192 d h1
  · refine gk_dload (pc := 74) 3 d_M_write_74 rfl ?_
    refine gk_ldc2d (pc := 76) tw_1849 d_M_write_76 ?_
    refine gk_dcmp (pc := 79) d_M_write_79 ?_
    refine gk_if_ge (pc := 80) 179 d_M_write_80 rfl (fun _ => ?_) (fun _ => ?_)
    · refine gk_aload_n (pc := 179) 1 d_M_write_179 rfl ?_
      refine gk_iload_n (pc := 180) 2 d_M_write_180 rfl ?_
      refine gk_dload (pc := 181) 3 d_M_write_181 rfl ?_
      refine gk_ldc2d (pc := 183) tw_1851 d_M_write_183 ?_
      refine gk_daddN (pc := 186) d_M_write_186 fun x2 => ?_
      refine gk_d2l (pc := 187) d_M_write_187 ?_
      refine gk_iconst (pc := 188) (1 : Int32) d_M_write_188 rfl ?_
      refine gk_callV (pc := 189) (d := (d + 1)) (w' := gv_V) (as := [.int v1, .long (FP.d2l x2), .int (1 : Int32)]) (n := 3) 7 d_M_write_189 rfl rfl rfl rfl (Nat.le_of_ble_eq_true rfl) tw_1843 tw_1845 tw_28 tw_99 cw_M_digits hy_M_digits (Nat.le_of_ble_eq_true rfl) (p_M_digits d v0 v1 (FP.d2l x2) (1 : Int32) h) fun _ h2 => ?_
      refine gk_weak [] (L' := []) rfl ?_
      exact p_M_write_b192 d h2
    · refine gk_dload (pc := 83) 3 d_M_write_83 rfl ?_
      refine gk_ldc2d (pc := 85) tw_1850 d_M_write_85 ?_
      refine gk_dmulN (pc := 88) d_M_write_88 fun x3 => ?_
      refine gk_ldc2d (pc := 89) tw_1851 d_M_write_89 ?_
      refine gk_daddN (pc := 92) d_M_write_92 fun x4 => ?_
      refine gk_d2l (pc := 93) d_M_write_93 ?_
      refine gk_topJ (pc := 94) fun x5 => ?_
      refine gk_lstore (pc := 94) (L' := [(8, .long x5), (6, .long x1), (0, va_rf v0), (1, .int v1), (4, .double v4)]) d_M_write_94 (Nat.le_of_ble_eq_true rfl) rfl ?_
      refine gk_aload_n (pc := 96) 2 d_M_write_96 rfl ?_
      refine gk_iload_n (pc := 97) 3 d_M_write_97 rfl ?_
      refine gk_lload (pc := 98) 0 d_M_write_98 rfl ?_
      refine gk_ldc2 (pc := 100) tw_1852 d_M_write_100 ?_
      refine gk_ldiv (pc := 103) (by decide) d_M_write_103 ?_
      refine gk_iconst (pc := 104) (1 : Int32) d_M_write_104 rfl ?_
      refine gk_callV (pc := 105) (d := (d + 1)) (w' := gv_V) (as := [.int v1, .long (x5 / (1000000000 : Int64)), .int (1 : Int32)]) (n := 3) 7 d_M_write_105 rfl rfl rfl rfl (Nat.le_of_ble_eq_true rfl) tw_1843 tw_1845 tw_28 tw_99 cw_M_digits hy_M_digits (Nat.le_of_ble_eq_true rfl) (p_M_digits d v0 v1 (x5 / (1000000000 : Int64)) (1 : Int32) h) fun _ h3 => ?_
      refine gk_lload (pc := 108) 0 d_M_write_108 rfl ?_
      refine gk_ldc2 (pc := 110) tw_1852 d_M_write_110 ?_
      refine gk_lrem (pc := 113) (by decide) d_M_write_113 ?_
      refine gk_topJ (pc := 114) fun x6 => ?_
      refine gk_lstore (pc := 114) (L' := [(10, .long x6), (8, .long x5), (6, .long x1), (0, va_rf v0), (1, .int v1), (4, .double v4)]) d_M_write_114 (Nat.le_of_ble_eq_true rfl) rfl ?_
      refine gk_lload (pc := 116) 0 d_M_write_116 rfl ?_
      refine gk_lconst (pc := 118) (0 : Int64) d_M_write_118 rfl ?_
      refine gk_lcmp (pc := 119) d_M_write_119 ?_
      refine gk_if_le (pc := 120) 176 d_M_write_120 rfl (fun _ => ?_) (fun _ => ?_)
      · refine gk_weak [] (L' := []) rfl ?_
        exact p_M_write_b176 d h3
      · refine gk_aload_n (pc := 123) 3 d_M_write_123 rfl ?_
        refine gk_iload_n (pc := 124) 4 d_M_write_124 rfl ?_
        refine gk_bipush (pc := 125) (46 : Int32) d_M_write_125 rfl ?_
        refine gk_callV (pc := 127) (d := (d + 1)) (w' := gv_V) (as := [.int v1, .int (46 : Int32)]) (n := 2) 7 d_M_write_127 rfl rfl rfl rfl (Nat.le_of_ble_eq_true rfl) tw_1839 tw_1841 tw_27 tw_99 cw_M_putLetter hy_M_putLetter (Nat.le_of_ble_eq_true rfl) (p_M_putLetter (d + 1) v0 v1 (46 : Int32) h3) fun _ h4 => ?_
        refine gk_aload_n (pc := 130) 3 d_M_write_130 rfl ?_
        refine gk_iload_n (pc := 131) 4 d_M_write_131 rfl ?_
        refine gk_lload (pc := 132) 0 d_M_write_132 rfl ?_
        refine gk_bipush (pc := 134) (9 : Int32) d_M_write_134 rfl ?_
        refine gk_callV (pc := 136) (d := (d + 1)) (w' := gv_V) (as := [.int v1, .long x6, .int (9 : Int32)]) (n := 3) 7 d_M_write_136 rfl rfl rfl rfl (Nat.le_of_ble_eq_true rfl) tw_1843 tw_1845 tw_28 tw_99 cw_M_digits hy_M_digits (Nat.le_of_ble_eq_true rfl) (p_M_digits d v0 v1 x6 (9 : Int32) h4) fun _ h5 => ?_
        refine gk_weak [3, 4] (L' := [(0, va_rf v0), (1, .int v1)]) rfl ?_
        exact p_M_write_b139 d gk_F v0 v1 h5
theorem p_M_write_b12 (d : Nat)  (v0 : Option Nat) (v1 : Int32) (v2 : UInt64) (s0 : UInt64) (h : gk_H) : gk_P gw_V (d + 2) y_M_write b_M_write 12 none [] (f_M_write_b12  v0 v1 v2 s0 h) 12 [(0, va_rf v0), (1, .int v1), (2, .double v2)] [.double s0] h := by
  unfold f_M_write_b12
  refine gk_dstore (pc := 12) (L' := [(4, .double s0), (0, va_rf v0), (1, .int v1), (2, .double v2)]) d_M_write_12 (Nat.le_of_ble_eq_true rfl) rfl ?_
  refine gk_aload_n (pc := 14) 1 d_M_write_14 rfl ?_
  refine gk_getR (pc := 15) 7 14 d_M_write_15 rfl (Nat.le_of_ble_eq_true rfl) tw_1659 fun x1 => ?_
  refine gk_iload_n (pc := 18) 2 d_M_write_18 rfl ?_
  refine gk_iconst (pc := 19) (0 : Int32) d_M_write_19 rfl ?_
  refine gk_iast (pc := 20) d_M_write_20 fun h1 => ?_
  refine gk_dload (pc := 21) 0 d_M_write_21 rfl ?_
  refine gk_ldc2d (pc := 23) tw_1838 d_M_write_23 ?_
  refine gk_dcmp (pc := 26) d_M_write_26 ?_
  refine gk_if_lt (pc := 27) 36 d_M_write_27 rfl (fun _ => ?_) (fun _ => ?_)
  · refine gk_dload_n (pc := 36) 3 d_M_write_36 rfl ?_
    refine gk_dconst0 (pc := 37) d_M_write_37 ?_
    refine gk_dcmp (pc := 38) d_M_write_38 ?_
    refine gk_if_ge (pc := 39) 49 d_M_write_39 rfl (fun _ => ?_) (fun _ => ?_)
    · refine gk_weak [1, 2, 0] (L' := [(0, va_rf v0), (1, .int v1), (4, .double s0)]) rfl ?_
      exact p_M_write_b49 d v0 v1 s0 h1
    · refine gk_aload_n (pc := 42) 1 d_M_write_42 rfl ?_
      refine gk_iload_n (pc := 43) 2 d_M_write_43 rfl ?_
      refine gk_bipush (pc := 44) (45 : Int32) d_M_write_44 rfl ?_
      refine gk_callV (pc := 46) (d := (d + 1)) (w' := gv_V) (as := [.int v1, .int (45 : Int32)]) (n := 2) 7 d_M_write_46 rfl rfl rfl rfl (Nat.le_of_ble_eq_true rfl) tw_1839 tw_1841 tw_27 tw_99 cw_M_putLetter hy_M_putLetter (Nat.le_of_ble_eq_true rfl) (p_M_putLetter (d + 1) v0 v1 (45 : Int32) h1) fun _ h2 => ?_
      refine gk_weak [1, 2, 0] (L' := [(0, va_rf v0), (1, .int v1), (4, .double s0)]) rfl ?_
      exact p_M_write_b49 d v0 v1 s0 h2
  · refine gk_aload_n (pc := 30) 1 d_M_write_30 rfl ?_
    refine gk_iconst (pc := 31) (3 : Int32) d_M_write_31 rfl ?_
    refine gk_callV (pc := 32) (d := (d + 1)) (w' := gv_V) (as := [.int (3 : Int32)]) (n := 1) 7 d_M_write_32 rfl rfl rfl rfl (Nat.le_of_ble_eq_true rfl) tw_1805 tw_1807 tw_21 tw_99 cw_M_fail hy_M_fail (Nat.le_of_ble_eq_true rfl) (p_M_fail (d + 1) v0 (3 : Int32) h1) fun _ h3 => ?_
    exact gk_vret (pc := 35) rfl d_M_write_35 rfl
theorem w_M_write (d : Nat) (a0 : Option Nat) (a1 : Int32) (a2 : UInt64) (h : gk_H) : gk_P gw_V (d + 2) y_M_write b_M_write 12 none [] (f_M_write a0 a1 a2 h) 0 [(0, va_rf a0), (1, .int a1), (2, .double a2)] [] h := by
  unfold f_M_write
  refine gk_dload_n (pc := 0) 2 d_M_write_0 rfl ?_
  refine gk_dconst0 (pc := 1) d_M_write_1 ?_
  refine gk_dcmp (pc := 2) d_M_write_2 ?_
  refine gk_if_ge (pc := 3) 11 d_M_write_3 rfl (fun _ => ?_) (fun _ => ?_)
  · refine gk_dload_n (pc := 11) 2 d_M_write_11 rfl ?_
    exact p_M_write_b12 d a0 a1 a2 a2 h
  · refine gk_dload_n (pc := 6) 2 d_M_write_6 rfl ?_
    refine gk_dneg (pc := 7) d_M_write_7 ?_
    refine gk_goto (pc := 8) 12 d_M_write_8 rfl ?_
    exact p_M_write_b12 d a0 a1 a2 (FP.dneg a2) h
theorem p_M_write (d : Nat) (a0 : Option Nat) (a1 : Int32) (a2 : UInt64) (h : gk_H) : ∀ r h1, f_M_write a0 a1 a2 h = some (r, h1) → gk_M (d + 2) y_M_write b_M_write 12 none [va_rf a0, .int a1, .double a2] h (.inl (gv_V r)) h1 :=
  fun r h1 e => gk_M_of2 (by decide +kernel) (by simp [lv_args, gk_cat_rf, gk_catI, gk_catJ, gk_catD, gv_V, gv_I, gv_J, gv_D, gv_R]) (by simp [lg_sl, gk_cat_rf, gk_catI, gk_catJ, gk_catD, gv_V, gv_I, gv_J, gv_D, gv_R]) (w_M_write d a0 a1 a2 h r h1 e)
theorem d_M_truthLetter_0 : decode b_M_truthLetter 0 = .ok (.iload_n 0, 1) := by decide +kernel
theorem d_M_truthLetter_1 : decode b_M_truthLetter 1 = .ok (.iconst 4, 1) := by decide +kernel
theorem d_M_truthLetter_2 : decode b_M_truthLetter 2 = .ok (.if_icmp .ne 9, 3) := by decide +kernel
theorem d_M_truthLetter_5 : decode b_M_truthLetter 5 = .ok (.ldc2_w 152, 3) := by decide +kernel
theorem d_M_truthLetter_8 : decode b_M_truthLetter 8 = .ok (.goto 6, 3) := by decide +kernel
theorem d_M_truthLetter_11 : decode b_M_truthLetter 11 = .ok (.ldc2_w 154, 3) := by decide +kernel
theorem d_M_truthLetter_14 : decode b_M_truthLetter 14 = .ok (.lstore_n 2, 1) := by decide +kernel
theorem d_M_truthLetter_15 : decode b_M_truthLetter 15 = .ok (.lload_n 2, 1) := by decide +kernel
theorem d_M_truthLetter_16 : decode b_M_truthLetter 16 = .ok (.bipush 8, 2) := by decide +kernel
theorem d_M_truthLetter_18 : decode b_M_truthLetter 18 = .ok (.iload_n 0, 1) := by decide +kernel
theorem d_M_truthLetter_19 : decode b_M_truthLetter 19 = .ok (.iconst 1, 1) := by decide +kernel
theorem d_M_truthLetter_20 : decode b_M_truthLetter 20 = .ok (.isub, 1) := by decide +kernel
theorem d_M_truthLetter_21 : decode b_M_truthLetter 21 = .ok (.iload_n 1, 1) := by decide +kernel
theorem d_M_truthLetter_22 : decode b_M_truthLetter 22 = .ok (.isub, 1) := by decide +kernel
theorem d_M_truthLetter_23 : decode b_M_truthLetter 23 = .ok (.imul, 1) := by decide +kernel
theorem d_M_truthLetter_24 : decode b_M_truthLetter 24 = .ok (.lshr, 1) := by decide +kernel
theorem d_M_truthLetter_25 : decode b_M_truthLetter 25 = .ok (.ldc2_w 156, 3) := by decide +kernel
theorem d_M_truthLetter_28 : decode b_M_truthLetter 28 = .ok (.land, 1) := by decide +kernel
theorem d_M_truthLetter_29 : decode b_M_truthLetter 29 = .ok (.l2i, 1) := by decide +kernel
theorem d_M_truthLetter_30 : decode b_M_truthLetter 30 = .ok (.ireturn, 1) := by decide +kernel
theorem p_M_truthLetter_b14 (d : Nat)  (v0 : Int32) (v1 : Int32) (s0 : Int64) (h : gk_H) : gk_P gw_I d y_M_truthLetter b_M_truthLetter 4 (some .int) [] (f_M_truthLetter_b14  v0 v1 s0 h) 14 [(0, .int v0), (1, .int v1)] [.long s0] h := by
  unfold f_M_truthLetter_b14
  refine gk_lstore_n (pc := 14) (L' := [(2, .long s0), (0, .int v0), (1, .int v1)]) d_M_truthLetter_14 (Nat.le_of_ble_eq_true rfl) rfl ?_
  refine gk_lload_n (pc := 15) 0 d_M_truthLetter_15 rfl ?_
  refine gk_bipush (pc := 16) (8 : Int32) d_M_truthLetter_16 rfl ?_
  refine gk_iload_n (pc := 18) 1 d_M_truthLetter_18 rfl ?_
  refine gk_iconst (pc := 19) (1 : Int32) d_M_truthLetter_19 rfl ?_
  refine gk_isub (pc := 20) d_M_truthLetter_20 ?_
  refine gk_iload_n (pc := 21) 2 d_M_truthLetter_21 rfl ?_
  refine gk_isub (pc := 22) d_M_truthLetter_22 ?_
  refine gk_imul (pc := 23) d_M_truthLetter_23 ?_
  refine gk_lshr (pc := 24) d_M_truthLetter_24 ?_
  refine gk_ldc2 (pc := 25) tw_1858 d_M_truthLetter_25 ?_
  refine gk_land (pc := 28) d_M_truthLetter_28 ?_
  refine gk_l2i (pc := 29) d_M_truthLetter_29 ?_
  exact gk_iret (pc := 30) rfl d_M_truthLetter_30 rfl
theorem w_M_truthLetter (d : Nat) (a0 : Int32) (a1 : Int32) (h : gk_H) : gk_P gw_I d y_M_truthLetter b_M_truthLetter 4 (some .int) [] (f_M_truthLetter a0 a1 h) 0 [(0, .int a0), (1, .int a1)] [] h := by
  unfold f_M_truthLetter
  refine gk_iload_n (pc := 0) 0 d_M_truthLetter_0 rfl ?_
  refine gk_iconst (pc := 1) (4 : Int32) d_M_truthLetter_1 rfl ?_
  refine gk_icmp_ne (pc := 2) 11 d_M_truthLetter_2 rfl (fun _ => ?_) (fun _ => ?_)
  · refine gk_ldc2 (pc := 5) tw_1856 d_M_truthLetter_5 ?_
    refine gk_goto (pc := 8) 14 d_M_truthLetter_8 rfl ?_
    exact p_M_truthLetter_b14 d a0 a1 (1414681925 : Int64) h
  · refine gk_ldc2 (pc := 11) tw_1857 d_M_truthLetter_11 ?_
    exact p_M_truthLetter_b14 d a0 a1 (301743231813 : Int64) h
theorem p_M_truthLetter (d : Nat) (a0 : Int32) (a1 : Int32) (h : gk_H) : ∀ r h1, f_M_truthLetter a0 a1 h = some (r, h1) → gk_M d y_M_truthLetter b_M_truthLetter 4 (some .int) [.int a0, .int a1] h (.inl (gv_I r)) h1 :=
  fun r h1 e => gk_M_of2 (by decide +kernel) (by simp [lv_args, gk_cat_rf, gk_catI, gk_catJ, gk_catD, gv_V, gv_I, gv_J, gv_D, gv_R]) (by simp [lg_sl, gk_cat_rf, gk_catI, gk_catJ, gk_catD, gv_V, gv_I, gv_J, gv_D, gv_R]) (w_M_truthLetter d a0 a1 h r h1 e)
theorem d_M_wantText_0 : decode b_M_wantText 0 = .ok (.aload_n 0, 1) := by decide +kernel
theorem d_M_wantText_1 : decode b_M_wantText 1 = .ok (.getfield 40, 3) := by decide +kernel
theorem d_M_wantText_4 : decode b_M_wantText 4 = .ok (.iload_n 2, 1) := by decide +kernel
theorem d_M_wantText_5 : decode b_M_wantText 5 = .ok (.iconst 0, 1) := by decide +kernel
theorem d_M_wantText_6 : decode b_M_wantText 6 = .ok (.iastore, 1) := by decide +kernel
theorem d_M_wantText_7 : decode b_M_wantText 7 = .ok (.aload_n 0, 1) := by decide +kernel
theorem d_M_wantText_8 : decode b_M_wantText 8 = .ok (.getfield 62, 3) := by decide +kernel
theorem d_M_wantText_11 : decode b_M_wantText 11 = .ok (.ifCond .le 4, 3) := by decide +kernel
theorem d_M_wantText_14 : decode b_M_wantText 14 = .ok (.return_, 1) := by decide +kernel
theorem d_M_wantText_15 : decode b_M_wantText 15 = .ok (.aload_n 0, 1) := by decide +kernel
theorem d_M_wantText_16 : decode b_M_wantText 16 = .ok (.iload_n 1, 1) := by decide +kernel
theorem d_M_wantText_17 : decode b_M_wantText 17 = .ok (.invokevirtual 126, 3) := by decide +kernel
theorem d_M_wantText_20 : decode b_M_wantText 20 = .ok (.istore_n 3, 1) := by decide +kernel
theorem d_M_wantText_21 : decode b_M_wantText 21 = .ok (.aload_n 0, 1) := by decide +kernel
theorem d_M_wantText_22 : decode b_M_wantText 22 = .ok (.getfield 62, 3) := by decide +kernel
theorem d_M_wantText_25 : decode b_M_wantText 25 = .ok (.ifCond .le 4, 3) := by decide +kernel
theorem d_M_wantText_28 : decode b_M_wantText 28 = .ok (.return_, 1) := by decide +kernel
theorem d_M_wantText_29 : decode b_M_wantText 29 = .ok (.aload_n 0, 1) := by decide +kernel
theorem d_M_wantText_30 : decode b_M_wantText 30 = .ok (.getfield 23, 3) := by decide +kernel
theorem d_M_wantText_33 : decode b_M_wantText 33 = .ok (.iload_n 3, 1) := by decide +kernel
theorem d_M_wantText_34 : decode b_M_wantText 34 = .ok (.iaload, 1) := by decide +kernel
theorem d_M_wantText_35 : decode b_M_wantText 35 = .ok (.iconst 4, 1) := by decide +kernel
theorem d_M_wantText_36 : decode b_M_wantText 36 = .ok (.if_icmp .ne 14, 3) := by decide +kernel
theorem d_M_wantText_39 : decode b_M_wantText 39 = .ok (.aload_n 0, 1) := by decide +kernel
theorem d_M_wantText_40 : decode b_M_wantText 40 = .ok (.aload_n 0, 1) := by decide +kernel
theorem d_M_wantText_41 : decode b_M_wantText 41 = .ok (.getfield 26, 3) := by decide +kernel
theorem d_M_wantText_44 : decode b_M_wantText 44 = .ok (.iload_n 3, 1) := by decide +kernel
theorem d_M_wantText_45 : decode b_M_wantText 45 = .ok (.daload, 1) := by decide +kernel
theorem d_M_wantText_46 : decode b_M_wantText 46 = .ok (.d2i, 1) := by decide +kernel
theorem d_M_wantText_47 : decode b_M_wantText 47 = .ok (.invokevirtual 58, 3) := by decide +kernel
theorem d_M_wantText_50 : decode b_M_wantText 50 = .ok (.aload_n 0, 1) := by decide +kernel
theorem d_M_wantText_51 : decode b_M_wantText 51 = .ok (.getfield 23, 3) := by decide +kernel
theorem d_M_wantText_54 : decode b_M_wantText 54 = .ok (.iload_n 3, 1) := by decide +kernel
theorem d_M_wantText_55 : decode b_M_wantText 55 = .ok (.iaload, 1) := by decide +kernel
theorem d_M_wantText_56 : decode b_M_wantText 56 = .ok (.iconst 1, 1) := by decide +kernel
theorem d_M_wantText_57 : decode b_M_wantText 57 = .ok (.if_icmp .ne 14, 3) := by decide +kernel
theorem d_M_wantText_60 : decode b_M_wantText 60 = .ok (.aload_n 0, 1) := by decide +kernel
theorem d_M_wantText_61 : decode b_M_wantText 61 = .ok (.iload_n 2, 1) := by decide +kernel
theorem d_M_wantText_62 : decode b_M_wantText 62 = .ok (.aload_n 0, 1) := by decide +kernel
theorem d_M_wantText_63 : decode b_M_wantText 63 = .ok (.getfield 26, 3) := by decide +kernel
theorem d_M_wantText_66 : decode b_M_wantText 66 = .ok (.iload_n 3, 1) := by decide +kernel
theorem d_M_wantText_67 : decode b_M_wantText 67 = .ok (.daload, 1) := by decide +kernel
theorem d_M_wantText_68 : decode b_M_wantText 68 = .ok (.invokevirtual 144, 3) := by decide +kernel
theorem d_M_wantText_71 : decode b_M_wantText 71 = .ok (.aload_n 0, 1) := by decide +kernel
theorem d_M_wantText_72 : decode b_M_wantText 72 = .ok (.getfield 23, 3) := by decide +kernel
theorem d_M_wantText_75 : decode b_M_wantText 75 = .ok (.iload_n 3, 1) := by decide +kernel
theorem d_M_wantText_76 : decode b_M_wantText 76 = .ok (.iaload, 1) := by decide +kernel
theorem d_M_wantText_77 : decode b_M_wantText 77 = .ok (.iconst 2, 1) := by decide +kernel
theorem d_M_wantText_78 : decode b_M_wantText 78 = .ok (.if_icmp .ne 61, 3) := by decide +kernel
theorem d_M_wantText_81 : decode b_M_wantText 81 = .ok (.aload_n 0, 1) := by decide +kernel
theorem d_M_wantText_82 : decode b_M_wantText 82 = .ok (.getfield 40, 3) := by decide +kernel
theorem d_M_wantText_85 : decode b_M_wantText 85 = .ok (.iload_n 2, 1) := by decide +kernel
theorem d_M_wantText_86 : decode b_M_wantText 86 = .ok (.aload_n 0, 1) := by decide +kernel
theorem d_M_wantText_87 : decode b_M_wantText 87 = .ok (.getfield 30, 3) := by decide +kernel
theorem d_M_wantText_90 : decode b_M_wantText 90 = .ok (.iload_n 3, 1) := by decide +kernel
theorem d_M_wantText_91 : decode b_M_wantText 91 = .ok (.iaload, 1) := by decide +kernel
theorem d_M_wantText_92 : decode b_M_wantText 92 = .ok (.iastore, 1) := by decide +kernel
theorem d_M_wantText_93 : decode b_M_wantText 93 = .ok (.iconst 0, 1) := by decide +kernel
theorem d_M_wantText_94 : decode b_M_wantText 94 = .ok (.istore 4, 2) := by decide +kernel
theorem d_M_wantText_96 : decode b_M_wantText 96 = .ok (.iload 4, 2) := by decide +kernel
theorem d_M_wantText_98 : decode b_M_wantText 98 = .ok (.aload_n 0, 1) := by decide +kernel
theorem d_M_wantText_99 : decode b_M_wantText 99 = .ok (.getfield 30, 3) := by decide +kernel
theorem d_M_wantText_102 : decode b_M_wantText 102 = .ok (.iload_n 3, 1) := by decide +kernel
theorem d_M_wantText_103 : decode b_M_wantText 103 = .ok (.iaload, 1) := by decide +kernel
theorem d_M_wantText_104 : decode b_M_wantText 104 = .ok (.if_icmp .ge 35, 3) := by decide +kernel
theorem d_M_wantText_107 : decode b_M_wantText 107 = .ok (.aload_n 0, 1) := by decide +kernel
theorem d_M_wantText_108 : decode b_M_wantText 108 = .ok (.getfield 43, 3) := by decide +kernel
theorem d_M_wantText_111 : decode b_M_wantText 111 = .ok (.sipush 256, 3) := by decide +kernel
theorem d_M_wantText_114 : decode b_M_wantText 114 = .ok (.iload_n 2, 1) := by decide +kernel
theorem d_M_wantText_115 : decode b_M_wantText 115 = .ok (.imul, 1) := by decide +kernel
theorem d_M_wantText_116 : decode b_M_wantText 116 = .ok (.iload 4, 2) := by decide +kernel
theorem d_M_wantText_118 : decode b_M_wantText 118 = .ok (.iadd, 1) := by decide +kernel
theorem d_M_wantText_119 : decode b_M_wantText 119 = .ok (.aload_n 0, 1) := by decide +kernel
theorem d_M_wantText_120 : decode b_M_wantText 120 = .ok (.getfield 34, 3) := by decide +kernel
theorem d_M_wantText_123 : decode b_M_wantText 123 = .ok (.sipush 256, 3) := by decide +kernel
theorem d_M_wantText_126 : decode b_M_wantText 126 = .ok (.iload_n 3, 1) := by decide +kernel
theorem d_M_wantText_127 : decode b_M_wantText 127 = .ok (.imul, 1) := by decide +kernel
theorem d_M_wantText_128 : decode b_M_wantText 128 = .ok (.iload 4, 2) := by decide +kernel
theorem d_M_wantText_130 : decode b_M_wantText 130 = .ok (.iadd, 1) := by decide +kernel
theorem d_M_wantText_131 : decode b_M_wantText 131 = .ok (.baload, 1) := by decide +kernel
theorem d_M_wantText_132 : decode b_M_wantText 132 = .ok (.bastore, 1) := by decide +kernel
theorem d_M_wantText_133 : decode b_M_wantText 133 = .ok (.iinc 4 1, 3) := by decide +kernel
theorem d_M_wantText_136 : decode b_M_wantText 136 = .ok (.goto (-40), 3) := by decide +kernel
theorem d_M_wantText_139 : decode b_M_wantText 139 = .ok (.aload_n 0, 1) := by decide +kernel
theorem d_M_wantText_140 : decode b_M_wantText 140 = .ok (.getfield 23, 3) := by decide +kernel
theorem d_M_wantText_143 : decode b_M_wantText 143 = .ok (.iload_n 3, 1) := by decide +kernel
theorem d_M_wantText_144 : decode b_M_wantText 144 = .ok (.iaload, 1) := by decide +kernel
theorem d_M_wantText_145 : decode b_M_wantText 145 = .ok (.iconst 3, 1) := by decide +kernel
theorem d_M_wantText_146 : decode b_M_wantText 146 = .ok (.if_icmp .ne 49, 3) := by decide +kernel
theorem d_M_wantText_149 : decode b_M_wantText 149 = .ok (.aload_n 0, 1) := by decide +kernel
theorem d_M_wantText_150 : decode b_M_wantText 150 = .ok (.getfield 26, 3) := by decide +kernel
theorem d_M_wantText_153 : decode b_M_wantText 153 = .ok (.iload_n 3, 1) := by decide +kernel
theorem d_M_wantText_154 : decode b_M_wantText 154 = .ok (.daload, 1) := by decide +kernel
theorem d_M_wantText_155 : decode b_M_wantText 155 = .ok (.dconst 1, 1) := by decide +kernel
theorem d_M_wantText_156 : decode b_M_wantText 156 = .ok (.dcmp .l, 1) := by decide +kernel
theorem d_M_wantText_157 : decode b_M_wantText 157 = .ok (.ifCond .ne 7, 3) := by decide +kernel
theorem d_M_wantText_160 : decode b_M_wantText 160 = .ok (.iconst 4, 1) := by decide +kernel
theorem d_M_wantText_161 : decode b_M_wantText 161 = .ok (.goto 4, 3) := by decide +kernel
theorem d_M_wantText_164 : decode b_M_wantText 164 = .ok (.iconst 5, 1) := by decide +kernel
theorem d_M_wantText_165 : decode b_M_wantText 165 = .ok (.istore 4, 2) := by decide +kernel
theorem d_M_wantText_167 : decode b_M_wantText 167 = .ok (.iconst 0, 1) := by decide +kernel
theorem d_M_wantText_168 : decode b_M_wantText 168 = .ok (.istore 5, 2) := by decide +kernel
theorem d_M_wantText_170 : decode b_M_wantText 170 = .ok (.iload 5, 2) := by decide +kernel
theorem d_M_wantText_172 : decode b_M_wantText 172 = .ok (.iload 4, 2) := by decide +kernel
theorem d_M_wantText_174 : decode b_M_wantText 174 = .ok (.if_icmp .ge 21, 3) := by decide +kernel
theorem d_M_wantText_177 : decode b_M_wantText 177 = .ok (.aload_n 0, 1) := by decide +kernel
theorem d_M_wantText_178 : decode b_M_wantText 178 = .ok (.iload_n 2, 1) := by decide +kernel
theorem d_M_wantText_179 : decode b_M_wantText 179 = .ok (.iload 4, 2) := by decide +kernel
theorem d_M_wantText_181 : decode b_M_wantText 181 = .ok (.iload 5, 2) := by decide +kernel
theorem d_M_wantText_183 : decode b_M_wantText 183 = .ok (.invokestatic 148, 3) := by decide +kernel
theorem d_M_wantText_186 : decode b_M_wantText 186 = .ok (.invokevirtual 109, 3) := by decide +kernel
theorem d_M_wantText_189 : decode b_M_wantText 189 = .ok (.iinc 5 1, 3) := by decide +kernel
theorem d_M_wantText_192 : decode b_M_wantText 192 = .ok (.goto (-22), 3) := by decide +kernel
theorem d_M_wantText_195 : decode b_M_wantText 195 = .ok (.return_, 1) := by decide +kernel
theorem p_M_wantText_b195 (d : Nat)   (h : gk_H) : gk_P gw_V (d + 3) y_M_wantText b_M_wantText 6 none [] (f_M_wantText_b195   h) 195 [] [] h := by
  unfold f_M_wantText_b195
  exact gk_vret (pc := 195) rfl d_M_wantText_195 rfl
theorem p_M_wantText_b170 (d : Nat)  : ∀ (fu : Nat) (v0 : Option Nat) (v2 : Int32) (v4 : Int32) (v5 : Int32) (h : gk_H), gk_P gw_V (d + 3) y_M_wantText b_M_wantText 6 none [] (f_M_wantText_b170  fu v0 v2 v4 v5 h) 170 [(0, va_rf v0), (2, .int v2), (4, .int v4), (5, .int v5)] [] h := by
  intro fu
  induction fu with
  | zero => intros; exact gk_none
  | succ fu q170 =>
    intro v0 v2 v4 v5 h
    rw [f_M_wantText_b170]
    refine gk_iload (pc := 170) 3 d_M_wantText_170 rfl ?_
    refine gk_iload (pc := 172) 2 d_M_wantText_172 rfl ?_
    refine gk_icmp_ge (pc := 174) 195 d_M_wantText_174 rfl (fun _ => ?_) (fun _ => ?_)
    · refine gk_weak [] (L' := []) rfl ?_
      exact p_M_wantText_b195 d h
    · refine gk_aload_n (pc := 177) 0 d_M_wantText_177 rfl ?_
      refine gk_iload_n (pc := 178) 1 d_M_wantText_178 rfl ?_
      refine gk_iload (pc := 179) 2 d_M_wantText_179 rfl ?_
      refine gk_iload (pc := 181) 3 d_M_wantText_181 rfl ?_
      refine gk_callS (pc := 183) (d := (d + 2)) (w' := gv_I) (as := [.int v4, .int v5]) (n := 2) d_M_wantText_183 rfl rfl (by simp [gk_cat_rf, gk_catI, gk_catJ, gk_catD, gv_V, gv_I, gv_J, gv_D, gv_R]) tw_1853 tw_1854 tw_99 cw_M_truthLetter hy_M_truthLetter (Nat.le_of_ble_eq_true rfl) (p_M_truthLetter (d + 2) v4 v5 h) fun x1 h1 => ?_
      refine gk_callV (pc := 186) (d := (d + 2)) (w' := gv_V) (as := [.int v2, .int x1]) (n := 2) 7 d_M_wantText_186 rfl rfl rfl rfl (Nat.le_of_ble_eq_true rfl) tw_1839 tw_1841 tw_27 tw_99 cw_M_putLetter hy_M_putLetter (Nat.le_of_ble_eq_true rfl) (p_M_putLetter (d + 2) v0 v2 x1 h1) fun _ h2 => ?_
      refine gk_iincN (pc := 189) 3 (1 : Int32) (L' := fun x2 => [(5, .int x2), (0, va_rf v0), (2, .int v2), (4, .int v4)]) d_M_wantText_189 rfl rfl (Nat.le_of_ble_eq_true rfl) (fun _ => rfl) fun x2 => ?_
      refine gk_goto (pc := 192) 170 d_M_wantText_192 rfl ?_
      refine gk_weak [1, 2, 3, 0] (L' := [(0, va_rf v0), (2, .int v2), (4, .int v4), (5, .int x2)]) rfl ?_
      exact q170 v0 v2 v4 x2 h2
theorem p_M_wantText_b165 (d : Nat)  (v0 : Option Nat) (v2 : Int32) (s0 : Int32) (h : gk_H) : gk_P gw_V (d + 3) y_M_wantText b_M_wantText 6 none [] (f_M_wantText_b165  v0 v2 s0 h) 165 [(0, va_rf v0), (2, .int v2)] [.int s0] h := by
  unfold f_M_wantText_b165
  refine gk_istore (pc := 165) (L' := [(4, .int s0), (0, va_rf v0), (2, .int v2)]) d_M_wantText_165 (Nat.le_of_ble_eq_true rfl) rfl ?_
  refine gk_iconst (pc := 167) (0 : Int32) d_M_wantText_167 rfl ?_
  refine gk_istore (pc := 168) (L' := [(5, .int (0 : Int32)), (4, .int s0), (0, va_rf v0), (2, .int v2)]) d_M_wantText_168 (Nat.le_of_ble_eq_true rfl) rfl ?_
  refine gk_weak [2, 3, 1, 0] (L' := [(0, va_rf v0), (2, .int v2), (4, .int s0), (5, .int (0 : Int32))]) rfl ?_
  exact p_M_wantText_b170 d gk_F v0 v2 s0 (0 : Int32) h
theorem p_M_wantText_b139 (d : Nat)  (v0 : Option Nat) (v2 : Int32) (v3 : Int32) (h : gk_H) : gk_P gw_V (d + 3) y_M_wantText b_M_wantText 6 none [] (f_M_wantText_b139  v0 v2 v3 h) 139 [(0, va_rf v0), (2, .int v2), (3, .int v3)] [] h := by
  unfold f_M_wantText_b139
  refine gk_aload_n (pc := 139) 0 d_M_wantText_139 rfl ?_
  refine gk_getR (pc := 140) 7 7 d_M_wantText_140 rfl (Nat.le_of_ble_eq_true rfl) tw_1652 fun x1 => ?_
  refine gk_iload_n (pc := 143) 2 d_M_wantText_143 rfl ?_
  refine gk_iald (pc := 144) d_M_wantText_144 fun x2 => ?_
  refine gk_iconst (pc := 145) (3 : Int32) d_M_wantText_145 rfl ?_
  refine gk_icmp_ne (pc := 146) 195 d_M_wantText_146 rfl (fun _ => ?_) (fun _ => ?_)
  · refine gk_aload_n (pc := 149) 0 d_M_wantText_149 rfl ?_
    refine gk_getR (pc := 150) 7 8 d_M_wantText_150 rfl (Nat.le_of_ble_eq_true rfl) tw_1653 fun x3 => ?_
    refine gk_iload_n (pc := 153) 2 d_M_wantText_153 rfl ?_
    refine gk_dald (pc := 154) d_M_wantText_154 fun x4 => ?_
    refine gk_dconst1 (pc := 155) d_M_wantText_155 ?_
    refine gk_dcmp (pc := 156) d_M_wantText_156 ?_
    refine gk_if_ne (pc := 157) 164 d_M_wantText_157 rfl (fun _ => ?_) (fun _ => ?_)
    · refine gk_iconst (pc := 160) (4 : Int32) d_M_wantText_160 rfl ?_
      refine gk_goto (pc := 161) 165 d_M_wantText_161 rfl ?_
      refine gk_weak [0, 1] (L' := [(0, va_rf v0), (2, .int v2)]) rfl ?_
      exact p_M_wantText_b165 d v0 v2 (4 : Int32) h
    · refine gk_iconst (pc := 164) (5 : Int32) d_M_wantText_164 rfl ?_
      refine gk_weak [0, 1] (L' := [(0, va_rf v0), (2, .int v2)]) rfl ?_
      exact p_M_wantText_b165 d v0 v2 (5 : Int32) h
  · refine gk_weak [] (L' := []) rfl ?_
    exact p_M_wantText_b195 d h
theorem p_M_wantText_b96 (d : Nat)  : ∀ (fu : Nat) (v0 : Option Nat) (v2 : Int32) (v3 : Int32) (v4 : Int32) (h : gk_H), gk_P gw_V (d + 3) y_M_wantText b_M_wantText 6 none [] (f_M_wantText_b96  fu v0 v2 v3 v4 h) 96 [(0, va_rf v0), (2, .int v2), (3, .int v3), (4, .int v4)] [] h := by
  intro fu
  induction fu with
  | zero => intros; exact gk_none
  | succ fu q96 =>
    intro v0 v2 v3 v4 h
    rw [f_M_wantText_b96]
    refine gk_iload (pc := 96) 3 d_M_wantText_96 rfl ?_
    refine gk_aload_n (pc := 98) 0 d_M_wantText_98 rfl ?_
    refine gk_getR (pc := 99) 7 9 d_M_wantText_99 rfl (Nat.le_of_ble_eq_true rfl) tw_1654 fun x1 => ?_
    refine gk_iload_n (pc := 102) 2 d_M_wantText_102 rfl ?_
    refine gk_iald (pc := 103) d_M_wantText_103 fun x2 => ?_
    refine gk_icmp_ge (pc := 104) 139 d_M_wantText_104 rfl (fun _ => ?_) (fun _ => ?_)
    · refine gk_weak [0, 1, 2] (L' := [(0, va_rf v0), (2, .int v2), (3, .int v3)]) rfl ?_
      exact p_M_wantText_b139 d v0 v2 v3 h
    · refine gk_aload_n (pc := 107) 0 d_M_wantText_107 rfl ?_
      refine gk_getR (pc := 108) 7 15 d_M_wantText_108 rfl (Nat.le_of_ble_eq_true rfl) tw_1660 fun x3 => ?_
      refine gk_sipush (pc := 111) (256 : Int32) d_M_wantText_111 rfl ?_
      refine gk_iload_n (pc := 114) 1 d_M_wantText_114 rfl ?_
      refine gk_imul (pc := 115) d_M_wantText_115 ?_
      refine gk_iload (pc := 116) 3 d_M_wantText_116 rfl ?_
      refine gk_iadd (pc := 118) d_M_wantText_118 ?_
      refine gk_aload_n (pc := 119) 0 d_M_wantText_119 rfl ?_
      refine gk_getR (pc := 120) 7 10 d_M_wantText_120 rfl (Nat.le_of_ble_eq_true rfl) tw_1655 fun x4 => ?_
      refine gk_sipush (pc := 123) (256 : Int32) d_M_wantText_123 rfl ?_
      refine gk_iload_n (pc := 126) 2 d_M_wantText_126 rfl ?_
      refine gk_imul (pc := 127) d_M_wantText_127 ?_
      refine gk_iload (pc := 128) 3 d_M_wantText_128 rfl ?_
      refine gk_iadd (pc := 130) d_M_wantText_130 ?_
      refine gk_bald (pc := 131) d_M_wantText_131 fun x5 => ?_
      refine gk_bast (pc := 132) d_M_wantText_132 fun h1 => ?_
      refine gk_iincN (pc := 133) 3 (1 : Int32) (L' := fun x6 => [(4, .int x6), (0, va_rf v0), (2, .int v2), (3, .int v3)]) d_M_wantText_133 rfl rfl (Nat.le_of_ble_eq_true rfl) (fun _ => rfl) fun x6 => ?_
      refine gk_goto (pc := 136) 96 d_M_wantText_136 rfl ?_
      refine gk_weak [1, 2, 3, 0] (L' := [(0, va_rf v0), (2, .int v2), (3, .int v3), (4, .int x6)]) rfl ?_
      exact q96 v0 v2 v3 x6 h1
theorem p_M_wantText_b71 (d : Nat)  (v0 : Option Nat) (v2 : Int32) (v3 : Int32) (h : gk_H) : gk_P gw_V (d + 3) y_M_wantText b_M_wantText 6 none [] (f_M_wantText_b71  v0 v2 v3 h) 71 [(0, va_rf v0), (2, .int v2), (3, .int v3)] [] h := by
  unfold f_M_wantText_b71
  refine gk_aload_n (pc := 71) 0 d_M_wantText_71 rfl ?_
  refine gk_getR (pc := 72) 7 7 d_M_wantText_72 rfl (Nat.le_of_ble_eq_true rfl) tw_1652 fun x1 => ?_
  refine gk_iload_n (pc := 75) 2 d_M_wantText_75 rfl ?_
  refine gk_iald (pc := 76) d_M_wantText_76 fun x2 => ?_
  refine gk_iconst (pc := 77) (2 : Int32) d_M_wantText_77 rfl ?_
  refine gk_icmp_ne (pc := 78) 139 d_M_wantText_78 rfl (fun _ => ?_) (fun _ => ?_)
  · refine gk_aload_n (pc := 81) 0 d_M_wantText_81 rfl ?_
    refine gk_getR (pc := 82) 7 14 d_M_wantText_82 rfl (Nat.le_of_ble_eq_true rfl) tw_1659 fun x3 => ?_
    refine gk_iload_n (pc := 85) 1 d_M_wantText_85 rfl ?_
    refine gk_aload_n (pc := 86) 0 d_M_wantText_86 rfl ?_
    refine gk_getR (pc := 87) 7 9 d_M_wantText_87 rfl (Nat.le_of_ble_eq_true rfl) tw_1654 fun x4 => ?_
    refine gk_iload_n (pc := 90) 2 d_M_wantText_90 rfl ?_
    refine gk_iald (pc := 91) d_M_wantText_91 fun x5 => ?_
    refine gk_iast (pc := 92) d_M_wantText_92 fun h1 => ?_
    refine gk_iconst (pc := 93) (0 : Int32) d_M_wantText_93 rfl ?_
    refine gk_istore (pc := 94) (L' := [(4, .int (0 : Int32)), (0, va_rf v0), (2, .int v2), (3, .int v3)]) d_M_wantText_94 (Nat.le_of_ble_eq_true rfl) rfl ?_
    refine gk_weak [1, 2, 3, 0] (L' := [(0, va_rf v0), (2, .int v2), (3, .int v3), (4, .int (0 : Int32))]) rfl ?_
    exact p_M_wantText_b96 d gk_F v0 v2 v3 (0 : Int32) h1
  · exact p_M_wantText_b139 d v0 v2 v3 h
theorem p_M_wantText_b50 (d : Nat)  (v0 : Option Nat) (v2 : Int32) (v3 : Int32) (h : gk_H) : gk_P gw_V (d + 3) y_M_wantText b_M_wantText 6 none [] (f_M_wantText_b50  v0 v2 v3 h) 50 [(0, va_rf v0), (2, .int v2), (3, .int v3)] [] h := by
  unfold f_M_wantText_b50
  refine gk_aload_n (pc := 50) 0 d_M_wantText_50 rfl ?_
  refine gk_getR (pc := 51) 7 7 d_M_wantText_51 rfl (Nat.le_of_ble_eq_true rfl) tw_1652 fun x1 => ?_
  refine gk_iload_n (pc := 54) 2 d_M_wantText_54 rfl ?_
  refine gk_iald (pc := 55) d_M_wantText_55 fun x2 => ?_
  refine gk_iconst (pc := 56) (1 : Int32) d_M_wantText_56 rfl ?_
  refine gk_icmp_ne (pc := 57) 71 d_M_wantText_57 rfl (fun _ => ?_) (fun _ => ?_)
  · refine gk_aload_n (pc := 60) 0 d_M_wantText_60 rfl ?_
    refine gk_iload_n (pc := 61) 1 d_M_wantText_61 rfl ?_
    refine gk_aload_n (pc := 62) 0 d_M_wantText_62 rfl ?_
    refine gk_getR (pc := 63) 7 8 d_M_wantText_63 rfl (Nat.le_of_ble_eq_true rfl) tw_1653 fun x3 => ?_
    refine gk_iload_n (pc := 66) 2 d_M_wantText_66 rfl ?_
    refine gk_dald (pc := 67) d_M_wantText_67 fun x4 => ?_
    refine gk_callV (pc := 68) (d := (d + 2)) (w' := gv_V) (as := [.int v2, .double x4]) (n := 2) 7 d_M_wantText_68 rfl rfl rfl rfl (Nat.le_of_ble_eq_true rfl) tw_1834 tw_1836 tw_26 tw_99 cw_M_write hy_M_write (Nat.le_of_ble_eq_true rfl) (p_M_write d v0 v2 x4 h) fun _ h1 => ?_
    exact p_M_wantText_b71 d v0 v2 v3 h1
  · exact p_M_wantText_b71 d v0 v2 v3 h
theorem w_M_wantText (d : Nat) (a0 : Option Nat) (a1 : Int32) (a2 : Int32) (h : gk_H) : gk_P gw_V (d + 3) y_M_wantText b_M_wantText 6 none [] (f_M_wantText a0 a1 a2 h) 0 [(0, va_rf a0), (1, .int a1), (2, .int a2)] [] h := by
  unfold f_M_wantText
  refine gk_aload_n (pc := 0) 0 d_M_wantText_0 rfl ?_
  refine gk_getR (pc := 1) 7 14 d_M_wantText_1 rfl (Nat.le_of_ble_eq_true rfl) tw_1659 fun x1 => ?_
  refine gk_iload_n (pc := 4) 2 d_M_wantText_4 rfl ?_
  refine gk_iconst (pc := 5) (0 : Int32) d_M_wantText_5 rfl ?_
  refine gk_iast (pc := 6) d_M_wantText_6 fun h1 => ?_
  refine gk_aload_n (pc := 7) 0 d_M_wantText_7 rfl ?_
  refine gk_getI (pc := 8) 7 11 d_M_wantText_8 rfl (Nat.le_of_ble_eq_true rfl) tw_1656 fun x2 => ?_
  refine gk_if_le (pc := 11) 15 d_M_wantText_11 rfl (fun _ => ?_) (fun _ => ?_)
  · refine gk_aload_n (pc := 15) 0 d_M_wantText_15 rfl ?_
    refine gk_iload_n (pc := 16) 1 d_M_wantText_16 rfl ?_
    refine gk_callV (pc := 17) (d := (d + 2)) (w' := gv_I) (as := [.int a1]) (n := 1) 7 d_M_wantText_17 rfl rfl rfl rfl (Nat.le_of_ble_eq_true rfl) tw_1801 tw_1803 tw_20 tw_99 cw_M_single hy_M_single (Nat.le_of_ble_eq_true rfl) (p_M_single (d + 1) a0 a1 h1) fun x3 h2 => ?_
    refine gk_istore_n (pc := 20) (L' := [(3, .int x3), (0, va_rf a0), (1, .int a1), (2, .int a2)]) d_M_wantText_20 (Nat.le_of_ble_eq_true rfl) rfl ?_
    refine gk_aload_n (pc := 21) 1 d_M_wantText_21 rfl ?_
    refine gk_getI (pc := 22) 7 11 d_M_wantText_22 rfl (Nat.le_of_ble_eq_true rfl) tw_1656 fun x4 => ?_
    refine gk_if_le (pc := 25) 29 d_M_wantText_25 rfl (fun _ => ?_) (fun _ => ?_)
    · refine gk_aload_n (pc := 29) 1 d_M_wantText_29 rfl ?_
      refine gk_getR (pc := 30) 7 7 d_M_wantText_30 rfl (Nat.le_of_ble_eq_true rfl) tw_1652 fun x5 => ?_
      refine gk_iload_n (pc := 33) 0 d_M_wantText_33 rfl ?_
      refine gk_iald (pc := 34) d_M_wantText_34 fun x6 => ?_
      refine gk_iconst (pc := 35) (4 : Int32) d_M_wantText_35 rfl ?_
      refine gk_icmp_ne (pc := 36) 50 d_M_wantText_36 rfl (fun _ => ?_) (fun _ => ?_)
      · refine gk_aload_n (pc := 39) 1 d_M_wantText_39 rfl ?_
        refine gk_aload_n (pc := 40) 1 d_M_wantText_40 rfl ?_
        refine gk_getR (pc := 41) 7 8 d_M_wantText_41 rfl (Nat.le_of_ble_eq_true rfl) tw_1653 fun x7 => ?_
        refine gk_iload_n (pc := 44) 0 d_M_wantText_44 rfl ?_
        refine gk_dald (pc := 45) d_M_wantText_45 fun x8 => ?_
        refine gk_d2i (pc := 46) d_M_wantText_46 ?_
        refine gk_callV (pc := 47) (d := (d + 2)) (w' := gv_V) (as := [.int (FP.d2i x8)]) (n := 1) 7 d_M_wantText_47 rfl rfl rfl rfl (Nat.le_of_ble_eq_true rfl) tw_1805 tw_1807 tw_21 tw_99 cw_M_fail hy_M_fail (Nat.le_of_ble_eq_true rfl) (p_M_fail (d + 2) a0 (FP.d2i x8) h2) fun _ h3 => ?_
        refine gk_weak [1, 3, 0] (L' := [(0, va_rf a0), (2, .int a2), (3, .int x3)]) rfl ?_
        exact p_M_wantText_b50 d a0 a2 x3 h3
      · refine gk_weak [1, 3, 0] (L' := [(0, va_rf a0), (2, .int a2), (3, .int x3)]) rfl ?_
        exact p_M_wantText_b50 d a0 a2 x3 h2
    · exact gk_vret (pc := 28) rfl d_M_wantText_28 rfl
  · exact gk_vret (pc := 14) rfl d_M_wantText_14 rfl
theorem p_M_wantText (d : Nat) (a0 : Option Nat) (a1 : Int32) (a2 : Int32) (h : gk_H) : ∀ r h1, f_M_wantText a0 a1 a2 h = some (r, h1) → gk_M (d + 3) y_M_wantText b_M_wantText 6 none [va_rf a0, .int a1, .int a2] h (.inl (gv_V r)) h1 :=
  fun r h1 e => gk_M_of2 (by decide +kernel) (by simp [lv_args, gk_cat_rf, gk_catI, gk_catJ, gk_catD, gv_V, gv_I, gv_J, gv_D, gv_R]) (by simp [lg_sl, gk_cat_rf, gk_catI, gk_catJ, gk_catD, gv_V, gv_I, gv_J, gv_D, gv_R]) (w_M_wantText d a0 a1 a2 h r h1 e)
theorem d_M_add_0 : decode b_M_add 0 = .ok (.aload_n 0, 1) := by decide +kernel
theorem d_M_add_1 : decode b_M_add 1 = .ok (.getfield 30, 3) := by decide +kernel
theorem d_M_add_4 : decode b_M_add 4 = .ok (.sipush 256, 3) := by decide +kernel
theorem d_M_add_7 : decode b_M_add 7 = .ok (.iaload, 1) := by decide +kernel
theorem d_M_add_8 : decode b_M_add 8 = .ok (.istore_n 2, 1) := by decide +kernel
theorem d_M_add_9 : decode b_M_add 9 = .ok (.iload_n 2, 1) := by decide +kernel
theorem d_M_add_10 : decode b_M_add 10 = .ok (.sipush 255, 3) := by decide +kernel
theorem d_M_add_13 : decode b_M_add 13 = .ok (.if_icmp .ne 9, 3) := by decide +kernel
theorem d_M_add_16 : decode b_M_add 16 = .ok (.aload_n 0, 1) := by decide +kernel
theorem d_M_add_17 : decode b_M_add 17 = .ok (.iconst 3, 1) := by decide +kernel
theorem d_M_add_18 : decode b_M_add 18 = .ok (.invokevirtual 58, 3) := by decide +kernel
theorem d_M_add_21 : decode b_M_add 21 = .ok (.return_, 1) := by decide +kernel
theorem d_M_add_22 : decode b_M_add 22 = .ok (.aload_n 0, 1) := by decide +kernel
theorem d_M_add_23 : decode b_M_add 23 = .ok (.getfield 34, 3) := by decide +kernel
theorem d_M_add_26 : decode b_M_add 26 = .ok (.ldc 174, 2) := by decide +kernel
theorem d_M_add_28 : decode b_M_add 28 = .ok (.iload_n 2, 1) := by decide +kernel
theorem d_M_add_29 : decode b_M_add 29 = .ok (.iadd, 1) := by decide +kernel
theorem d_M_add_30 : decode b_M_add 30 = .ok (.iload_n 1, 1) := by decide +kernel
theorem d_M_add_31 : decode b_M_add 31 = .ok (.i2b, 1) := by decide +kernel
theorem d_M_add_32 : decode b_M_add 32 = .ok (.bastore, 1) := by decide +kernel
theorem d_M_add_33 : decode b_M_add 33 = .ok (.aload_n 0, 1) := by decide +kernel
theorem d_M_add_34 : decode b_M_add 34 = .ok (.getfield 30, 3) := by decide +kernel
theorem d_M_add_37 : decode b_M_add 37 = .ok (.sipush 256, 3) := by decide +kernel
theorem d_M_add_40 : decode b_M_add 40 = .ok (.iload_n 2, 1) := by decide +kernel
theorem d_M_add_41 : decode b_M_add 41 = .ok (.iconst 1, 1) := by decide +kernel
theorem d_M_add_42 : decode b_M_add 42 = .ok (.iadd, 1) := by decide +kernel
theorem d_M_add_43 : decode b_M_add 43 = .ok (.iastore, 1) := by decide +kernel
theorem d_M_add_44 : decode b_M_add 44 = .ok (.return_, 1) := by decide +kernel
theorem w_M_add (d : Nat) (a0 : Option Nat) (a1 : Int32) (h : gk_H) : gk_P gw_V (d + 1) y_M_add b_M_add 3 none [] (f_M_add a0 a1 h) 0 [(0, va_rf a0), (1, .int a1)] [] h := by
  unfold f_M_add
  refine gk_aload_n (pc := 0) 0 d_M_add_0 rfl ?_
  refine gk_getR (pc := 1) 7 9 d_M_add_1 rfl (Nat.le_of_ble_eq_true rfl) tw_1654 fun x1 => ?_
  refine gk_sipush (pc := 4) (256 : Int32) d_M_add_4 rfl ?_
  refine gk_iald (pc := 7) d_M_add_7 fun x2 => ?_
  refine gk_istore_n (pc := 8) (L' := [(2, .int x2), (0, va_rf a0), (1, .int a1)]) d_M_add_8 (Nat.le_of_ble_eq_true rfl) rfl ?_
  refine gk_iload_n (pc := 9) 0 d_M_add_9 rfl ?_
  refine gk_sipush (pc := 10) (255 : Int32) d_M_add_10 rfl ?_
  refine gk_icmp_ne (pc := 13) 22 d_M_add_13 rfl (fun _ => ?_) (fun _ => ?_)
  · refine gk_aload_n (pc := 16) 1 d_M_add_16 rfl ?_
    refine gk_iconst (pc := 17) (3 : Int32) d_M_add_17 rfl ?_
    refine gk_callV (pc := 18) (d := d) (w' := gv_V) (as := [.int (3 : Int32)]) (n := 1) 7 d_M_add_18 rfl rfl rfl rfl (Nat.le_of_ble_eq_true rfl) tw_1805 tw_1807 tw_21 tw_99 cw_M_fail hy_M_fail (Nat.le_of_ble_eq_true rfl) (p_M_fail d a0 (3 : Int32) h) fun _ h1 => ?_
    exact gk_vret (pc := 21) rfl d_M_add_21 rfl
  · refine gk_aload_n (pc := 22) 1 d_M_add_22 rfl ?_
    refine gk_getR (pc := 23) 7 10 d_M_add_23 rfl (Nat.le_of_ble_eq_true rfl) tw_1655 fun x3 => ?_
    refine gk_ldc (pc := 26) tw_1867 d_M_add_26 ?_
    refine gk_iload_n (pc := 28) 0 d_M_add_28 rfl ?_
    refine gk_iadd (pc := 29) d_M_add_29 ?_
    refine gk_iload_n (pc := 30) 2 d_M_add_30 rfl ?_
    refine gk_i2b (pc := 31) d_M_add_31 ?_
    refine gk_bast (pc := 32) d_M_add_32 fun h2 => ?_
    refine gk_aload_n (pc := 33) 1 d_M_add_33 rfl ?_
    refine gk_getR (pc := 34) 7 9 d_M_add_34 rfl (Nat.le_of_ble_eq_true rfl) tw_1654 fun x4 => ?_
    refine gk_sipush (pc := 37) (256 : Int32) d_M_add_37 rfl ?_
    refine gk_iload_n (pc := 40) 0 d_M_add_40 rfl ?_
    refine gk_iconst (pc := 41) (1 : Int32) d_M_add_41 rfl ?_
    refine gk_iadd (pc := 42) d_M_add_42 ?_
    refine gk_iast (pc := 43) d_M_add_43 fun h3 => ?_
    exact gk_vret (pc := 44) rfl d_M_add_44 rfl
theorem p_M_add (d : Nat) (a0 : Option Nat) (a1 : Int32) (h : gk_H) : ∀ r h1, f_M_add a0 a1 h = some (r, h1) → gk_M (d + 1) y_M_add b_M_add 3 none [va_rf a0, .int a1] h (.inl (gv_V r)) h1 :=
  fun r h1 e => gk_M_of2 (by decide +kernel) (by simp [lv_args, gk_cat_rf, gk_catI, gk_catJ, gk_catD, gv_V, gv_I, gv_J, gv_D, gv_R]) (by simp [lg_sl, gk_cat_rf, gk_catI, gk_catJ, gk_catD, gv_V, gv_I, gv_J, gv_D, gv_R]) (w_M_add d a0 a1 h r h1 e)
theorem d_M_join_0 : decode b_M_join 0 = .ok (.iconst 0, 1) := by decide +kernel
theorem d_M_join_1 : decode b_M_join 1 = .ok (.istore_n 2, 1) := by decide +kernel
theorem d_M_join_2 : decode b_M_join 2 = .ok (.iconst 0, 1) := by decide +kernel
theorem d_M_join_3 : decode b_M_join 3 = .ok (.istore_n 3, 1) := by decide +kernel
theorem d_M_join_4 : decode b_M_join 4 = .ok (.iload_n 3, 1) := by decide +kernel
theorem d_M_join_5 : decode b_M_join 5 = .ok (.iload_n 1, 1) := by decide +kernel
theorem d_M_join_6 : decode b_M_join 6 = .ok (.if_icmp .ge 18, 3) := by decide +kernel
theorem d_M_join_9 : decode b_M_join 9 = .ok (.iload_n 2, 1) := by decide +kernel
theorem d_M_join_10 : decode b_M_join 10 = .ok (.aload_n 0, 1) := by decide +kernel
theorem d_M_join_11 : decode b_M_join 11 = .ok (.getfield 40, 3) := by decide +kernel
theorem d_M_join_14 : decode b_M_join 14 = .ok (.iload_n 3, 1) := by decide +kernel
theorem d_M_join_15 : decode b_M_join 15 = .ok (.iaload, 1) := by decide +kernel
theorem d_M_join_16 : decode b_M_join 16 = .ok (.iadd, 1) := by decide +kernel
theorem d_M_join_17 : decode b_M_join 17 = .ok (.istore_n 2, 1) := by decide +kernel
theorem d_M_join_18 : decode b_M_join 18 = .ok (.iinc 3 1, 3) := by decide +kernel
theorem d_M_join_21 : decode b_M_join 21 = .ok (.goto (-17), 3) := by decide +kernel
theorem d_M_join_24 : decode b_M_join 24 = .ok (.aload_n 0, 1) := by decide +kernel
theorem d_M_join_25 : decode b_M_join 25 = .ok (.getfield 62, 3) := by decide +kernel
theorem d_M_join_28 : decode b_M_join 28 = .ok (.ifCond .ne 15, 3) := by decide +kernel
theorem d_M_join_31 : decode b_M_join 31 = .ok (.iload_n 2, 1) := by decide +kernel
theorem d_M_join_32 : decode b_M_join 32 = .ok (.sipush 255, 3) := by decide +kernel
theorem d_M_join_35 : decode b_M_join 35 = .ok (.if_icmp .le 8, 3) := by decide +kernel
theorem d_M_join_38 : decode b_M_join 38 = .ok (.aload_n 0, 1) := by decide +kernel
theorem d_M_join_39 : decode b_M_join 39 = .ok (.iconst 3, 1) := by decide +kernel
theorem d_M_join_40 : decode b_M_join 40 = .ok (.invokevirtual 58, 3) := by decide +kernel
theorem d_M_join_43 : decode b_M_join 43 = .ok (.aload_n 0, 1) := by decide +kernel
theorem d_M_join_44 : decode b_M_join 44 = .ok (.getfield 62, 3) := by decide +kernel
theorem d_M_join_47 : decode b_M_join 47 = .ok (.ifCond .le 4, 3) := by decide +kernel
theorem d_M_join_50 : decode b_M_join 50 = .ok (.return_, 1) := by decide +kernel
theorem d_M_join_51 : decode b_M_join 51 = .ok (.aload_n 0, 1) := by decide +kernel
theorem d_M_join_52 : decode b_M_join 52 = .ok (.bipush 16, 2) := by decide +kernel
theorem d_M_join_54 : decode b_M_join 54 = .ok (.iconst 2, 1) := by decide +kernel
theorem d_M_join_55 : decode b_M_join 55 = .ok (.dconst 0, 1) := by decide +kernel
theorem d_M_join_56 : decode b_M_join 56 = .ok (.invokevirtual 76, 3) := by decide +kernel
theorem d_M_join_59 : decode b_M_join 59 = .ok (.iconst 0, 1) := by decide +kernel
theorem d_M_join_60 : decode b_M_join 60 = .ok (.istore_n 3, 1) := by decide +kernel
theorem d_M_join_61 : decode b_M_join 61 = .ok (.iload_n 3, 1) := by decide +kernel
theorem d_M_join_62 : decode b_M_join 62 = .ok (.iload_n 1, 1) := by decide +kernel
theorem d_M_join_63 : decode b_M_join 63 = .ok (.if_icmp .ge 46, 3) := by decide +kernel
theorem d_M_join_66 : decode b_M_join 66 = .ok (.iconst 0, 1) := by decide +kernel
theorem d_M_join_67 : decode b_M_join 67 = .ok (.istore 4, 2) := by decide +kernel
theorem d_M_join_69 : decode b_M_join 69 = .ok (.iload 4, 2) := by decide +kernel
theorem d_M_join_71 : decode b_M_join 71 = .ok (.aload_n 0, 1) := by decide +kernel
theorem d_M_join_72 : decode b_M_join 72 = .ok (.getfield 40, 3) := by decide +kernel
theorem d_M_join_75 : decode b_M_join 75 = .ok (.iload_n 3, 1) := by decide +kernel
theorem d_M_join_76 : decode b_M_join 76 = .ok (.iaload, 1) := by decide +kernel
theorem d_M_join_77 : decode b_M_join 77 = .ok (.if_icmp .ge 26, 3) := by decide +kernel
theorem d_M_join_80 : decode b_M_join 80 = .ok (.aload_n 0, 1) := by decide +kernel
theorem d_M_join_81 : decode b_M_join 81 = .ok (.aload_n 0, 1) := by decide +kernel
theorem d_M_join_82 : decode b_M_join 82 = .ok (.getfield 43, 3) := by decide +kernel
theorem d_M_join_85 : decode b_M_join 85 = .ok (.sipush 256, 3) := by decide +kernel
theorem d_M_join_88 : decode b_M_join 88 = .ok (.iload_n 3, 1) := by decide +kernel
theorem d_M_join_89 : decode b_M_join 89 = .ok (.imul, 1) := by decide +kernel
theorem d_M_join_90 : decode b_M_join 90 = .ok (.iload 4, 2) := by decide +kernel
theorem d_M_join_92 : decode b_M_join 92 = .ok (.iadd, 1) := by decide +kernel
theorem d_M_join_93 : decode b_M_join 93 = .ok (.baload, 1) := by decide +kernel
theorem d_M_join_94 : decode b_M_join 94 = .ok (.invokevirtual 224, 3) := by decide +kernel
theorem d_M_join_97 : decode b_M_join 97 = .ok (.iinc 4 1, 3) := by decide +kernel
theorem d_M_join_100 : decode b_M_join 100 = .ok (.goto (-31), 3) := by decide +kernel
theorem d_M_join_103 : decode b_M_join 103 = .ok (.iinc 3 1, 3) := by decide +kernel
theorem d_M_join_106 : decode b_M_join 106 = .ok (.goto (-45), 3) := by decide +kernel
theorem d_M_join_109 : decode b_M_join 109 = .ok (.return_, 1) := by decide +kernel
theorem p_M_join_b69 (d : Nat) (b61 : Option Nat → Int32 → Int32 → gk_H → Option (Unit × gk_H)) (q61 : ∀ (v0 : Option Nat) (v1 : Int32) (v3 : Int32) (h : gk_H), gk_P gw_V (d + 2) y_M_join b_M_join 5 none [] (b61 v0 v1 v3 h) 61 [(0, va_rf v0), (1, .int v1), (3, .int v3)] [] h) : ∀ (fu : Nat) (v0 : Option Nat) (v1 : Int32) (v3 : Int32) (v4 : Int32) (h : gk_H), gk_P gw_V (d + 2) y_M_join b_M_join 5 none [] (f_M_join_b69 b61 fu v0 v1 v3 v4 h) 69 [(0, va_rf v0), (1, .int v1), (3, .int v3), (4, .int v4)] [] h := by
  intro fu
  induction fu with
  | zero => intros; exact gk_none
  | succ fu q69 =>
    intro v0 v1 v3 v4 h
    rw [f_M_join_b69]
    refine gk_iload (pc := 69) 3 d_M_join_69 rfl ?_
    refine gk_aload_n (pc := 71) 0 d_M_join_71 rfl ?_
    refine gk_getR (pc := 72) 7 14 d_M_join_72 rfl (Nat.le_of_ble_eq_true rfl) tw_1659 fun x1 => ?_
    refine gk_iload_n (pc := 75) 2 d_M_join_75 rfl ?_
    refine gk_iald (pc := 76) d_M_join_76 fun x2 => ?_
    refine gk_icmp_ge (pc := 77) 103 d_M_join_77 rfl (fun _ => ?_) (fun _ => ?_)
    · refine gk_iincN (pc := 103) 2 (1 : Int32) (L' := fun x3 => [(3, .int x3), (0, va_rf v0), (1, .int v1), (4, .int v4)]) d_M_join_103 rfl rfl (Nat.le_of_ble_eq_true rfl) (fun _ => rfl) fun x3 => ?_
      refine gk_goto (pc := 106) 61 d_M_join_106 rfl ?_
      refine gk_weak [1, 2, 0] (L' := [(0, va_rf v0), (1, .int v1), (3, .int x3)]) rfl ?_
      exact q61 v0 v1 x3 h
    · refine gk_aload_n (pc := 80) 0 d_M_join_80 rfl ?_
      refine gk_aload_n (pc := 81) 0 d_M_join_81 rfl ?_
      refine gk_getR (pc := 82) 7 15 d_M_join_82 rfl (Nat.le_of_ble_eq_true rfl) tw_1660 fun x4 => ?_
      refine gk_sipush (pc := 85) (256 : Int32) d_M_join_85 rfl ?_
      refine gk_iload_n (pc := 88) 2 d_M_join_88 rfl ?_
      refine gk_imul (pc := 89) d_M_join_89 ?_
      refine gk_iload (pc := 90) 3 d_M_join_90 rfl ?_
      refine gk_iadd (pc := 92) d_M_join_92 ?_
      refine gk_bald (pc := 93) d_M_join_93 fun x5 => ?_
      refine gk_callV (pc := 94) (d := (d + 1)) (w' := gv_V) (as := [.int x5]) (n := 1) 7 d_M_join_94 rfl rfl rfl rfl (Nat.le_of_ble_eq_true rfl) tw_1863 tw_1865 tw_30 tw_99 cw_M_add hy_M_add (Nat.le_of_ble_eq_true rfl) (p_M_add d v0 x5 h) fun _ h1 => ?_
      refine gk_iincN (pc := 97) 3 (1 : Int32) (L' := fun x6 => [(4, .int x6), (0, va_rf v0), (1, .int v1), (3, .int v3)]) d_M_join_97 rfl rfl (Nat.le_of_ble_eq_true rfl) (fun _ => rfl) fun x6 => ?_
      refine gk_goto (pc := 100) 69 d_M_join_100 rfl ?_
      refine gk_weak [1, 2, 3, 0] (L' := [(0, va_rf v0), (1, .int v1), (3, .int v3), (4, .int x6)]) rfl ?_
      exact q69 v0 v1 v3 x6 h1
theorem p_M_join_b61 (d : Nat)  : ∀ (fu : Nat) (v0 : Option Nat) (v1 : Int32) (v3 : Int32) (h : gk_H), gk_P gw_V (d + 2) y_M_join b_M_join 5 none [] (f_M_join_b61  fu v0 v1 v3 h) 61 [(0, va_rf v0), (1, .int v1), (3, .int v3)] [] h := by
  intro fu
  induction fu with
  | zero => intros; exact gk_none
  | succ fu q61 =>
    intro v0 v1 v3 h
    rw [f_M_join_b61]
    refine gk_iload_n (pc := 61) 2 d_M_join_61 rfl ?_
    refine gk_iload_n (pc := 62) 1 d_M_join_62 rfl ?_
    refine gk_icmp_ge (pc := 63) 109 d_M_join_63 rfl (fun _ => ?_) (fun _ => ?_)
    · exact gk_vret (pc := 109) rfl d_M_join_109 rfl
    · refine gk_iconst (pc := 66) (0 : Int32) d_M_join_66 rfl ?_
      refine gk_istore (pc := 67) (L' := [(4, .int (0 : Int32)), (0, va_rf v0), (1, .int v1), (3, .int v3)]) d_M_join_67 (Nat.le_of_ble_eq_true rfl) rfl ?_
      refine gk_weak [1, 2, 3, 0] (L' := [(0, va_rf v0), (1, .int v1), (3, .int v3), (4, .int (0 : Int32))]) rfl ?_
      exact p_M_join_b69 d (f_M_join_b61 fu) q61 gk_F v0 v1 v3 (0 : Int32) h
theorem p_M_join_b43 (d : Nat)  (v0 : Option Nat) (v1 : Int32) (h : gk_H) : gk_P gw_V (d + 2) y_M_join b_M_join 5 none [] (f_M_join_b43  v0 v1 h) 43 [(0, va_rf v0), (1, .int v1)] [] h := by
  unfold f_M_join_b43
  refine gk_aload_n (pc := 43) 0 d_M_join_43 rfl ?_
  refine gk_getI (pc := 44) 7 11 d_M_join_44 rfl (Nat.le_of_ble_eq_true rfl) tw_1656 fun x1 => ?_
  refine gk_if_le (pc := 47) 51 d_M_join_47 rfl (fun _ => ?_) (fun _ => ?_)
  · refine gk_aload_n (pc := 51) 0 d_M_join_51 rfl ?_
    refine gk_bipush (pc := 52) (16 : Int32) d_M_join_52 rfl ?_
    refine gk_iconst (pc := 54) (2 : Int32) d_M_join_54 rfl ?_
    refine gk_dconst0 (pc := 55) d_M_join_55 ?_
    refine gk_callV (pc := 56) (d := (d + 1)) (w' := gv_V) (as := [.int (16 : Int32), .int (2 : Int32), .double (0x0000000000000000)]) (n := 3) 7 d_M_join_56 rfl rfl rfl rfl (Nat.le_of_ble_eq_true rfl) tw_1733 tw_1735 tw_15 tw_99 cw_M_setSingle hy_M_setSingle (Nat.le_of_ble_eq_true rfl) (p_M_setSingle (d + 1) v0 (16 : Int32) (2 : Int32) (0x0000000000000000) h) fun _ h1 => ?_
    refine gk_iconst (pc := 59) (0 : Int32) d_M_join_59 rfl ?_
    refine gk_istore_n (pc := 60) (L' := [(3, .int (0 : Int32)), (0, va_rf v0), (1, .int v1)]) d_M_join_60 (Nat.le_of_ble_eq_true rfl) rfl ?_
    refine gk_weak [1, 2, 0] (L' := [(0, va_rf v0), (1, .int v1), (3, .int (0 : Int32))]) rfl ?_
    exact p_M_join_b61 d gk_F v0 v1 (0 : Int32) h1
  · exact gk_vret (pc := 50) rfl d_M_join_50 rfl
theorem p_M_join_b4 (d : Nat)  : ∀ (fu : Nat) (v0 : Option Nat) (v1 : Int32) (v2 : Int32) (v3 : Int32) (h : gk_H), gk_P gw_V (d + 2) y_M_join b_M_join 5 none [] (f_M_join_b4  fu v0 v1 v2 v3 h) 4 [(0, va_rf v0), (1, .int v1), (2, .int v2), (3, .int v3)] [] h := by
  intro fu
  induction fu with
  | zero => intros; exact gk_none
  | succ fu q4 =>
    intro v0 v1 v2 v3 h
    rw [f_M_join_b4]
    refine gk_iload_n (pc := 4) 3 d_M_join_4 rfl ?_
    refine gk_iload_n (pc := 5) 1 d_M_join_5 rfl ?_
    refine gk_icmp_ge (pc := 6) 24 d_M_join_6 rfl (fun _ => ?_) (fun _ => ?_)
    · refine gk_aload_n (pc := 24) 0 d_M_join_24 rfl ?_
      refine gk_getI (pc := 25) 7 11 d_M_join_25 rfl (Nat.le_of_ble_eq_true rfl) tw_1656 fun x1 => ?_
      refine gk_if_ne (pc := 28) 43 d_M_join_28 rfl (fun _ => ?_) (fun _ => ?_)
      · refine gk_iload_n (pc := 31) 2 d_M_join_31 rfl ?_
        refine gk_sipush (pc := 32) (255 : Int32) d_M_join_32 rfl ?_
        refine gk_icmp_le (pc := 35) 43 d_M_join_35 rfl (fun _ => ?_) (fun _ => ?_)
        · refine gk_weak [0, 1] (L' := [(0, va_rf v0), (1, .int v1)]) rfl ?_
          exact p_M_join_b43 d v0 v1 h
        · refine gk_aload_n (pc := 38) 0 d_M_join_38 rfl ?_
          refine gk_iconst (pc := 39) (3 : Int32) d_M_join_39 rfl ?_
          refine gk_callV (pc := 40) (d := (d + 1)) (w' := gv_V) (as := [.int (3 : Int32)]) (n := 1) 7 d_M_join_40 rfl rfl rfl rfl (Nat.le_of_ble_eq_true rfl) tw_1805 tw_1807 tw_21 tw_99 cw_M_fail hy_M_fail (Nat.le_of_ble_eq_true rfl) (p_M_fail (d + 1) v0 (3 : Int32) h) fun _ h1 => ?_
          refine gk_weak [0, 1] (L' := [(0, va_rf v0), (1, .int v1)]) rfl ?_
          exact p_M_join_b43 d v0 v1 h1
      · refine gk_weak [0, 1] (L' := [(0, va_rf v0), (1, .int v1)]) rfl ?_
        exact p_M_join_b43 d v0 v1 h
    · refine gk_iload_n (pc := 9) 2 d_M_join_9 rfl ?_
      refine gk_aload_n (pc := 10) 0 d_M_join_10 rfl ?_
      refine gk_getR (pc := 11) 7 14 d_M_join_11 rfl (Nat.le_of_ble_eq_true rfl) tw_1659 fun x2 => ?_
      refine gk_iload_n (pc := 14) 3 d_M_join_14 rfl ?_
      refine gk_iald (pc := 15) d_M_join_15 fun x3 => ?_
      refine gk_iadd (pc := 16) d_M_join_16 ?_
      refine gk_topI (pc := 17) fun x4 => ?_
      refine gk_istore_n (pc := 17) (L' := [(2, .int x4), (0, va_rf v0), (1, .int v1), (3, .int v3)]) d_M_join_17 (Nat.le_of_ble_eq_true rfl) rfl ?_
      refine gk_iincN (pc := 18) 3 (1 : Int32) (L' := fun x5 => [(3, .int x5), (2, .int x4), (0, va_rf v0), (1, .int v1)]) d_M_join_18 rfl rfl (Nat.le_of_ble_eq_true rfl) (fun _ => rfl) fun x5 => ?_
      refine gk_goto (pc := 21) 4 d_M_join_21 rfl ?_
      refine gk_weak [2, 3, 1, 0] (L' := [(0, va_rf v0), (1, .int v1), (2, .int x4), (3, .int x5)]) rfl ?_
      exact q4 v0 v1 x4 x5 h
theorem w_M_join (d : Nat) (a0 : Option Nat) (a1 : Int32) (h : gk_H) : gk_P gw_V (d + 2) y_M_join b_M_join 5 none [] (f_M_join a0 a1 h) 0 [(0, va_rf a0), (1, .int a1)] [] h := by
  unfold f_M_join
  refine gk_iconst (pc := 0) (0 : Int32) d_M_join_0 rfl ?_
  refine gk_istore_n (pc := 1) (L' := [(2, .int (0 : Int32)), (0, va_rf a0), (1, .int a1)]) d_M_join_1 (Nat.le_of_ble_eq_true rfl) rfl ?_
  refine gk_iconst (pc := 2) (0 : Int32) d_M_join_2 rfl ?_
  refine gk_istore_n (pc := 3) (L' := [(3, .int (0 : Int32)), (2, .int (0 : Int32)), (0, va_rf a0), (1, .int a1)]) d_M_join_3 (Nat.le_of_ble_eq_true rfl) rfl ?_
  refine gk_weak [2, 3, 1, 0] (L' := [(0, va_rf a0), (1, .int a1), (2, .int (0 : Int32)), (3, .int (0 : Int32))]) rfl ?_
  exact p_M_join_b4 d gk_F a0 a1 (0 : Int32) (0 : Int32) h
theorem p_M_join (d : Nat) (a0 : Option Nat) (a1 : Int32) (h : gk_H) : ∀ r h1, f_M_join a0 a1 h = some (r, h1) → gk_M (d + 2) y_M_join b_M_join 5 none [va_rf a0, .int a1] h (.inl (gv_V r)) h1 :=
  fun r h1 e => gk_M_of2 (by decide +kernel) (by simp [lv_args, gk_cat_rf, gk_catI, gk_catJ, gk_catD, gv_V, gv_I, gv_J, gv_D, gv_R]) (by simp [lg_sl, gk_cat_rf, gk_catI, gk_catJ, gk_catD, gv_V, gv_I, gv_J, gv_D, gv_R]) (w_M_join d a0 a1 h r h1 e)
theorem d_M_isDigit_0 : decode b_M_isDigit 0 = .ok (.iload_n 0, 1) := by decide +kernel
theorem d_M_isDigit_1 : decode b_M_isDigit 1 = .ok (.bipush 48, 2) := by decide +kernel
theorem d_M_isDigit_3 : decode b_M_isDigit 3 = .ok (.if_icmp .lt 13, 3) := by decide +kernel
theorem d_M_isDigit_6 : decode b_M_isDigit 6 = .ok (.iload_n 0, 1) := by decide +kernel
theorem d_M_isDigit_7 : decode b_M_isDigit 7 = .ok (.bipush 57, 2) := by decide +kernel
theorem d_M_isDigit_9 : decode b_M_isDigit 9 = .ok (.if_icmp .gt 7, 3) := by decide +kernel
theorem d_M_isDigit_12 : decode b_M_isDigit 12 = .ok (.iconst 1, 1) := by decide +kernel
theorem d_M_isDigit_13 : decode b_M_isDigit 13 = .ok (.goto 4, 3) := by decide +kernel
theorem d_M_isDigit_16 : decode b_M_isDigit 16 = .ok (.iconst 0, 1) := by decide +kernel
theorem d_M_isDigit_17 : decode b_M_isDigit 17 = .ok (.ireturn, 1) := by decide +kernel
theorem p_M_isDigit_b17 (d : Nat)  (s0 : Int32) (h : gk_H) : gk_P gw_I d y_M_isDigit b_M_isDigit 1 (some .boolean) [] (f_M_isDigit_b17  s0 h) 17 [] [.int s0] h := by
  unfold f_M_isDigit_b17
  exact gk_zret (pc := 17) rfl d_M_isDigit_17 rfl
theorem p_M_isDigit_b16 (d : Nat)   (h : gk_H) : gk_P gw_I d y_M_isDigit b_M_isDigit 1 (some .boolean) [] (f_M_isDigit_b16   h) 16 [] [] h := by
  unfold f_M_isDigit_b16
  refine gk_iconst (pc := 16) (0 : Int32) d_M_isDigit_16 rfl ?_
  exact p_M_isDigit_b17 d (0 : Int32) h
theorem w_M_isDigit (d : Nat) (a0 : Int32) (h : gk_H) : gk_P gw_I d y_M_isDigit b_M_isDigit 1 (some .boolean) [] (f_M_isDigit a0 h) 0 [(0, .int a0)] [] h := by
  unfold f_M_isDigit
  refine gk_iload_n (pc := 0) 0 d_M_isDigit_0 rfl ?_
  refine gk_bipush (pc := 1) (48 : Int32) d_M_isDigit_1 rfl ?_
  refine gk_icmp_lt (pc := 3) 16 d_M_isDigit_3 rfl (fun _ => ?_) (fun _ => ?_)
  · refine gk_weak [] (L' := []) rfl ?_
    exact p_M_isDigit_b16 d h
  · refine gk_iload_n (pc := 6) 0 d_M_isDigit_6 rfl ?_
    refine gk_bipush (pc := 7) (57 : Int32) d_M_isDigit_7 rfl ?_
    refine gk_icmp_gt (pc := 9) 16 d_M_isDigit_9 rfl (fun _ => ?_) (fun _ => ?_)
    · refine gk_weak [] (L' := []) rfl ?_
      exact p_M_isDigit_b16 d h
    · refine gk_iconst (pc := 12) (1 : Int32) d_M_isDigit_12 rfl ?_
      refine gk_goto (pc := 13) 17 d_M_isDigit_13 rfl ?_
      refine gk_weak [] (L' := []) rfl ?_
      exact p_M_isDigit_b17 d (1 : Int32) h
theorem p_M_isDigit (d : Nat) (a0 : Int32) (h : gk_H) : ∀ r h1, f_M_isDigit a0 h = some (r, h1) → gk_M d y_M_isDigit b_M_isDigit 1 (some .boolean) [.int a0] h (.inl (gv_I r)) h1 :=
  fun r h1 e => gk_M_of2 (by decide +kernel) (by simp [lv_args, gk_cat_rf, gk_catI, gk_catJ, gk_catD, gv_V, gv_I, gv_J, gv_D, gv_R]) (by simp [lg_sl, gk_cat_rf, gk_catI, gk_catJ, gk_catD, gv_V, gv_I, gv_J, gv_D, gv_R]) (w_M_isDigit d a0 h r h1 e)
theorem d_M_tens_0 : decode b_M_tens 0 = .ok (.dconst 1, 1) := by decide +kernel
theorem d_M_tens_1 : decode b_M_tens 1 = .ok (.dstore_n 1, 1) := by decide +kernel
theorem d_M_tens_2 : decode b_M_tens 2 = .ok (.iconst 0, 1) := by decide +kernel
theorem d_M_tens_3 : decode b_M_tens 3 = .ok (.istore_n 3, 1) := by decide +kernel
theorem d_M_tens_4 : decode b_M_tens 4 = .ok (.iload_n 3, 1) := by decide +kernel
theorem d_M_tens_5 : decode b_M_tens 5 = .ok (.iload_n 0, 1) := by decide +kernel
theorem d_M_tens_6 : decode b_M_tens 6 = .ok (.if_icmp .ge 15, 3) := by decide +kernel
theorem d_M_tens_9 : decode b_M_tens 9 = .ok (.dload_n 1, 1) := by decide +kernel
theorem d_M_tens_10 : decode b_M_tens 10 = .ok (.ldc2_w 107, 3) := by decide +kernel
theorem d_M_tens_13 : decode b_M_tens 13 = .ok (.dmul, 1) := by decide +kernel
theorem d_M_tens_14 : decode b_M_tens 14 = .ok (.dstore_n 1, 1) := by decide +kernel
theorem d_M_tens_15 : decode b_M_tens 15 = .ok (.iinc 3 1, 3) := by decide +kernel
theorem d_M_tens_18 : decode b_M_tens 18 = .ok (.goto (-14), 3) := by decide +kernel
theorem d_M_tens_21 : decode b_M_tens 21 = .ok (.dload_n 1, 1) := by decide +kernel
theorem d_M_tens_22 : decode b_M_tens 22 = .ok (.dreturn, 1) := by decide +kernel
theorem p_M_tens_b4 (d : Nat)  : ∀ (fu : Nat) (v0 : Int32) (v1 : UInt64) (v3 : Int32) (h : gk_H), gk_P gw_D d y_M_tens b_M_tens 4 (some .double) [] (f_M_tens_b4  fu v0 v1 v3 h) 4 [(0, .int v0), (1, .double v1), (3, .int v3)] [] h := by
  intro fu
  induction fu with
  | zero => intros; exact gk_none
  | succ fu q4 =>
    intro v0 v1 v3 h
    rw [f_M_tens_b4]
    refine gk_iload_n (pc := 4) 2 d_M_tens_4 rfl ?_
    refine gk_iload_n (pc := 5) 0 d_M_tens_5 rfl ?_
    refine gk_icmp_ge (pc := 6) 21 d_M_tens_6 rfl (fun _ => ?_) (fun _ => ?_)
    · refine gk_dload_n (pc := 21) 1 d_M_tens_21 rfl ?_
      exact gk_dret (pc := 22) rfl d_M_tens_22 rfl
    · refine gk_dload_n (pc := 9) 1 d_M_tens_9 rfl ?_
      refine gk_ldc2d (pc := 10) tw_1886 d_M_tens_10 ?_
      refine gk_dmulN (pc := 13) d_M_tens_13 fun x1 => ?_
      refine gk_dstore_n (pc := 14) (L' := [(1, .double x1), (0, .int v0), (3, .int v3)]) d_M_tens_14 (Nat.le_of_ble_eq_true rfl) rfl ?_
      refine gk_iincN (pc := 15) 2 (1 : Int32) (L' := fun x2 => [(3, .int x2), (1, .double x1), (0, .int v0)]) d_M_tens_15 rfl rfl (Nat.le_of_ble_eq_true rfl) (fun _ => rfl) fun x2 => ?_
      refine gk_goto (pc := 18) 4 d_M_tens_18 rfl ?_
      refine gk_weak [2, 1, 0] (L' := [(0, .int v0), (1, .double x1), (3, .int x2)]) rfl ?_
      exact q4 v0 x1 x2 h
theorem w_M_tens (d : Nat) (a0 : Int32) (h : gk_H) : gk_P gw_D d y_M_tens b_M_tens 4 (some .double) [] (f_M_tens a0 h) 0 [(0, .int a0)] [] h := by
  unfold f_M_tens
  refine gk_dconst1 (pc := 0) d_M_tens_0 ?_
  refine gk_dstore_n (pc := 1) (L' := [(1, .double (0x3ff0000000000000)), (0, .int a0)]) d_M_tens_1 (Nat.le_of_ble_eq_true rfl) rfl ?_
  refine gk_iconst (pc := 2) (0 : Int32) d_M_tens_2 rfl ?_
  refine gk_istore_n (pc := 3) (L' := [(3, .int (0 : Int32)), (1, .double (0x3ff0000000000000)), (0, .int a0)]) d_M_tens_3 (Nat.le_of_ble_eq_true rfl) rfl ?_
  refine gk_weak [2, 1, 0] (L' := [(0, .int a0), (1, .double (0x3ff0000000000000)), (3, .int (0 : Int32))]) rfl ?_
  exact p_M_tens_b4 d gk_F a0 (0x3ff0000000000000) (0 : Int32) h
theorem p_M_tens (d : Nat) (a0 : Int32) (h : gk_H) : ∀ r h1, f_M_tens a0 h = some (r, h1) → gk_M d y_M_tens b_M_tens 4 (some .double) [.int a0] h (.inl (gv_D r)) h1 :=
  fun r h1 e => gk_M_of2 (by decide +kernel) (by simp [lv_args, gk_cat_rf, gk_catI, gk_catJ, gk_catD, gv_V, gv_I, gv_J, gv_D, gv_R]) (by simp [lg_sl, gk_cat_rf, gk_catI, gk_catJ, gk_catD, gv_V, gv_I, gv_J, gv_D, gv_R]) (w_M_tens d a0 h r h1 e)
theorem d_M_isNumeral_0 : decode b_M_isNumeral 0 = .ok (.iload_n 2, 1) := by decide +kernel
theorem d_M_isNumeral_1 : decode b_M_isNumeral 1 = .ok (.istore 4, 2) := by decide +kernel
theorem d_M_isNumeral_3 : decode b_M_isNumeral 3 = .ok (.iload_n 2, 1) := by decide +kernel
theorem d_M_isNumeral_4 : decode b_M_isNumeral 4 = .ok (.iload_n 3, 1) := by decide +kernel
theorem d_M_isNumeral_5 : decode b_M_isNumeral 5 = .ok (.iadd, 1) := by decide +kernel
theorem d_M_isNumeral_6 : decode b_M_isNumeral 6 = .ok (.istore 5, 2) := by decide +kernel
theorem d_M_isNumeral_8 : decode b_M_isNumeral 8 = .ok (.iload 4, 2) := by decide +kernel
theorem d_M_isNumeral_10 : decode b_M_isNumeral 10 = .ok (.iload 5, 2) := by decide +kernel
theorem d_M_isNumeral_12 : decode b_M_isNumeral 12 = .ok (.if_icmp .ge 18, 3) := by decide +kernel
theorem d_M_isNumeral_15 : decode b_M_isNumeral 15 = .ok (.aload_n 1, 1) := by decide +kernel
theorem d_M_isNumeral_16 : decode b_M_isNumeral 16 = .ok (.iload 4, 2) := by decide +kernel
theorem d_M_isNumeral_18 : decode b_M_isNumeral 18 = .ok (.baload, 1) := by decide +kernel
theorem d_M_isNumeral_19 : decode b_M_isNumeral 19 = .ok (.bipush 32, 2) := by decide +kernel
theorem d_M_isNumeral_21 : decode b_M_isNumeral 21 = .ok (.if_icmp .ne 9, 3) := by decide +kernel
theorem d_M_isNumeral_24 : decode b_M_isNumeral 24 = .ok (.iinc 4 1, 3) := by decide +kernel
theorem d_M_isNumeral_27 : decode b_M_isNumeral 27 = .ok (.goto (-19), 3) := by decide +kernel
theorem d_M_isNumeral_30 : decode b_M_isNumeral 30 = .ok (.iload 5, 2) := by decide +kernel
theorem d_M_isNumeral_32 : decode b_M_isNumeral 32 = .ok (.iload 4, 2) := by decide +kernel
theorem d_M_isNumeral_34 : decode b_M_isNumeral 34 = .ok (.if_icmp .le 20, 3) := by decide +kernel
theorem d_M_isNumeral_37 : decode b_M_isNumeral 37 = .ok (.aload_n 1, 1) := by decide +kernel
theorem d_M_isNumeral_38 : decode b_M_isNumeral 38 = .ok (.iload 5, 2) := by decide +kernel
theorem d_M_isNumeral_40 : decode b_M_isNumeral 40 = .ok (.iconst 1, 1) := by decide +kernel
theorem d_M_isNumeral_41 : decode b_M_isNumeral 41 = .ok (.isub, 1) := by decide +kernel
theorem d_M_isNumeral_42 : decode b_M_isNumeral 42 = .ok (.baload, 1) := by decide +kernel
theorem d_M_isNumeral_43 : decode b_M_isNumeral 43 = .ok (.bipush 32, 2) := by decide +kernel
theorem d_M_isNumeral_45 : decode b_M_isNumeral 45 = .ok (.if_icmp .ne 9, 3) := by decide +kernel
theorem d_M_isNumeral_48 : decode b_M_isNumeral 48 = .ok (.iinc 5 (-1), 3) := by decide +kernel
theorem d_M_isNumeral_51 : decode b_M_isNumeral 51 = .ok (.goto (-21), 3) := by decide +kernel
theorem d_M_isNumeral_54 : decode b_M_isNumeral 54 = .ok (.iload 4, 2) := by decide +kernel
theorem d_M_isNumeral_56 : decode b_M_isNumeral 56 = .ok (.iload 5, 2) := by decide +kernel
theorem d_M_isNumeral_58 : decode b_M_isNumeral 58 = .ok (.if_icmp .ge 16, 3) := by decide +kernel
theorem d_M_isNumeral_61 : decode b_M_isNumeral 61 = .ok (.aload_n 1, 1) := by decide +kernel
theorem d_M_isNumeral_62 : decode b_M_isNumeral 62 = .ok (.iload 4, 2) := by decide +kernel
theorem d_M_isNumeral_64 : decode b_M_isNumeral 64 = .ok (.baload, 1) := by decide +kernel
theorem d_M_isNumeral_65 : decode b_M_isNumeral 65 = .ok (.bipush 45, 2) := by decide +kernel
theorem d_M_isNumeral_67 : decode b_M_isNumeral 67 = .ok (.if_icmp .ne 7, 3) := by decide +kernel
theorem d_M_isNumeral_70 : decode b_M_isNumeral 70 = .ok (.iconst 1, 1) := by decide +kernel
theorem d_M_isNumeral_71 : decode b_M_isNumeral 71 = .ok (.goto 4, 3) := by decide +kernel
theorem d_M_isNumeral_74 : decode b_M_isNumeral 74 = .ok (.iconst 0, 1) := by decide +kernel
theorem d_M_isNumeral_75 : decode b_M_isNumeral 75 = .ok (.istore 6, 2) := by decide +kernel
theorem d_M_isNumeral_77 : decode b_M_isNumeral 77 = .ok (.iload 6, 2) := by decide +kernel
theorem d_M_isNumeral_79 : decode b_M_isNumeral 79 = .ok (.ifCond .eq 10, 3) := by decide +kernel
theorem d_M_isNumeral_82 : decode b_M_isNumeral 82 = .ok (.iload 4, 2) := by decide +kernel
theorem d_M_isNumeral_84 : decode b_M_isNumeral 84 = .ok (.iconst 1, 1) := by decide +kernel
theorem d_M_isNumeral_85 : decode b_M_isNumeral 85 = .ok (.iadd, 1) := by decide +kernel
theorem d_M_isNumeral_86 : decode b_M_isNumeral 86 = .ok (.goto 5, 3) := by decide +kernel
theorem d_M_isNumeral_89 : decode b_M_isNumeral 89 = .ok (.iload 4, 2) := by decide +kernel
theorem d_M_isNumeral_91 : decode b_M_isNumeral 91 = .ok (.istore 4, 2) := by decide +kernel
theorem d_M_isNumeral_93 : decode b_M_isNumeral 93 = .ok (.iload 5, 2) := by decide +kernel
theorem d_M_isNumeral_95 : decode b_M_isNumeral 95 = .ok (.iload 4, 2) := by decide +kernel
theorem d_M_isNumeral_97 : decode b_M_isNumeral 97 = .ok (.if_icmp .le 18, 3) := by decide +kernel
theorem d_M_isNumeral_100 : decode b_M_isNumeral 100 = .ok (.aload_n 1, 1) := by decide +kernel
theorem d_M_isNumeral_101 : decode b_M_isNumeral 101 = .ok (.iload 5, 2) := by decide +kernel
theorem d_M_isNumeral_103 : decode b_M_isNumeral 103 = .ok (.iconst 1, 1) := by decide +kernel
theorem d_M_isNumeral_104 : decode b_M_isNumeral 104 = .ok (.isub, 1) := by decide +kernel
theorem d_M_isNumeral_105 : decode b_M_isNumeral 105 = .ok (.baload, 1) := by decide +kernel
theorem d_M_isNumeral_106 : decode b_M_isNumeral 106 = .ok (.bipush 37, 2) := by decide +kernel
theorem d_M_isNumeral_108 : decode b_M_isNumeral 108 = .ok (.if_icmp .ne 7, 3) := by decide +kernel
theorem d_M_isNumeral_111 : decode b_M_isNumeral 111 = .ok (.iconst 1, 1) := by decide +kernel
theorem d_M_isNumeral_112 : decode b_M_isNumeral 112 = .ok (.goto 4, 3) := by decide +kernel
theorem d_M_isNumeral_115 : decode b_M_isNumeral 115 = .ok (.iconst 0, 1) := by decide +kernel
theorem d_M_isNumeral_116 : decode b_M_isNumeral 116 = .ok (.istore 7, 2) := by decide +kernel
theorem d_M_isNumeral_118 : decode b_M_isNumeral 118 = .ok (.iload 7, 2) := by decide +kernel
theorem d_M_isNumeral_120 : decode b_M_isNumeral 120 = .ok (.ifCond .eq 10, 3) := by decide +kernel
theorem d_M_isNumeral_123 : decode b_M_isNumeral 123 = .ok (.iload 5, 2) := by decide +kernel
theorem d_M_isNumeral_125 : decode b_M_isNumeral 125 = .ok (.iconst 1, 1) := by decide +kernel
theorem d_M_isNumeral_126 : decode b_M_isNumeral 126 = .ok (.isub, 1) := by decide +kernel
theorem d_M_isNumeral_127 : decode b_M_isNumeral 127 = .ok (.goto 5, 3) := by decide +kernel
theorem d_M_isNumeral_130 : decode b_M_isNumeral 130 = .ok (.iload 5, 2) := by decide +kernel
theorem d_M_isNumeral_132 : decode b_M_isNumeral 132 = .ok (.istore 5, 2) := by decide +kernel
theorem d_M_isNumeral_134 : decode b_M_isNumeral 134 = .ok (.lconst 0, 1) := by decide +kernel
theorem d_M_isNumeral_135 : decode b_M_isNumeral 135 = .ok (.lstore 8, 2) := by decide +kernel
theorem d_M_isNumeral_137 : decode b_M_isNumeral 137 = .ok (.iconst 0, 1) := by decide +kernel
theorem d_M_isNumeral_138 : decode b_M_isNumeral 138 = .ok (.istore 10, 2) := by decide +kernel
theorem d_M_isNumeral_140 : decode b_M_isNumeral 140 = .ok (.iconst (-1), 1) := by decide +kernel
theorem d_M_isNumeral_141 : decode b_M_isNumeral 141 = .ok (.istore 11, 2) := by decide +kernel
theorem d_M_isNumeral_143 : decode b_M_isNumeral 143 = .ok (.iload 4, 2) := by decide +kernel
theorem d_M_isNumeral_145 : decode b_M_isNumeral 145 = .ok (.iload 5, 2) := by decide +kernel
theorem d_M_isNumeral_147 : decode b_M_isNumeral 147 = .ok (.if_icmp .ge 93, 3) := by decide +kernel
theorem d_M_isNumeral_150 : decode b_M_isNumeral 150 = .ok (.aload_n 1, 1) := by decide +kernel
theorem d_M_isNumeral_151 : decode b_M_isNumeral 151 = .ok (.iload 4, 2) := by decide +kernel
theorem d_M_isNumeral_153 : decode b_M_isNumeral 153 = .ok (.baload, 1) := by decide +kernel
theorem d_M_isNumeral_154 : decode b_M_isNumeral 154 = .ok (.invokestatic 90, 3) := by decide +kernel
theorem d_M_isNumeral_157 : decode b_M_isNumeral 157 = .ok (.ifCond .eq 55, 3) := by decide +kernel
theorem d_M_isNumeral_160 : decode b_M_isNumeral 160 = .ok (.iinc 10 1, 3) := by decide +kernel
theorem d_M_isNumeral_163 : decode b_M_isNumeral 163 = .ok (.iload 10, 2) := by decide +kernel
theorem d_M_isNumeral_165 : decode b_M_isNumeral 165 = .ok (.bipush 16, 2) := by decide +kernel
theorem d_M_isNumeral_167 : decode b_M_isNumeral 167 = .ok (.if_icmp .ge 22, 3) := by decide +kernel
theorem d_M_isNumeral_170 : decode b_M_isNumeral 170 = .ok (.ldc2_w 93, 3) := by decide +kernel
theorem d_M_isNumeral_173 : decode b_M_isNumeral 173 = .ok (.lload 8, 2) := by decide +kernel
theorem d_M_isNumeral_175 : decode b_M_isNumeral 175 = .ok (.lmul, 1) := by decide +kernel
theorem d_M_isNumeral_176 : decode b_M_isNumeral 176 = .ok (.aload_n 1, 1) := by decide +kernel
theorem d_M_isNumeral_177 : decode b_M_isNumeral 177 = .ok (.iload 4, 2) := by decide +kernel
theorem d_M_isNumeral_179 : decode b_M_isNumeral 179 = .ok (.baload, 1) := by decide +kernel
theorem d_M_isNumeral_180 : decode b_M_isNumeral 180 = .ok (.i2l, 1) := by decide +kernel
theorem d_M_isNumeral_181 : decode b_M_isNumeral 181 = .ok (.ladd, 1) := by decide +kernel
theorem d_M_isNumeral_182 : decode b_M_isNumeral 182 = .ok (.ldc2_w 95, 3) := by decide +kernel
theorem d_M_isNumeral_185 : decode b_M_isNumeral 185 = .ok (.lsub, 1) := by decide +kernel
theorem d_M_isNumeral_186 : decode b_M_isNumeral 186 = .ok (.goto 5, 3) := by decide +kernel
theorem d_M_isNumeral_189 : decode b_M_isNumeral 189 = .ok (.lload 8, 2) := by decide +kernel
theorem d_M_isNumeral_191 : decode b_M_isNumeral 191 = .ok (.lstore 8, 2) := by decide +kernel
theorem d_M_isNumeral_193 : decode b_M_isNumeral 193 = .ok (.iload 11, 2) := by decide +kernel
theorem d_M_isNumeral_195 : decode b_M_isNumeral 195 = .ok (.ifCond .lt 10, 3) := by decide +kernel
theorem d_M_isNumeral_198 : decode b_M_isNumeral 198 = .ok (.iload 11, 2) := by decide +kernel
theorem d_M_isNumeral_200 : decode b_M_isNumeral 200 = .ok (.iconst 1, 1) := by decide +kernel
theorem d_M_isNumeral_201 : decode b_M_isNumeral 201 = .ok (.iadd, 1) := by decide +kernel
theorem d_M_isNumeral_202 : decode b_M_isNumeral 202 = .ok (.goto 5, 3) := by decide +kernel
theorem d_M_isNumeral_205 : decode b_M_isNumeral 205 = .ok (.iload 11, 2) := by decide +kernel
theorem d_M_isNumeral_207 : decode b_M_isNumeral 207 = .ok (.istore 11, 2) := by decide +kernel
theorem d_M_isNumeral_209 : decode b_M_isNumeral 209 = .ok (.goto 25, 3) := by decide +kernel
theorem d_M_isNumeral_212 : decode b_M_isNumeral 212 = .ok (.aload_n 1, 1) := by decide +kernel
theorem d_M_isNumeral_213 : decode b_M_isNumeral 213 = .ok (.iload 4, 2) := by decide +kernel
theorem d_M_isNumeral_215 : decode b_M_isNumeral 215 = .ok (.baload, 1) := by decide +kernel
theorem d_M_isNumeral_216 : decode b_M_isNumeral 216 = .ok (.bipush 46, 2) := by decide +kernel
theorem d_M_isNumeral_218 : decode b_M_isNumeral 218 = .ok (.if_icmp .ne 14, 3) := by decide +kernel
theorem d_M_isNumeral_221 : decode b_M_isNumeral 221 = .ok (.iload 11, 2) := by decide +kernel
theorem d_M_isNumeral_223 : decode b_M_isNumeral 223 = .ok (.ifCond .ge 9, 3) := by decide +kernel
theorem d_M_isNumeral_226 : decode b_M_isNumeral 226 = .ok (.iconst 0, 1) := by decide +kernel
theorem d_M_isNumeral_227 : decode b_M_isNumeral 227 = .ok (.istore 11, 2) := by decide +kernel
theorem d_M_isNumeral_229 : decode b_M_isNumeral 229 = .ok (.goto 5, 3) := by decide +kernel
theorem d_M_isNumeral_232 : decode b_M_isNumeral 232 = .ok (.iconst 0, 1) := by decide +kernel
theorem d_M_isNumeral_233 : decode b_M_isNumeral 233 = .ok (.ireturn, 1) := by decide +kernel
theorem d_M_isNumeral_234 : decode b_M_isNumeral 234 = .ok (.iinc 4 1, 3) := by decide +kernel
theorem d_M_isNumeral_237 : decode b_M_isNumeral 237 = .ok (.goto (-94), 3) := by decide +kernel
theorem d_M_isNumeral_240 : decode b_M_isNumeral 240 = .ok (.iload 10, 2) := by decide +kernel
theorem d_M_isNumeral_242 : decode b_M_isNumeral 242 = .ok (.iconst 1, 1) := by decide +kernel
theorem d_M_isNumeral_243 : decode b_M_isNumeral 243 = .ok (.if_icmp .lt 10, 3) := by decide +kernel
theorem d_M_isNumeral_246 : decode b_M_isNumeral 246 = .ok (.iload 10, 2) := by decide +kernel
theorem d_M_isNumeral_248 : decode b_M_isNumeral 248 = .ok (.bipush 15, 2) := by decide +kernel
theorem d_M_isNumeral_250 : decode b_M_isNumeral 250 = .ok (.if_icmp .le 5, 3) := by decide +kernel
theorem d_M_isNumeral_253 : decode b_M_isNumeral 253 = .ok (.iconst 0, 1) := by decide +kernel
theorem d_M_isNumeral_254 : decode b_M_isNumeral 254 = .ok (.ireturn, 1) := by decide +kernel
theorem d_M_isNumeral_255 : decode b_M_isNumeral 255 = .ok (.lload 8, 2) := by decide +kernel
theorem d_M_isNumeral_257 : decode b_M_isNumeral 257 = .ok (.l2d, 1) := by decide +kernel
theorem d_M_isNumeral_258 : decode b_M_isNumeral 258 = .ok (.dstore 12, 2) := by decide +kernel
theorem d_M_isNumeral_260 : decode b_M_isNumeral 260 = .ok (.iload 11, 2) := by decide +kernel
theorem d_M_isNumeral_262 : decode b_M_isNumeral 262 = .ok (.ifCond .le 13, 3) := by decide +kernel
theorem d_M_isNumeral_265 : decode b_M_isNumeral 265 = .ok (.dload 12, 2) := by decide +kernel
theorem d_M_isNumeral_267 : decode b_M_isNumeral 267 = .ok (.iload 11, 2) := by decide +kernel
theorem d_M_isNumeral_269 : decode b_M_isNumeral 269 = .ok (.invokestatic 97, 3) := by decide +kernel
theorem d_M_isNumeral_272 : decode b_M_isNumeral 272 = .ok (.ddiv, 1) := by decide +kernel
theorem d_M_isNumeral_273 : decode b_M_isNumeral 273 = .ok (.dstore 12, 2) := by decide +kernel
theorem d_M_isNumeral_275 : decode b_M_isNumeral 275 = .ok (.iload 7, 2) := by decide +kernel
theorem d_M_isNumeral_277 : decode b_M_isNumeral 277 = .ok (.ifCond .eq 11, 3) := by decide +kernel
theorem d_M_isNumeral_280 : decode b_M_isNumeral 280 = .ok (.dload 12, 2) := by decide +kernel
theorem d_M_isNumeral_282 : decode b_M_isNumeral 282 = .ok (.ldc2_w 101, 3) := by decide +kernel
theorem d_M_isNumeral_285 : decode b_M_isNumeral 285 = .ok (.ddiv, 1) := by decide +kernel
theorem d_M_isNumeral_286 : decode b_M_isNumeral 286 = .ok (.dstore 12, 2) := by decide +kernel
theorem d_M_isNumeral_288 : decode b_M_isNumeral 288 = .ok (.aload_n 0, 1) := by decide +kernel
theorem d_M_isNumeral_289 : decode b_M_isNumeral 289 = .ok (.iload 6, 2) := by decide +kernel
theorem d_M_isNumeral_291 : decode b_M_isNumeral 291 = .ok (.ifCond .eq 10, 3) := by decide +kernel
theorem d_M_isNumeral_294 : decode b_M_isNumeral 294 = .ok (.dconst 0, 1) := by decide +kernel
theorem d_M_isNumeral_295 : decode b_M_isNumeral 295 = .ok (.dload 12, 2) := by decide +kernel
theorem d_M_isNumeral_297 : decode b_M_isNumeral 297 = .ok (.dsub, 1) := by decide +kernel
theorem d_M_isNumeral_298 : decode b_M_isNumeral 298 = .ok (.goto 5, 3) := by decide +kernel
theorem d_M_isNumeral_301 : decode b_M_isNumeral 301 = .ok (.dload 12, 2) := by decide +kernel
theorem d_M_isNumeral_303 : decode b_M_isNumeral 303 = .ok (.putfield 103, 3) := by decide +kernel
theorem d_M_isNumeral_306 : decode b_M_isNumeral 306 = .ok (.iconst 1, 1) := by decide +kernel
theorem d_M_isNumeral_307 : decode b_M_isNumeral 307 = .ok (.ireturn, 1) := by decide +kernel
theorem p_M_isNumeral_b253 (d : Nat)   (h : gk_H) : gk_P gw_I (d + 1) y_M_isNumeral b_M_isNumeral 14 (some .boolean) [] (f_M_isNumeral_b253   h) 253 [] [] h := by
  unfold f_M_isNumeral_b253
  refine gk_iconst (pc := 253) (0 : Int32) d_M_isNumeral_253 rfl ?_
  exact gk_zret (pc := 254) rfl d_M_isNumeral_254 rfl
theorem p_M_isNumeral_b303 (d : Nat)  (s0 : Option Nat) (s1 : UInt64) (h : gk_H) : gk_P gw_I (d + 1) y_M_isNumeral b_M_isNumeral 14 (some .boolean) [] (f_M_isNumeral_b303  s0 s1 h) 303 [] [.double s1, va_rf s0] h := by
  unfold f_M_isNumeral_b303
  refine gk_putfield (pc := 303) 7 16 d_M_isNumeral_303 rfl (Nat.le_of_ble_eq_true rfl) tw_1661 (Or.inl rfl) fun h1 => ?_
  refine gk_iconst (pc := 306) (1 : Int32) d_M_isNumeral_306 rfl ?_
  exact gk_zret (pc := 307) rfl d_M_isNumeral_307 rfl
theorem p_M_isNumeral_b288 (d : Nat)  (v0 : Option Nat) (v6 : Int32) (v12 : UInt64) (h : gk_H) : gk_P gw_I (d + 1) y_M_isNumeral b_M_isNumeral 14 (some .boolean) [] (f_M_isNumeral_b288  v0 v6 v12 h) 288 [(0, va_rf v0), (6, .int v6), (12, .double v12)] [] h := by
  unfold f_M_isNumeral_b288
  refine gk_aload_n (pc := 288) 0 d_M_isNumeral_288 rfl ?_
  refine gk_iload (pc := 289) 1 d_M_isNumeral_289 rfl ?_
  refine gk_if_eq (pc := 291) 301 d_M_isNumeral_291 rfl (fun _ => ?_) (fun _ => ?_)
  · refine gk_dload (pc := 301) 2 d_M_isNumeral_301 rfl ?_
    refine gk_weak [] (L' := []) rfl ?_
    exact p_M_isNumeral_b303 d v0 v12 h
  · refine gk_dconst0 (pc := 294) d_M_isNumeral_294 ?_
    refine gk_dload (pc := 295) 2 d_M_isNumeral_295 rfl ?_
    refine gk_dsubN (pc := 297) d_M_isNumeral_297 fun x1 => ?_
    refine gk_goto (pc := 298) 303 d_M_isNumeral_298 rfl ?_
    refine gk_weak [] (L' := []) rfl ?_
    exact p_M_isNumeral_b303 d v0 x1 h
theorem p_M_isNumeral_b275 (d : Nat)  (v0 : Option Nat) (v6 : Int32) (v7 : Int32) (v12 : UInt64) (h : gk_H) : gk_P gw_I (d + 1) y_M_isNumeral b_M_isNumeral 14 (some .boolean) [] (f_M_isNumeral_b275  v0 v6 v7 v12 h) 275 [(0, va_rf v0), (6, .int v6), (7, .int v7), (12, .double v12)] [] h := by
  unfold f_M_isNumeral_b275
  refine gk_iload (pc := 275) 2 d_M_isNumeral_275 rfl ?_
  refine gk_if_eq (pc := 277) 288 d_M_isNumeral_277 rfl (fun _ => ?_) (fun _ => ?_)
  · refine gk_weak [0, 1, 3] (L' := [(0, va_rf v0), (6, .int v6), (12, .double v12)]) rfl ?_
    exact p_M_isNumeral_b288 d v0 v6 v12 h
  · refine gk_dload (pc := 280) 3 d_M_isNumeral_280 rfl ?_
    refine gk_ldc2d (pc := 282) tw_1887 d_M_isNumeral_282 ?_
    refine gk_ddivN (pc := 285) d_M_isNumeral_285 fun x1 => ?_
    refine gk_dstore (pc := 286) (L' := [(12, .double x1), (0, va_rf v0), (6, .int v6), (7, .int v7)]) d_M_isNumeral_286 (Nat.le_of_ble_eq_true rfl) rfl ?_
    refine gk_weak [1, 2, 0] (L' := [(0, va_rf v0), (6, .int v6), (12, .double x1)]) rfl ?_
    exact p_M_isNumeral_b288 d v0 v6 x1 h
theorem p_M_isNumeral_b232 (d : Nat)   (h : gk_H) : gk_P gw_I (d + 1) y_M_isNumeral b_M_isNumeral 14 (some .boolean) [] (f_M_isNumeral_b232   h) 232 [] [] h := by
  unfold f_M_isNumeral_b232
  refine gk_iconst (pc := 232) (0 : Int32) d_M_isNumeral_232 rfl ?_
  exact gk_zret (pc := 233) rfl d_M_isNumeral_233 rfl
theorem p_M_isNumeral_b234 (d : Nat) (b143 : Option Nat → Option Nat → Int32 → Int32 → Int32 → Int32 → Int64 → Int32 → Int32 → gk_H → Option (Int32 × gk_H)) (q143 : ∀ (v0 : Option Nat) (v1 : Option Nat) (v4 : Int32) (v5 : Int32) (v6 : Int32) (v7 : Int32) (v8 : Int64) (v10 : Int32) (v11 : Int32) (h : gk_H), gk_P gw_I (d + 1) y_M_isNumeral b_M_isNumeral 14 (some .boolean) [] (b143 v0 v1 v4 v5 v6 v7 v8 v10 v11 h) 143 [(0, va_rf v0), (1, va_rf v1), (4, .int v4), (5, .int v5), (6, .int v6), (7, .int v7), (8, .long v8), (10, .int v10), (11, .int v11)] [] h) (v0 : Option Nat) (v1 : Option Nat) (v4 : Int32) (v5 : Int32) (v6 : Int32) (v7 : Int32) (v8 : Int64) (v10 : Int32) (v11 : Int32) (h : gk_H) : gk_P gw_I (d + 1) y_M_isNumeral b_M_isNumeral 14 (some .boolean) [] (f_M_isNumeral_b234 b143 v0 v1 v4 v5 v6 v7 v8 v10 v11 h) 234 [(0, va_rf v0), (1, va_rf v1), (4, .int v4), (5, .int v5), (6, .int v6), (7, .int v7), (8, .long v8), (10, .int v10), (11, .int v11)] [] h := by
  unfold f_M_isNumeral_b234
  refine gk_iincN (pc := 234) 2 (1 : Int32) (L' := fun x1 => [(4, .int x1), (0, va_rf v0), (1, va_rf v1), (5, .int v5), (6, .int v6), (7, .int v7), (8, .long v8), (10, .int v10), (11, .int v11)]) d_M_isNumeral_234 rfl rfl (Nat.le_of_ble_eq_true rfl) (fun _ => rfl) fun x1 => ?_
  refine gk_goto (pc := 237) 143 d_M_isNumeral_237 rfl ?_
  refine gk_weak [1, 2, 0, 3, 4, 5, 6, 7, 8] (L' := [(0, va_rf v0), (1, va_rf v1), (4, .int x1), (5, .int v5), (6, .int v6), (7, .int v7), (8, .long v8), (10, .int v10), (11, .int v11)]) rfl ?_
  exact q143 v0 v1 x1 v5 v6 v7 v8 v10 v11 h
theorem p_M_isNumeral_b207 (d : Nat) (b143 : Option Nat → Option Nat → Int32 → Int32 → Int32 → Int32 → Int64 → Int32 → Int32 → gk_H → Option (Int32 × gk_H)) (q143 : ∀ (v0 : Option Nat) (v1 : Option Nat) (v4 : Int32) (v5 : Int32) (v6 : Int32) (v7 : Int32) (v8 : Int64) (v10 : Int32) (v11 : Int32) (h : gk_H), gk_P gw_I (d + 1) y_M_isNumeral b_M_isNumeral 14 (some .boolean) [] (b143 v0 v1 v4 v5 v6 v7 v8 v10 v11 h) 143 [(0, va_rf v0), (1, va_rf v1), (4, .int v4), (5, .int v5), (6, .int v6), (7, .int v7), (8, .long v8), (10, .int v10), (11, .int v11)] [] h) (v0 : Option Nat) (v1 : Option Nat) (v4 : Int32) (v5 : Int32) (v6 : Int32) (v7 : Int32) (v8 : Int64) (v10 : Int32) (s0 : Int32) (h : gk_H) : gk_P gw_I (d + 1) y_M_isNumeral b_M_isNumeral 14 (some .boolean) [] (f_M_isNumeral_b207 b143 v0 v1 v4 v5 v6 v7 v8 v10 s0 h) 207 [(0, va_rf v0), (1, va_rf v1), (4, .int v4), (5, .int v5), (6, .int v6), (7, .int v7), (8, .long v8), (10, .int v10)] [.int s0] h := by
  unfold f_M_isNumeral_b207
  refine gk_istore (pc := 207) (L' := [(11, .int s0), (0, va_rf v0), (1, va_rf v1), (4, .int v4), (5, .int v5), (6, .int v6), (7, .int v7), (8, .long v8), (10, .int v10)]) d_M_isNumeral_207 (Nat.le_of_ble_eq_true rfl) rfl ?_
  refine gk_goto (pc := 209) 234 d_M_isNumeral_209 rfl ?_
  refine gk_weak [1, 2, 3, 4, 5, 6, 7, 8, 0] (L' := [(0, va_rf v0), (1, va_rf v1), (4, .int v4), (5, .int v5), (6, .int v6), (7, .int v7), (8, .long v8), (10, .int v10), (11, .int s0)]) rfl ?_
  exact p_M_isNumeral_b234 d b143 q143 v0 v1 v4 v5 v6 v7 v8 v10 s0 h
theorem p_M_isNumeral_b191 (d : Nat) (b143 : Option Nat → Option Nat → Int32 → Int32 → Int32 → Int32 → Int64 → Int32 → Int32 → gk_H → Option (Int32 × gk_H)) (q143 : ∀ (v0 : Option Nat) (v1 : Option Nat) (v4 : Int32) (v5 : Int32) (v6 : Int32) (v7 : Int32) (v8 : Int64) (v10 : Int32) (v11 : Int32) (h : gk_H), gk_P gw_I (d + 1) y_M_isNumeral b_M_isNumeral 14 (some .boolean) [] (b143 v0 v1 v4 v5 v6 v7 v8 v10 v11 h) 143 [(0, va_rf v0), (1, va_rf v1), (4, .int v4), (5, .int v5), (6, .int v6), (7, .int v7), (8, .long v8), (10, .int v10), (11, .int v11)] [] h) (v0 : Option Nat) (v1 : Option Nat) (v4 : Int32) (v5 : Int32) (v6 : Int32) (v7 : Int32) (v10 : Int32) (v11 : Int32) (s0 : Int64) (h : gk_H) : gk_P gw_I (d + 1) y_M_isNumeral b_M_isNumeral 14 (some .boolean) [] (f_M_isNumeral_b191 b143 v0 v1 v4 v5 v6 v7 v10 v11 s0 h) 191 [(0, va_rf v0), (1, va_rf v1), (4, .int v4), (5, .int v5), (6, .int v6), (7, .int v7), (10, .int v10), (11, .int v11)] [.long s0] h := by
  unfold f_M_isNumeral_b191
  refine gk_lstore (pc := 191) (L' := [(8, .long s0), (0, va_rf v0), (1, va_rf v1), (4, .int v4), (5, .int v5), (6, .int v6), (7, .int v7), (10, .int v10), (11, .int v11)]) d_M_isNumeral_191 (Nat.le_of_ble_eq_true rfl) rfl ?_
  refine gk_iload (pc := 193) 8 d_M_isNumeral_193 rfl ?_
  refine gk_if_lt (pc := 195) 205 d_M_isNumeral_195 rfl (fun _ => ?_) (fun _ => ?_)
  · refine gk_iload (pc := 205) 8 d_M_isNumeral_205 rfl ?_
    refine gk_weak [1, 2, 3, 4, 5, 6, 0, 7] (L' := [(0, va_rf v0), (1, va_rf v1), (4, .int v4), (5, .int v5), (6, .int v6), (7, .int v7), (8, .long s0), (10, .int v10)]) rfl ?_
    exact p_M_isNumeral_b207 d b143 q143 v0 v1 v4 v5 v6 v7 s0 v10 v11 h
  · refine gk_iload (pc := 198) 8 d_M_isNumeral_198 rfl ?_
    refine gk_iconst (pc := 200) (1 : Int32) d_M_isNumeral_200 rfl ?_
    refine gk_iadd (pc := 201) d_M_isNumeral_201 ?_
    refine gk_goto (pc := 202) 207 d_M_isNumeral_202 rfl ?_
    refine gk_weak [1, 2, 3, 4, 5, 6, 0, 7] (L' := [(0, va_rf v0), (1, va_rf v1), (4, .int v4), (5, .int v5), (6, .int v6), (7, .int v7), (8, .long s0), (10, .int v10)]) rfl ?_
    exact p_M_isNumeral_b207 d b143 q143 v0 v1 v4 v5 v6 v7 s0 v10 (v11 + (1 : Int32)) h
theorem p_M_isNumeral_b143 (d : Nat)  : ∀ (fu : Nat) (v0 : Option Nat) (v1 : Option Nat) (v4 : Int32) (v5 : Int32) (v6 : Int32) (v7 : Int32) (v8 : Int64) (v10 : Int32) (v11 : Int32) (h : gk_H), gk_P gw_I (d + 1) y_M_isNumeral b_M_isNumeral 14 (some .boolean) [] (f_M_isNumeral_b143  fu v0 v1 v4 v5 v6 v7 v8 v10 v11 h) 143 [(0, va_rf v0), (1, va_rf v1), (4, .int v4), (5, .int v5), (6, .int v6), (7, .int v7), (8, .long v8), (10, .int v10), (11, .int v11)] [] h := by
  intro fu
  induction fu with
  | zero => intros; exact gk_none
  | succ fu q143 =>
    intro v0 v1 v4 v5 v6 v7 v8 v10 v11 h
    rw [f_M_isNumeral_b143]
    refine gk_iload (pc := 143) 2 d_M_isNumeral_143 rfl ?_
    refine gk_iload (pc := 145) 3 d_M_isNumeral_145 rfl ?_
    refine gk_icmp_ge (pc := 147) 240 d_M_isNumeral_147 rfl (fun _ => ?_) (fun _ => ?_)
    · refine gk_iload (pc := 240) 7 d_M_isNumeral_240 rfl ?_
      refine gk_iconst (pc := 242) (1 : Int32) d_M_isNumeral_242 rfl ?_
      refine gk_icmp_lt (pc := 243) 253 d_M_isNumeral_243 rfl (fun _ => ?_) (fun _ => ?_)
      · refine gk_weak [] (L' := []) rfl ?_
        exact p_M_isNumeral_b253 d h
      · refine gk_iload (pc := 246) 7 d_M_isNumeral_246 rfl ?_
        refine gk_bipush (pc := 248) (15 : Int32) d_M_isNumeral_248 rfl ?_
        refine gk_icmp_le (pc := 250) 255 d_M_isNumeral_250 rfl (fun _ => ?_) (fun _ => ?_)
        · refine gk_lload (pc := 255) 6 d_M_isNumeral_255 rfl ?_
          refine gk_l2d (pc := 257) d_M_isNumeral_257 ?_
          refine gk_topD (pc := 258) fun x1 => ?_
          refine gk_dstore (pc := 258) (L' := [(12, .double x1), (0, va_rf v0), (1, va_rf v1), (4, .int v4), (5, .int v5), (6, .int v6), (7, .int v7), (8, .long v8), (10, .int v10), (11, .int v11)]) d_M_isNumeral_258 (Nat.le_of_ble_eq_true rfl) rfl ?_
          refine gk_iload (pc := 260) 9 d_M_isNumeral_260 rfl ?_
          refine gk_if_le (pc := 262) 275 d_M_isNumeral_262 rfl (fun _ => ?_) (fun _ => ?_)
          · refine gk_weak [1, 5, 6, 0] (L' := [(0, va_rf v0), (6, .int v6), (7, .int v7), (12, .double x1)]) rfl ?_
            exact p_M_isNumeral_b275 d v0 v6 v7 x1 h
          · refine gk_dload (pc := 265) 0 d_M_isNumeral_265 rfl ?_
            refine gk_iload (pc := 267) 9 d_M_isNumeral_267 rfl ?_
            refine gk_callS (pc := 269) (d := d) (w' := gv_D) (as := [.int v11]) (n := 1) d_M_isNumeral_269 rfl rfl (Nat.le_of_ble_eq_true rfl) tw_1883 tw_1884 tw_99 cw_M_tens hy_M_tens (Nat.le_of_ble_eq_true rfl) (p_M_tens d v11 h) fun x2 h1 => ?_
            refine gk_ddivN (pc := 272) d_M_isNumeral_272 fun x3 => ?_
            refine gk_dstore (pc := 273) (L' := [(12, .double x3), (0, va_rf v0), (1, va_rf v1), (4, .int v4), (5, .int v5), (6, .int v6), (7, .int v7), (8, .long v8), (10, .int v10), (11, .int v11)]) d_M_isNumeral_273 (Nat.le_of_ble_eq_true rfl) rfl ?_
            refine gk_weak [1, 5, 6, 0] (L' := [(0, va_rf v0), (6, .int v6), (7, .int v7), (12, .double x3)]) rfl ?_
            exact p_M_isNumeral_b275 d v0 v6 v7 x3 h1
        · refine gk_weak [] (L' := []) rfl ?_
          exact p_M_isNumeral_b253 d h
    · refine gk_aload_n (pc := 150) 1 d_M_isNumeral_150 rfl ?_
      refine gk_iload (pc := 151) 2 d_M_isNumeral_151 rfl ?_
      refine gk_bald (pc := 153) d_M_isNumeral_153 fun x4 => ?_
      refine gk_callS (pc := 154) (d := d) (w' := gv_I) (as := [.int x4]) (n := 1) d_M_isNumeral_154 rfl rfl (Nat.le_of_ble_eq_true rfl) tw_1880 tw_1881 tw_99 cw_M_isDigit hy_M_isDigit (Nat.le_of_ble_eq_true rfl) (p_M_isDigit d x4 h) fun x5 h2 => ?_
      refine gk_if_eq (pc := 157) 212 d_M_isNumeral_157 rfl (fun _ => ?_) (fun _ => ?_)
      · refine gk_aload_n (pc := 212) 1 d_M_isNumeral_212 rfl ?_
        refine gk_iload (pc := 213) 2 d_M_isNumeral_213 rfl ?_
        refine gk_bald (pc := 215) d_M_isNumeral_215 fun x6 => ?_
        refine gk_bipush (pc := 216) (46 : Int32) d_M_isNumeral_216 rfl ?_
        refine gk_icmp_ne (pc := 218) 232 d_M_isNumeral_218 rfl (fun _ => ?_) (fun _ => ?_)
        · refine gk_iload (pc := 221) 8 d_M_isNumeral_221 rfl ?_
          refine gk_if_ge (pc := 223) 232 d_M_isNumeral_223 rfl (fun _ => ?_) (fun _ => ?_)
          · refine gk_weak [] (L' := []) rfl ?_
            exact p_M_isNumeral_b232 d h2
          · refine gk_iconst (pc := 226) (0 : Int32) d_M_isNumeral_226 rfl ?_
            refine gk_istore (pc := 227) (L' := [(11, .int (0 : Int32)), (0, va_rf v0), (1, va_rf v1), (4, .int v4), (5, .int v5), (6, .int v6), (7, .int v7), (8, .long v8), (10, .int v10)]) d_M_isNumeral_227 (Nat.le_of_ble_eq_true rfl) rfl ?_
            refine gk_goto (pc := 229) 234 d_M_isNumeral_229 rfl ?_
            refine gk_weak [1, 2, 3, 4, 5, 6, 7, 8, 0] (L' := [(0, va_rf v0), (1, va_rf v1), (4, .int v4), (5, .int v5), (6, .int v6), (7, .int v7), (8, .long v8), (10, .int v10), (11, .int (0 : Int32))]) rfl ?_
            exact p_M_isNumeral_b234 d (f_M_isNumeral_b143 fu) q143 v0 v1 v4 v5 v6 v7 v8 v10 (0 : Int32) h2
        · refine gk_weak [] (L' := []) rfl ?_
          exact p_M_isNumeral_b232 d h2
      · refine gk_iincN (pc := 160) 7 (1 : Int32) (L' := fun x7 => [(10, .int x7), (0, va_rf v0), (1, va_rf v1), (4, .int v4), (5, .int v5), (6, .int v6), (7, .int v7), (8, .long v8), (11, .int v11)]) d_M_isNumeral_160 rfl rfl (Nat.le_of_ble_eq_true rfl) (fun _ => rfl) fun x7 => ?_
        refine gk_iload (pc := 163) 0 d_M_isNumeral_163 rfl ?_
        refine gk_bipush (pc := 165) (16 : Int32) d_M_isNumeral_165 rfl ?_
        refine gk_icmp_ge (pc := 167) 189 d_M_isNumeral_167 rfl (fun _ => ?_) (fun _ => ?_)
        · refine gk_lload (pc := 189) 7 d_M_isNumeral_189 rfl ?_
          refine gk_weak [1, 2, 3, 4, 5, 6, 0, 8] (L' := [(0, va_rf v0), (1, va_rf v1), (4, .int v4), (5, .int v5), (6, .int v6), (7, .int v7), (10, .int x7), (11, .int v11)]) rfl ?_
          exact p_M_isNumeral_b191 d (f_M_isNumeral_b143 fu) q143 v0 v1 v4 v5 v6 v7 x7 v11 v8 h2
        · refine gk_ldc2 (pc := 170) tw_1847 d_M_isNumeral_170 ?_
          refine gk_lload (pc := 173) 7 d_M_isNumeral_173 rfl ?_
          refine gk_lmul (pc := 175) d_M_isNumeral_175 ?_
          refine gk_aload_n (pc := 176) 2 d_M_isNumeral_176 rfl ?_
          refine gk_iload (pc := 177) 3 d_M_isNumeral_177 rfl ?_
          refine gk_bald (pc := 179) d_M_isNumeral_179 fun x8 => ?_
          refine gk_i2l (pc := 180) d_M_isNumeral_180 ?_
          refine gk_ladd (pc := 181) d_M_isNumeral_181 ?_
          refine gk_ldc2 (pc := 182) tw_1848 d_M_isNumeral_182 ?_
          refine gk_lsub (pc := 185) d_M_isNumeral_185 ?_
          refine gk_goto (pc := 186) 191 d_M_isNumeral_186 rfl ?_
          refine gk_weak [1, 2, 3, 4, 5, 6, 0, 8] (L' := [(0, va_rf v0), (1, va_rf v1), (4, .int v4), (5, .int v5), (6, .int v6), (7, .int v7), (10, .int x7), (11, .int v11)]) rfl ?_
          exact p_M_isNumeral_b191 d (f_M_isNumeral_b143 fu) q143 v0 v1 v4 v5 v6 v7 x7 v11 ((((10 : Int64) * v8) + (Int32.toInt64 x8)) - (48 : Int64)) h2
theorem p_M_isNumeral_b132 (d : Nat)  (v0 : Option Nat) (v1 : Option Nat) (v4 : Int32) (v6 : Int32) (v7 : Int32) (s0 : Int32) (h : gk_H) : gk_P gw_I (d + 1) y_M_isNumeral b_M_isNumeral 14 (some .boolean) [] (f_M_isNumeral_b132  v0 v1 v4 v6 v7 s0 h) 132 [(0, va_rf v0), (1, va_rf v1), (4, .int v4), (6, .int v6), (7, .int v7)] [.int s0] h := by
  unfold f_M_isNumeral_b132
  refine gk_istore (pc := 132) (L' := [(5, .int s0), (0, va_rf v0), (1, va_rf v1), (4, .int v4), (6, .int v6), (7, .int v7)]) d_M_isNumeral_132 (Nat.le_of_ble_eq_true rfl) rfl ?_
  refine gk_lconst (pc := 134) (0 : Int64) d_M_isNumeral_134 rfl ?_
  refine gk_lstore (pc := 135) (L' := [(8, .long (0 : Int64)), (5, .int s0), (0, va_rf v0), (1, va_rf v1), (4, .int v4), (6, .int v6), (7, .int v7)]) d_M_isNumeral_135 (Nat.le_of_ble_eq_true rfl) rfl ?_
  refine gk_iconst (pc := 137) (0 : Int32) d_M_isNumeral_137 rfl ?_
  refine gk_istore (pc := 138) (L' := [(10, .int (0 : Int32)), (8, .long (0 : Int64)), (5, .int s0), (0, va_rf v0), (1, va_rf v1), (4, .int v4), (6, .int v6), (7, .int v7)]) d_M_isNumeral_138 (Nat.le_of_ble_eq_true rfl) rfl ?_
  refine gk_iconst (pc := 140) (-1 : Int32) d_M_isNumeral_140 rfl ?_
  refine gk_istore (pc := 141) (L' := [(11, .int (-1 : Int32)), (10, .int (0 : Int32)), (8, .long (0 : Int64)), (5, .int s0), (0, va_rf v0), (1, va_rf v1), (4, .int v4), (6, .int v6), (7, .int v7)]) d_M_isNumeral_141 (Nat.le_of_ble_eq_true rfl) rfl ?_
  refine gk_weak [4, 5, 6, 3, 7, 8, 2, 1, 0] (L' := [(0, va_rf v0), (1, va_rf v1), (4, .int v4), (5, .int s0), (6, .int v6), (7, .int v7), (8, .long (0 : Int64)), (10, .int (0 : Int32)), (11, .int (-1 : Int32))]) rfl ?_
  exact p_M_isNumeral_b143 d gk_F v0 v1 v4 s0 v6 v7 (0 : Int64) (0 : Int32) (-1 : Int32) h
theorem p_M_isNumeral_b116 (d : Nat)  (v0 : Option Nat) (v1 : Option Nat) (v4 : Int32) (v5 : Int32) (v6 : Int32) (s0 : Int32) (h : gk_H) : gk_P gw_I (d + 1) y_M_isNumeral b_M_isNumeral 14 (some .boolean) [] (f_M_isNumeral_b116  v0 v1 v4 v5 v6 s0 h) 116 [(0, va_rf v0), (1, va_rf v1), (4, .int v4), (5, .int v5), (6, .int v6)] [.int s0] h := by
  unfold f_M_isNumeral_b116
  refine gk_istore (pc := 116) (L' := [(7, .int s0), (0, va_rf v0), (1, va_rf v1), (4, .int v4), (5, .int v5), (6, .int v6)]) d_M_isNumeral_116 (Nat.le_of_ble_eq_true rfl) rfl ?_
  refine gk_iload (pc := 118) 0 d_M_isNumeral_118 rfl ?_
  refine gk_if_eq (pc := 120) 130 d_M_isNumeral_120 rfl (fun _ => ?_) (fun _ => ?_)
  · refine gk_iload (pc := 130) 4 d_M_isNumeral_130 rfl ?_
    refine gk_weak [1, 2, 3, 5, 0] (L' := [(0, va_rf v0), (1, va_rf v1), (4, .int v4), (6, .int v6), (7, .int s0)]) rfl ?_
    exact p_M_isNumeral_b132 d v0 v1 v4 v6 s0 v5 h
  · refine gk_iload (pc := 123) 4 d_M_isNumeral_123 rfl ?_
    refine gk_iconst (pc := 125) (1 : Int32) d_M_isNumeral_125 rfl ?_
    refine gk_isub (pc := 126) d_M_isNumeral_126 ?_
    refine gk_goto (pc := 127) 132 d_M_isNumeral_127 rfl ?_
    refine gk_weak [1, 2, 3, 5, 0] (L' := [(0, va_rf v0), (1, va_rf v1), (4, .int v4), (6, .int v6), (7, .int s0)]) rfl ?_
    exact p_M_isNumeral_b132 d v0 v1 v4 v6 s0 (v5 - (1 : Int32)) h
theorem p_M_isNumeral_b115 (d : Nat)  (v0 : Option Nat) (v1 : Option Nat) (v4 : Int32) (v5 : Int32) (v6 : Int32) (h : gk_H) : gk_P gw_I (d + 1) y_M_isNumeral b_M_isNumeral 14 (some .boolean) [] (f_M_isNumeral_b115  v0 v1 v4 v5 v6 h) 115 [(0, va_rf v0), (1, va_rf v1), (4, .int v4), (5, .int v5), (6, .int v6)] [] h := by
  unfold f_M_isNumeral_b115
  refine gk_iconst (pc := 115) (0 : Int32) d_M_isNumeral_115 rfl ?_
  exact p_M_isNumeral_b116 d v0 v1 v4 v5 v6 (0 : Int32) h
theorem p_M_isNumeral_b91 (d : Nat)  (v0 : Option Nat) (v1 : Option Nat) (v5 : Int32) (v6 : Int32) (s0 : Int32) (h : gk_H) : gk_P gw_I (d + 1) y_M_isNumeral b_M_isNumeral 14 (some .boolean) [] (f_M_isNumeral_b91  v0 v1 v5 v6 s0 h) 91 [(0, va_rf v0), (1, va_rf v1), (5, .int v5), (6, .int v6)] [.int s0] h := by
  unfold f_M_isNumeral_b91
  refine gk_istore (pc := 91) (L' := [(4, .int s0), (0, va_rf v0), (1, va_rf v1), (5, .int v5), (6, .int v6)]) d_M_isNumeral_91 (Nat.le_of_ble_eq_true rfl) rfl ?_
  refine gk_iload (pc := 93) 3 d_M_isNumeral_93 rfl ?_
  refine gk_iload (pc := 95) 0 d_M_isNumeral_95 rfl ?_
  refine gk_icmp_le (pc := 97) 115 d_M_isNumeral_97 rfl (fun _ => ?_) (fun _ => ?_)
  · refine gk_weak [1, 2, 0, 3, 4] (L' := [(0, va_rf v0), (1, va_rf v1), (4, .int s0), (5, .int v5), (6, .int v6)]) rfl ?_
    exact p_M_isNumeral_b115 d v0 v1 s0 v5 v6 h
  · refine gk_aload_n (pc := 100) 2 d_M_isNumeral_100 rfl ?_
    refine gk_iload (pc := 101) 3 d_M_isNumeral_101 rfl ?_
    refine gk_iconst (pc := 103) (1 : Int32) d_M_isNumeral_103 rfl ?_
    refine gk_isub (pc := 104) d_M_isNumeral_104 ?_
    refine gk_bald (pc := 105) d_M_isNumeral_105 fun x1 => ?_
    refine gk_bipush (pc := 106) (37 : Int32) d_M_isNumeral_106 rfl ?_
    refine gk_icmp_ne (pc := 108) 115 d_M_isNumeral_108 rfl (fun _ => ?_) (fun _ => ?_)
    · refine gk_iconst (pc := 111) (1 : Int32) d_M_isNumeral_111 rfl ?_
      refine gk_goto (pc := 112) 116 d_M_isNumeral_112 rfl ?_
      refine gk_weak [1, 2, 0, 3, 4] (L' := [(0, va_rf v0), (1, va_rf v1), (4, .int s0), (5, .int v5), (6, .int v6)]) rfl ?_
      exact p_M_isNumeral_b116 d v0 v1 s0 v5 v6 (1 : Int32) h
    · refine gk_weak [1, 2, 0, 3, 4] (L' := [(0, va_rf v0), (1, va_rf v1), (4, .int s0), (5, .int v5), (6, .int v6)]) rfl ?_
      exact p_M_isNumeral_b115 d v0 v1 s0 v5 v6 h
theorem p_M_isNumeral_b75 (d : Nat)  (v0 : Option Nat) (v1 : Option Nat) (v4 : Int32) (v5 : Int32) (s0 : Int32) (h : gk_H) : gk_P gw_I (d + 1) y_M_isNumeral b_M_isNumeral 14 (some .boolean) [] (f_M_isNumeral_b75  v0 v1 v4 v5 s0 h) 75 [(0, va_rf v0), (1, va_rf v1), (4, .int v4), (5, .int v5)] [.int s0] h := by
  unfold f_M_isNumeral_b75
  refine gk_istore (pc := 75) (L' := [(6, .int s0), (0, va_rf v0), (1, va_rf v1), (4, .int v4), (5, .int v5)]) d_M_isNumeral_75 (Nat.le_of_ble_eq_true rfl) rfl ?_
  refine gk_iload (pc := 77) 0 d_M_isNumeral_77 rfl ?_
  refine gk_if_eq (pc := 79) 89 d_M_isNumeral_79 rfl (fun _ => ?_) (fun _ => ?_)
  · refine gk_iload (pc := 89) 3 d_M_isNumeral_89 rfl ?_
    refine gk_weak [1, 2, 4, 0] (L' := [(0, va_rf v0), (1, va_rf v1), (5, .int v5), (6, .int s0)]) rfl ?_
    exact p_M_isNumeral_b91 d v0 v1 v5 s0 v4 h
  · refine gk_iload (pc := 82) 3 d_M_isNumeral_82 rfl ?_
    refine gk_iconst (pc := 84) (1 : Int32) d_M_isNumeral_84 rfl ?_
    refine gk_iadd (pc := 85) d_M_isNumeral_85 ?_
    refine gk_goto (pc := 86) 91 d_M_isNumeral_86 rfl ?_
    refine gk_weak [1, 2, 4, 0] (L' := [(0, va_rf v0), (1, va_rf v1), (5, .int v5), (6, .int s0)]) rfl ?_
    exact p_M_isNumeral_b91 d v0 v1 v5 s0 (v4 + (1 : Int32)) h
theorem p_M_isNumeral_b74 (d : Nat)  (v0 : Option Nat) (v1 : Option Nat) (v4 : Int32) (v5 : Int32) (h : gk_H) : gk_P gw_I (d + 1) y_M_isNumeral b_M_isNumeral 14 (some .boolean) [] (f_M_isNumeral_b74  v0 v1 v4 v5 h) 74 [(0, va_rf v0), (1, va_rf v1), (4, .int v4), (5, .int v5)] [] h := by
  unfold f_M_isNumeral_b74
  refine gk_iconst (pc := 74) (0 : Int32) d_M_isNumeral_74 rfl ?_
  exact p_M_isNumeral_b75 d v0 v1 v4 v5 (0 : Int32) h
theorem p_M_isNumeral_b54 (d : Nat)  (v0 : Option Nat) (v1 : Option Nat) (v4 : Int32) (v5 : Int32) (h : gk_H) : gk_P gw_I (d + 1) y_M_isNumeral b_M_isNumeral 14 (some .boolean) [] (f_M_isNumeral_b54  v0 v1 v4 v5 h) 54 [(0, va_rf v0), (1, va_rf v1), (4, .int v4), (5, .int v5)] [] h := by
  unfold f_M_isNumeral_b54
  refine gk_iload (pc := 54) 2 d_M_isNumeral_54 rfl ?_
  refine gk_iload (pc := 56) 3 d_M_isNumeral_56 rfl ?_
  refine gk_icmp_ge (pc := 58) 74 d_M_isNumeral_58 rfl (fun _ => ?_) (fun _ => ?_)
  · exact p_M_isNumeral_b74 d v0 v1 v4 v5 h
  · refine gk_aload_n (pc := 61) 1 d_M_isNumeral_61 rfl ?_
    refine gk_iload (pc := 62) 2 d_M_isNumeral_62 rfl ?_
    refine gk_bald (pc := 64) d_M_isNumeral_64 fun x1 => ?_
    refine gk_bipush (pc := 65) (45 : Int32) d_M_isNumeral_65 rfl ?_
    refine gk_icmp_ne (pc := 67) 74 d_M_isNumeral_67 rfl (fun _ => ?_) (fun _ => ?_)
    · refine gk_iconst (pc := 70) (1 : Int32) d_M_isNumeral_70 rfl ?_
      refine gk_goto (pc := 71) 75 d_M_isNumeral_71 rfl ?_
      exact p_M_isNumeral_b75 d v0 v1 v4 v5 (1 : Int32) h
    · exact p_M_isNumeral_b74 d v0 v1 v4 v5 h
theorem p_M_isNumeral_b30 (d : Nat)  : ∀ (fu : Nat) (v0 : Option Nat) (v1 : Option Nat) (v4 : Int32) (v5 : Int32) (h : gk_H), gk_P gw_I (d + 1) y_M_isNumeral b_M_isNumeral 14 (some .boolean) [] (f_M_isNumeral_b30  fu v0 v1 v4 v5 h) 30 [(0, va_rf v0), (1, va_rf v1), (4, .int v4), (5, .int v5)] [] h := by
  intro fu
  induction fu with
  | zero => intros; exact gk_none
  | succ fu q30 =>
    intro v0 v1 v4 v5 h
    rw [f_M_isNumeral_b30]
    refine gk_iload (pc := 30) 3 d_M_isNumeral_30 rfl ?_
    refine gk_iload (pc := 32) 2 d_M_isNumeral_32 rfl ?_
    refine gk_icmp_le (pc := 34) 54 d_M_isNumeral_34 rfl (fun _ => ?_) (fun _ => ?_)
    · exact p_M_isNumeral_b54 d v0 v1 v4 v5 h
    · refine gk_aload_n (pc := 37) 1 d_M_isNumeral_37 rfl ?_
      refine gk_iload (pc := 38) 3 d_M_isNumeral_38 rfl ?_
      refine gk_iconst (pc := 40) (1 : Int32) d_M_isNumeral_40 rfl ?_
      refine gk_isub (pc := 41) d_M_isNumeral_41 ?_
      refine gk_bald (pc := 42) d_M_isNumeral_42 fun x1 => ?_
      refine gk_bipush (pc := 43) (32 : Int32) d_M_isNumeral_43 rfl ?_
      refine gk_icmp_ne (pc := 45) 54 d_M_isNumeral_45 rfl (fun _ => ?_) (fun _ => ?_)
      · refine gk_iincN (pc := 48) 3 (-1 : Int32) (L' := fun x2 => [(5, .int x2), (0, va_rf v0), (1, va_rf v1), (4, .int v4)]) d_M_isNumeral_48 rfl rfl (Nat.le_of_ble_eq_true rfl) (fun _ => rfl) fun x2 => ?_
        refine gk_goto (pc := 51) 30 d_M_isNumeral_51 rfl ?_
        refine gk_weak [1, 2, 3, 0] (L' := [(0, va_rf v0), (1, va_rf v1), (4, .int v4), (5, .int x2)]) rfl ?_
        exact q30 v0 v1 v4 x2 h
      · exact p_M_isNumeral_b54 d v0 v1 v4 v5 h
theorem p_M_isNumeral_b8 (d : Nat)  : ∀ (fu : Nat) (v0 : Option Nat) (v1 : Option Nat) (v4 : Int32) (v5 : Int32) (h : gk_H), gk_P gw_I (d + 1) y_M_isNumeral b_M_isNumeral 14 (some .boolean) [] (f_M_isNumeral_b8  fu v0 v1 v4 v5 h) 8 [(0, va_rf v0), (1, va_rf v1), (4, .int v4), (5, .int v5)] [] h := by
  intro fu
  induction fu with
  | zero => intros; exact gk_none
  | succ fu q8 =>
    intro v0 v1 v4 v5 h
    rw [f_M_isNumeral_b8]
    refine gk_iload (pc := 8) 2 d_M_isNumeral_8 rfl ?_
    refine gk_iload (pc := 10) 3 d_M_isNumeral_10 rfl ?_
    refine gk_icmp_ge (pc := 12) 30 d_M_isNumeral_12 rfl (fun _ => ?_) (fun _ => ?_)
    · exact p_M_isNumeral_b30 d gk_F v0 v1 v4 v5 h
    · refine gk_aload_n (pc := 15) 1 d_M_isNumeral_15 rfl ?_
      refine gk_iload (pc := 16) 2 d_M_isNumeral_16 rfl ?_
      refine gk_bald (pc := 18) d_M_isNumeral_18 fun x1 => ?_
      refine gk_bipush (pc := 19) (32 : Int32) d_M_isNumeral_19 rfl ?_
      refine gk_icmp_ne (pc := 21) 30 d_M_isNumeral_21 rfl (fun _ => ?_) (fun _ => ?_)
      · refine gk_iincN (pc := 24) 2 (1 : Int32) (L' := fun x2 => [(4, .int x2), (0, va_rf v0), (1, va_rf v1), (5, .int v5)]) d_M_isNumeral_24 rfl rfl (Nat.le_of_ble_eq_true rfl) (fun _ => rfl) fun x2 => ?_
        refine gk_goto (pc := 27) 8 d_M_isNumeral_27 rfl ?_
        refine gk_weak [1, 2, 0, 3] (L' := [(0, va_rf v0), (1, va_rf v1), (4, .int x2), (5, .int v5)]) rfl ?_
        exact q8 v0 v1 x2 v5 h
      · exact p_M_isNumeral_b30 d gk_F v0 v1 v4 v5 h
theorem w_M_isNumeral (d : Nat) (a0 : Option Nat) (a1 : Option Nat) (a2 : Int32) (a3 : Int32) (h : gk_H) : gk_P gw_I (d + 1) y_M_isNumeral b_M_isNumeral 14 (some .boolean) [] (f_M_isNumeral a0 a1 a2 a3 h) 0 [(0, va_rf a0), (1, va_rf a1), (2, .int a2), (3, .int a3)] [] h := by
  unfold f_M_isNumeral
  refine gk_iload_n (pc := 0) 2 d_M_isNumeral_0 rfl ?_
  refine gk_istore (pc := 1) (L' := [(4, .int a2), (0, va_rf a0), (1, va_rf a1), (2, .int a2), (3, .int a3)]) d_M_isNumeral_1 (Nat.le_of_ble_eq_true rfl) rfl ?_
  refine gk_iload_n (pc := 3) 3 d_M_isNumeral_3 rfl ?_
  refine gk_iload_n (pc := 4) 4 d_M_isNumeral_4 rfl ?_
  refine gk_iadd (pc := 5) d_M_isNumeral_5 ?_
  refine gk_topI (pc := 6) fun x1 => ?_
  refine gk_istore (pc := 6) (L' := [(5, .int x1), (4, .int a2), (0, va_rf a0), (1, va_rf a1), (2, .int a2), (3, .int a3)]) d_M_isNumeral_6 (Nat.le_of_ble_eq_true rfl) rfl ?_
  refine gk_weak [2, 3, 1, 0] (L' := [(0, va_rf a0), (1, va_rf a1), (4, .int a2), (5, .int x1)]) rfl ?_
  exact p_M_isNumeral_b8 d gk_F a0 a1 a2 x1 h
theorem p_M_isNumeral (d : Nat) (a0 : Option Nat) (a1 : Option Nat) (a2 : Int32) (a3 : Int32) (h : gk_H) : ∀ r h1, f_M_isNumeral a0 a1 a2 a3 h = some (r, h1) → gk_M (d + 1) y_M_isNumeral b_M_isNumeral 14 (some .boolean) [va_rf a0, va_rf a1, .int a2, .int a3] h (.inl (gv_I r)) h1 :=
  fun r h1 e => gk_M_of2 (by decide +kernel) (by simp [lv_args, gk_cat_rf, gk_catI, gk_catJ, gk_catD, gv_V, gv_I, gv_J, gv_D, gv_R]) (by simp [lg_sl, gk_cat_rf, gk_catI, gk_catJ, gk_catD, gv_V, gv_I, gv_J, gv_D, gv_R]) (w_M_isNumeral d a0 a1 a2 a3 h r h1 e)
