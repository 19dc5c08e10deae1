theorem d_AB_init_0 : decode b_AB_init 0 = .ok (.aload_n 0, 1) := by decide +kernel
theorem d_AB_init_1 : decode b_AB_init 1 = .ok (.invokespecial 3, 3) := by decide +kernel
theorem d_AB_init_4 : decode b_AB_init 4 = .ok (.getstatic 18, 3) := by decide +kernel
theorem d_AB_init_7 : decode b_AB_init 7 = .ok (.ifCond .eq 18, 3) := by decide +kernel
theorem d_AB_init_10 : decode b_AB_init 10 = .ok (.aload_n 0, 1) := by decide +kernel
theorem d_AB_init_11 : decode b_AB_init 11 = .ok (.iload_n 1, 1) := by decide +kernel
theorem d_AB_init_12 : decode b_AB_init 12 = .ok (.newarray .byte, 2) := by decide +kernel
theorem d_AB_init_14 : decode b_AB_init 14 = .ok (.putfield 15, 3) := by decide +kernel
theorem d_AB_init_17 : decode b_AB_init 17 = .ok (.aload_n 0, 1) := by decide +kernel
theorem d_AB_init_18 : decode b_AB_init 18 = .ok (.iconst 0, 1) := by decide +kernel
theorem d_AB_init_19 : decode b_AB_init 19 = .ok (.putfield 22, 3) := by decide +kernel
theorem d_AB_init_22 : decode b_AB_init 22 = .ok (.goto 16, 3) := by decide +kernel
theorem d_AB_init_38 : decode b_AB_init 38 = .ok (.return_, 1) := by decide +kernel
theorem w_AB_init (d : Nat) (a0 : Option Nat) (a1 : Int32) (h : gk_H) : gk_P gw_V (d + 1) y_AB_init b_AB_init 2 none [] (f_AB_init a0 a1 h) 0 [(0, va_rf a0), (1, .int a1)] [] h := by
  unfold f_AB_init
  refine gk_aload_n (pc := 0) 0 d_AB_init_0 rfl ?_
  refine gk_objI (pc := 1) (d := d) d_AB_init_1 tw_143 (Nat.le_of_ble_eq_true rfl) ?_
  refine gk_gsI (pc := 4) 0 d_AB_init_4 rfl tw_144 fun x1 => ?_
  refine gk_if_eq (pc := 7) 25 d_AB_init_7 rfl (fun _ => ?_) (fun _ => ?_)
  · exact gk_none
  · refine gk_aload_n (pc := 10) 0 d_AB_init_10 rfl ?_
    refine gk_iload_n (pc := 11) 1 d_AB_init_11 rfl ?_
    refine gk_newA (pc := 12) 3 d_AB_init_12 rfl tw_167 (Nat.le_of_ble_eq_true rfl) fun x2 h1 => ?_
    refine gk_putfield (pc := 14) 1 0 d_AB_init_14 rfl (Nat.le_of_ble_eq_true rfl) tw_153 (Or.inl rfl) fun h2 => ?_
    refine gk_aload_n (pc := 17) 0 d_AB_init_17 rfl ?_
    refine gk_iconst (pc := 18) (0 : Int32) d_AB_init_18 rfl ?_
    refine gk_putfield (pc := 19) 1 1 d_AB_init_19 rfl (Nat.le_of_ble_eq_true rfl) tw_154 (Or.inl rfl) fun h3 => ?_
    refine gk_goto (pc := 22) 38 d_AB_init_22 rfl ?_
    exact gk_vret (pc := 38) rfl d_AB_init_38 rfl
theorem p_AB_init (d : Nat) (a0 : Option Nat) (a1 : Int32) (h : gk_H) : ∀ r h1, f_AB_init a0 a1 h = some (r, h1) → gk_M (d + 1) y_AB_init b_AB_init 2 none [va_rf a0, .int a1] h (.inl (gv_V r)) h1 :=
  fun r h1 e => gk_M_of2 (by decide +kernel) (by simp [lv_args, gk_cat_rf, gk_catI, gk_catJ, gk_catD, gv_V, gv_I, gv_J, gv_D, gv_R]) (by simp [lg_sl, gk_cat_rf, gk_catI, gk_catJ, gk_catD, gv_V, gv_I, gv_J, gv_D, gv_R]) (w_AB_init d a0 a1 h r h1 e)
theorem d_SB_init_0 : decode b_SB_init 0 = .ok (.aload_n 0, 1) := by decide +kernel
theorem d_SB_init_1 : decode b_SB_init 1 = .ok (.bipush 16, 2) := by decide +kernel
theorem d_SB_init_3 : decode b_SB_init 3 = .ok (.invokespecial 1, 3) := by decide +kernel
theorem d_SB_init_6 : decode b_SB_init 6 = .ok (.return_, 1) := by decide +kernel
theorem w_SB_init (d : Nat) (a0 : Option Nat) (h : gk_H) : gk_P gw_V (d + 2) y_SB_init b_SB_init 1 none [] (f_SB_init a0 h) 0 [(0, va_rf a0)] [] h := by
  unfold f_SB_init
  refine gk_aload_n (pc := 0) 0 d_SB_init_0 rfl ?_
  refine gk_bipush (pc := 1) (16 : Int32) d_SB_init_1 rfl ?_
  refine gk_callI (pc := 3) (d := (d + 1)) (w' := gv_V) (as := [.int (16 : Int32)]) (n := 1) 1 d_SB_init_3 rfl rfl (Nat.le_of_ble_eq_true rfl) tw_140 tw_141 tw_92 cw_AB_init rfl hy_AB_init (Nat.le_of_ble_eq_true rfl) (p_AB_init d a0 (16 : Int32) h) fun _ h1 => ?_
  exact gk_vret (pc := 6) rfl d_SB_init_6 rfl
theorem p_SB_init (d : Nat) (a0 : Option Nat) (h : gk_H) : ∀ r h1, f_SB_init a0 h = some (r, h1) → gk_M (d + 2) y_SB_init b_SB_init 1 none [va_rf a0] h (.inl (gv_V r)) h1 :=
  fun r h1 e => gk_M_of2 (by decide +kernel) (by simp [lv_args, gk_cat_rf, gk_catI, gk_catJ, gk_catD, gv_V, gv_I, gv_J, gv_D, gv_R]) (by simp [lg_sl, gk_cat_rf, gk_catI, gk_catJ, gk_catD, gv_V, gv_I, gv_J, gv_D, gv_R]) (w_SB_init d a0 h r h1 e)
theorem d_AB_length_0 : decode b_AB_length 0 = .ok (.aload_n 0, 1) := by decide +kernel
theorem d_AB_length_1 : decode b_AB_length 1 = .ok (.getfield 79, 3) := by decide +kernel
theorem d_AB_length_4 : decode b_AB_length 4 = .ok (.ireturn, 1) := by decide +kernel
theorem w_AB_length (d : Nat) (a0 : Option Nat) (h : gk_H) : gk_P gw_I d y_AB_length b_AB_length 1 (some .int) [] (f_AB_length a0 h) 0 [(0, va_rf a0)] [] h := by
  unfold f_AB_length
  refine gk_aload_n (pc := 0) 0 d_AB_length_0 rfl ?_
  refine gk_getI (pc := 1) 1 3 d_AB_length_1 rfl (Nat.le_of_ble_eq_true rfl) tw_157 fun x1 => ?_
  exact gk_iret (pc := 4) rfl d_AB_length_4 rfl
theorem p_AB_length (d : Nat) (a0 : Option Nat) (h : gk_H) : ∀ r h1, f_AB_length a0 h = some (r, h1) → gk_M d y_AB_length b_AB_length 1 (some .int) [va_rf a0] h (.inl (gv_I r)) h1 :=
  fun r h1 e => gk_M_of2 (by decide +kernel) (by simp [lv_args, gk_cat_rf, gk_catI, gk_catJ, gk_catD, gv_V, gv_I, gv_J, gv_D, gv_R]) (by simp [lg_sl, gk_cat_rf, gk_catI, gk_catJ, gk_catD, gv_V, gv_I, gv_J, gv_D, gv_R]) (w_AB_length d a0 h r h1 e)
theorem d_SB_length_0 : decode b_SB_length 0 = .ok (.aload_n 0, 1) := by decide +kernel
theorem d_SB_length_1 : decode b_SB_length 1 = .ok (.invokespecial 343, 3) := by decide +kernel
theorem d_SB_length_4 : decode b_SB_length 4 = .ok (.ireturn, 1) := by decide +kernel
theorem w_SB_length (d : Nat) (a0 : Option Nat) (h : gk_H) : gk_P gw_I (d + 1) y_SB_length b_SB_length 1 (some .int) [] (f_SB_length a0 h) 0 [(0, va_rf a0)] [] h := by
  unfold f_SB_length
  refine gk_aload_n (pc := 0) 0 d_SB_length_0 rfl ?_
  refine gk_callSU (pc := 1) (d := d) (w' := gv_I) (as := []) (n := 0) 1 d_SB_length_1 rfl rfl rfl (Nat.le_of_ble_eq_true rfl) tw_425 tw_2182 tw_166 tw_426 tw_92 cw_AB_length hs_AB_length (Nat.le_of_ble_eq_true rfl) (p_AB_length d a0 h) fun x1 h1 => ?_
  exact gk_iret (pc := 4) rfl d_SB_length_4 rfl
theorem p_SB_length (d : Nat) (a0 : Option Nat) (h : gk_H) : ∀ r h1, f_SB_length a0 h = some (r, h1) → gk_M (d + 1) y_SB_length b_SB_length 1 (some .int) [va_rf a0] h (.inl (gv_I r)) h1 :=
  fun r h1 e => gk_M_of2 (by decide +kernel) (by simp [lv_args, gk_cat_rf, gk_catI, gk_catJ, gk_catD, gv_V, gv_I, gv_J, gv_D, gv_R]) (by simp [lg_sl, gk_cat_rf, gk_catI, gk_catJ, gk_catD, gv_V, gv_I, gv_J, gv_D, gv_R]) (w_SB_length d a0 h r h1 e)
theorem d_Ma_max_II_0 : decode b_Ma_max_II 0 = .ok (.iload_n 0, 1) := by decide +kernel
theorem d_Ma_max_II_1 : decode b_Ma_max_II 1 = .ok (.iload_n 1, 1) := by decide +kernel
theorem d_Ma_max_II_2 : decode b_Ma_max_II 2 = .ok (.if_icmp .lt 7, 3) := by decide +kernel
theorem d_Ma_max_II_5 : decode b_Ma_max_II 5 = .ok (.iload_n 0, 1) := by decide +kernel
theorem d_Ma_max_II_6 : decode b_Ma_max_II 6 = .ok (.goto 4, 3) := by decide +kernel
theorem d_Ma_max_II_9 : decode b_Ma_max_II 9 = .ok (.iload_n 1, 1) := by decide +kernel
theorem d_Ma_max_II_10 : decode b_Ma_max_II 10 = .ok (.ireturn, 1) := by decide +kernel
theorem p_Ma_max_II_b10 (d : Nat)  (s0 : Int32) (h : gk_H) : gk_P gw_I d y_Ma_max_II b_Ma_max_II 2 (some .int) [] (f_Ma_max_II_b10  s0 h) 10 [] [.int s0] h := by
  unfold f_Ma_max_II_b10
  exact gk_iret (pc := 10) rfl d_Ma_max_II_10 rfl
theorem w_Ma_max_II (d : Nat) (a0 : Int32) (a1 : Int32) (h : gk_H) : gk_P gw_I d y_Ma_max_II b_Ma_max_II 2 (some .int) [] (f_Ma_max_II a0 a1 h) 0 [(0, .int a0), (1, .int a1)] [] h := by
  unfold f_Ma_max_II
  refine gk_iload_n (pc := 0) 0 d_Ma_max_II_0 rfl ?_
  refine gk_iload_n (pc := 1) 1 d_Ma_max_II_1 rfl ?_
  refine gk_icmp_lt (pc := 2) 9 d_Ma_max_II_2 rfl (fun _ => ?_) (fun _ => ?_)
  · refine gk_iload_n (pc := 9) 1 d_Ma_max_II_9 rfl ?_
    refine gk_weak [] (L' := []) rfl ?_
    exact p_Ma_max_II_b10 d a1 h
  · refine gk_iload_n (pc := 5) 0 d_Ma_max_II_5 rfl ?_
    refine gk_goto (pc := 6) 10 d_Ma_max_II_6 rfl ?_
    refine gk_weak [] (L' := []) rfl ?_
    exact p_Ma_max_II_b10 d a0 h
theorem p_Ma_max_II (d : Nat) (a0 : Int32) (a1 : Int32) (h : gk_H) : ∀ r h1, f_Ma_max_II a0 a1 h = some (r, h1) → gk_M d y_Ma_max_II b_Ma_max_II 2 (some .int) [.int a0, .int a1] h (.inl (gv_I r)) h1 :=
  fun r h1 e => gk_M_of2 (by decide +kernel) (by simp [lv_args, gk_cat_rf, gk_catI, gk_catJ, gk_catD, gv_V, gv_I, gv_J, gv_D, gv_R]) (by simp [lg_sl, gk_cat_rf, gk_catI, gk_catJ, gk_catD, gv_V, gv_I, gv_J, gv_D, gv_R]) (w_Ma_max_II d a0 a1 h r h1 e)
theorem d_Ys_newLength_0 : decode b_Ys_newLength 0 = .ok (.iload_n 0, 1) := by decide +kernel
theorem d_Ys_newLength_1 : decode b_Ys_newLength 1 = .ok (.iload_n 1, 1) := by decide +kernel
theorem d_Ys_newLength_2 : decode b_Ys_newLength 2 = .ok (.iload_n 2, 1) := by decide +kernel
theorem d_Ys_newLength_3 : decode b_Ys_newLength 3 = .ok (.invokestatic 194, 3) := by decide +kernel
theorem d_Ys_newLength_6 : decode b_Ys_newLength 6 = .ok (.iadd, 1) := by decide +kernel
theorem d_Ys_newLength_7 : decode b_Ys_newLength 7 = .ok (.istore_n 3, 1) := by decide +kernel
theorem d_Ys_newLength_8 : decode b_Ys_newLength 8 = .ok (.iconst 0, 1) := by decide +kernel
theorem d_Ys_newLength_9 : decode b_Ys_newLength 9 = .ok (.iload_n 3, 1) := by decide +kernel
theorem d_Ys_newLength_10 : decode b_Ys_newLength 10 = .ok (.if_icmp .ge 11, 3) := by decide +kernel
theorem d_Ys_newLength_13 : decode b_Ys_newLength 13 = .ok (.iload_n 3, 1) := by decide +kernel
theorem d_Ys_newLength_14 : decode b_Ys_newLength 14 = .ok (.ldc 200, 2) := by decide +kernel
theorem d_Ys_newLength_16 : decode b_Ys_newLength 16 = .ok (.if_icmp .gt 5, 3) := by decide +kernel
theorem d_Ys_newLength_19 : decode b_Ys_newLength 19 = .ok (.iload_n 3, 1) := by decide +kernel
theorem d_Ys_newLength_20 : decode b_Ys_newLength 20 = .ok (.ireturn, 1) := by decide +kernel
theorem w_Ys_newLength (d : Nat) (a0 : Int32) (a1 : Int32) (a2 : Int32) (h : gk_H) : gk_P gw_I (d + 1) y_Ys_newLength b_Ys_newLength 4 (some .int) [] (f_Ys_newLength a0 a1 a2 h) 0 [(0, .int a0), (1, .int a1), (2, .int a2)] [] h := by
  unfold f_Ys_newLength
  refine gk_iload_n (pc := 0) 0 d_Ys_newLength_0 rfl ?_
  refine gk_iload_n (pc := 1) 1 d_Ys_newLength_1 rfl ?_
  refine gk_iload_n (pc := 2) 2 d_Ys_newLength_2 rfl ?_
  refine gk_callS (pc := 3) (d := d) (w' := gv_I) (as := [.int a1, .int a2]) (n := 2) d_Ys_newLength_3 rfl rfl (Nat.le_of_ble_eq_true rfl) tw_447 tw_448 tw_106 cw_Ma_max_II hy_Ma_max_II (Nat.le_of_ble_eq_true rfl) (p_Ma_max_II d a1 a2 h) fun x1 h1 => ?_
  refine gk_iadd (pc := 6) d_Ys_newLength_6 ?_
  refine gk_topI (pc := 7) fun x2 => ?_
  refine gk_istore_n (pc := 7) (L' := [(3, .int x2), (0, .int a0), (1, .int a1), (2, .int a2)]) d_Ys_newLength_7 (Nat.le_of_ble_eq_true rfl) rfl ?_
  refine gk_iconst (pc := 8) (0 : Int32) d_Ys_newLength_8 rfl ?_
  refine gk_iload_n (pc := 9) 0 d_Ys_newLength_9 rfl ?_
  refine gk_icmp_ge (pc := 10) 21 d_Ys_newLength_10 rfl (fun _ => ?_) (fun _ => ?_)
  · exact gk_none
  · refine gk_iload_n (pc := 13) 0 d_Ys_newLength_13 rfl ?_
    refine gk_ldc (pc := 14) tw_450 d_Ys_newLength_14 ?_
    refine gk_icmp_gt (pc := 16) 21 d_Ys_newLength_16 rfl (fun _ => ?_) (fun _ => ?_)
    · exact gk_none
    · refine gk_iload_n (pc := 19) 0 d_Ys_newLength_19 rfl ?_
      exact gk_iret (pc := 20) rfl d_Ys_newLength_20 rfl
theorem p_Ys_newLength (d : Nat) (a0 : Int32) (a1 : Int32) (a2 : Int32) (h : gk_H) : ∀ r h1, f_Ys_newLength a0 a1 a2 h = some (r, h1) → gk_M (d + 1) y_Ys_newLength b_Ys_newLength 4 (some .int) [.int a0, .int a1, .int a2] h (.inl (gv_I r)) h1 :=
  fun r h1 e => gk_M_of2 (by decide +kernel) (by simp [lv_args, gk_cat_rf, gk_catI, gk_catJ, gk_catD, gv_V, gv_I, gv_J, gv_D, gv_R]) (by simp [lg_sl, gk_cat_rf, gk_catI, gk_catJ, gk_catD, gv_V, gv_I, gv_J, gv_D, gv_R]) (w_Ys_newLength d a0 a1 a2 h r h1 e)
theorem d_AB_newCapacity_0 : decode b_AB_newCapacity 0 = .ok (.aload_n 0, 1) := by decide +kernel
theorem d_AB_newCapacity_1 : decode b_AB_newCapacity 1 = .ok (.getfield 15, 3) := by decide +kernel
theorem d_AB_newCapacity_4 : decode b_AB_newCapacity 4 = .ok (.arraylength, 1) := by decide +kernel
theorem d_AB_newCapacity_5 : decode b_AB_newCapacity 5 = .ok (.istore_n 2, 1) := by decide +kernel
theorem d_AB_newCapacity_6 : decode b_AB_newCapacity 6 = .ok (.iload_n 1, 1) := by decide +kernel
theorem d_AB_newCapacity_7 : decode b_AB_newCapacity 7 = .ok (.aload_n 0, 1) := by decide +kernel
theorem d_AB_newCapacity_8 : decode b_AB_newCapacity 8 = .ok (.getfield 22, 3) := by decide +kernel
theorem d_AB_newCapacity_11 : decode b_AB_newCapacity 11 = .ok (.ishl, 1) := by decide +kernel
theorem d_AB_newCapacity_12 : decode b_AB_newCapacity 12 = .ok (.istore_n 3, 1) := by decide +kernel
theorem d_AB_newCapacity_13 : decode b_AB_newCapacity 13 = .ok (.iload_n 3, 1) := by decide +kernel
theorem d_AB_newCapacity_14 : decode b_AB_newCapacity 14 = .ok (.iload_n 2, 1) := by decide +kernel
theorem d_AB_newCapacity_15 : decode b_AB_newCapacity 15 = .ok (.isub, 1) := by decide +kernel
theorem d_AB_newCapacity_16 : decode b_AB_newCapacity 16 = .ok (.istore 4, 2) := by decide +kernel
theorem d_AB_newCapacity_18 : decode b_AB_newCapacity 18 = .ok (.iload_n 2, 1) := by decide +kernel
theorem d_AB_newCapacity_19 : decode b_AB_newCapacity 19 = .ok (.iload 4, 2) := by decide +kernel
theorem d_AB_newCapacity_21 : decode b_AB_newCapacity 21 = .ok (.iload_n 2, 1) := by decide +kernel
theorem d_AB_newCapacity_22 : decode b_AB_newCapacity 22 = .ok (.iconst 2, 1) := by decide +kernel
theorem d_AB_newCapacity_23 : decode b_AB_newCapacity 23 = .ok (.aload_n 0, 1) := by decide +kernel
theorem d_AB_newCapacity_24 : decode b_AB_newCapacity 24 = .ok (.getfield 22, 3) := by decide +kernel
theorem d_AB_newCapacity_27 : decode b_AB_newCapacity 27 = .ok (.ishl, 1) := by decide +kernel
theorem d_AB_newCapacity_28 : decode b_AB_newCapacity 28 = .ok (.iadd, 1) := by decide +kernel
theorem d_AB_newCapacity_29 : decode b_AB_newCapacity 29 = .ok (.invokestatic 114, 3) := by decide +kernel
theorem d_AB_newCapacity_32 : decode b_AB_newCapacity 32 = .ok (.istore 5, 2) := by decide +kernel
theorem d_AB_newCapacity_34 : decode b_AB_newCapacity 34 = .ok (.iload 5, 2) := by decide +kernel
theorem d_AB_newCapacity_36 : decode b_AB_newCapacity 36 = .ok (.ldc 39, 2) := by decide +kernel
theorem d_AB_newCapacity_38 : decode b_AB_newCapacity 38 = .ok (.if_icmp .ne 13, 3) := by decide +kernel
theorem d_AB_newCapacity_51 : decode b_AB_newCapacity 51 = .ok (.iload 5, 2) := by decide +kernel
theorem d_AB_newCapacity_53 : decode b_AB_newCapacity 53 = .ok (.aload_n 0, 1) := by decide +kernel
theorem d_AB_newCapacity_54 : decode b_AB_newCapacity 54 = .ok (.getfield 22, 3) := by decide +kernel
theorem d_AB_newCapacity_57 : decode b_AB_newCapacity 57 = .ok (.ishr, 1) := by decide +kernel
theorem d_AB_newCapacity_58 : decode b_AB_newCapacity 58 = .ok (.ireturn, 1) := by decide +kernel
theorem w_AB_newCapacity (d : Nat) (a0 : Option Nat) (a1 : Int32) (h : gk_H) : gk_P gw_I (d + 2) y_AB_newCapacity b_AB_newCapacity 6 (some .int) [] (f_AB_newCapacity a0 a1 h) 0 [(0, va_rf a0), (1, .int a1)] [] h := by
  unfold f_AB_newCapacity
  refine gk_aload_n (pc := 0) 0 d_AB_newCapacity_0 rfl ?_
  refine gk_getR (pc := 1) 1 0 d_AB_newCapacity_1 rfl (Nat.le_of_ble_eq_true rfl) tw_153 fun x1 => ?_
  refine gk_alen (pc := 4) d_AB_newCapacity_4 fun x2 => ?_
  refine gk_istore_n (pc := 5) (L' := [(2, .int x2), (0, va_rf a0), (1, .int a1)]) d_AB_newCapacity_5 (Nat.le_of_ble_eq_true rfl) rfl ?_
  refine gk_iload_n (pc := 6) 2 d_AB_newCapacity_6 rfl ?_
  refine gk_aload_n (pc := 7) 1 d_AB_newCapacity_7 rfl ?_
  refine gk_getI (pc := 8) 1 1 d_AB_newCapacity_8 rfl (Nat.le_of_ble_eq_true rfl) tw_154 fun x3 => ?_
  refine gk_ishl (pc := 11) d_AB_newCapacity_11 ?_
  refine gk_topI (pc := 12) fun x4 => ?_
  refine gk_istore_n (pc := 12) (L' := [(3, .int x4), (2, .int x2), (0, va_rf a0), (1, .int a1)]) d_AB_newCapacity_12 (Nat.le_of_ble_eq_true rfl) rfl ?_
  refine gk_iload_n (pc := 13) 0 d_AB_newCapacity_13 rfl ?_
  refine gk_iload_n (pc := 14) 1 d_AB_newCapacity_14 rfl ?_
  refine gk_isub (pc := 15) d_AB_newCapacity_15 ?_
  refine gk_topI (pc := 16) fun x5 => ?_
  refine gk_istore (pc := 16) (L' := [(4, .int x5), (3, .int x4), (2, .int x2), (0, va_rf a0), (1, .int a1)]) d_AB_newCapacity_16 (Nat.le_of_ble_eq_true rfl) rfl ?_
  refine gk_iload_n (pc := 18) 2 d_AB_newCapacity_18 rfl ?_
  refine gk_iload (pc := 19) 0 d_AB_newCapacity_19 rfl ?_
  refine gk_iload_n (pc := 21) 2 d_AB_newCapacity_21 rfl ?_
  refine gk_iconst (pc := 22) (2 : Int32) d_AB_newCapacity_22 rfl ?_
  refine gk_aload_n (pc := 23) 3 d_AB_newCapacity_23 rfl ?_
  refine gk_getI (pc := 24) 1 1 d_AB_newCapacity_24 rfl (Nat.le_of_ble_eq_true rfl) tw_154 fun x6 => ?_
  refine gk_ishl (pc := 27) d_AB_newCapacity_27 ?_
  refine gk_iadd (pc := 28) d_AB_newCapacity_28 ?_
  refine gk_callS (pc := 29) (d := (d + 1)) (w' := gv_I) (as := [.int x2, .int x5, .int (x2 + ((2 : Int32) <<< (x6 &&& 31)))]) (n := 3) d_AB_newCapacity_29 rfl rfl (Nat.le_of_ble_eq_true rfl) tw_444 tw_445 tw_105 cw_Ys_newLength hy_Ys_newLength (Nat.le_of_ble_eq_true rfl) (p_Ys_newLength d x2 x5 (x2 + ((2 : Int32) <<< (x6 &&& 31))) h) fun x7 h1 => ?_
  refine gk_istore (pc := 32) (L' := [(5, .int x7), (4, .int x5), (3, .int x4), (2, .int x2), (0, va_rf a0), (1, .int a1)]) d_AB_newCapacity_32 (Nat.le_of_ble_eq_true rfl) rfl ?_
  refine gk_iload (pc := 34) 0 d_AB_newCapacity_34 rfl ?_
  refine gk_ldc (pc := 36) tw_454 d_AB_newCapacity_36 ?_
  refine gk_icmp_ne (pc := 38) 51 d_AB_newCapacity_38 rfl (fun _ => ?_) (fun _ => ?_)
  · exact gk_none
  · refine gk_iload (pc := 51) 0 d_AB_newCapacity_51 rfl ?_
    refine gk_aload_n (pc := 53) 4 d_AB_newCapacity_53 rfl ?_
    refine gk_getI (pc := 54) 1 1 d_AB_newCapacity_54 rfl (Nat.le_of_ble_eq_true rfl) tw_154 fun x8 => ?_
    refine gk_ishr (pc := 57) d_AB_newCapacity_57 ?_
    exact gk_iret (pc := 58) rfl d_AB_newCapacity_58 rfl
theorem p_AB_newCapacity (d : Nat) (a0 : Option Nat) (a1 : Int32) (h : gk_H) : ∀ r h1, f_AB_newCapacity a0 a1 h = some (r, h1) → gk_M (d + 2) y_AB_newCapacity b_AB_newCapacity 6 (some .int) [va_rf a0, .int a1] h (.inl (gv_I r)) h1 :=
  fun r h1 e => gk_M_of2 (by decide +kernel) (by simp [lv_args, gk_cat_rf, gk_catI, gk_catJ, gk_catD, gv_V, gv_I, gv_J, gv_D, gv_R]) (by simp [lg_sl, gk_cat_rf, gk_catI, gk_catJ, gk_catD, gv_V, gv_I, gv_J, gv_D, gv_R]) (w_AB_newCapacity d a0 a1 h r h1 e)
theorem d_Ma_min_II_0 : decode b_Ma_min_II 0 = .ok (.iload_n 0, 1) := by decide +kernel
theorem d_Ma_min_II_1 : decode b_Ma_min_II 1 = .ok (.iload_n 1, 1) := by decide +kernel
theorem d_Ma_min_II_2 : decode b_Ma_min_II 2 = .ok (.if_icmp .gt 7, 3) := by decide +kernel
theorem d_Ma_min_II_5 : decode b_Ma_min_II 5 = .ok (.iload_n 0, 1) := by decide +kernel
theorem d_Ma_min_II_6 : decode b_Ma_min_II 6 = .ok (.goto 4, 3) := by decide +kernel
theorem d_Ma_min_II_9 : decode b_Ma_min_II 9 = .ok (.iload_n 1, 1) := by decide +kernel
theorem d_Ma_min_II_10 : decode b_Ma_min_II 10 = .ok (.ireturn, 1) := by decide +kernel
theorem p_Ma_min_II_b10 (d : Nat)  (s0 : Int32) (h : gk_H) : gk_P gw_I d y_Ma_min_II b_Ma_min_II 2 (some .int) [] (f_Ma_min_II_b10  s0 h) 10 [] [.int s0] h := by
  unfold f_Ma_min_II_b10
  exact gk_iret (pc := 10) rfl d_Ma_min_II_10 rfl
theorem w_Ma_min_II (d : Nat) (a0 : Int32) (a1 : Int32) (h : gk_H) : gk_P gw_I d y_Ma_min_II b_Ma_min_II 2 (some .int) [] (f_Ma_min_II a0 a1 h) 0 [(0, .int a0), (1, .int a1)] [] h := by
  unfold f_Ma_min_II
  refine gk_iload_n (pc := 0) 0 d_Ma_min_II_0 rfl ?_
  refine gk_iload_n (pc := 1) 1 d_Ma_min_II_1 rfl ?_
  refine gk_icmp_gt (pc := 2) 9 d_Ma_min_II_2 rfl (fun _ => ?_) (fun _ => ?_)
  · refine gk_iload_n (pc := 9) 1 d_Ma_min_II_9 rfl ?_
    refine gk_weak [] (L' := []) rfl ?_
    exact p_Ma_min_II_b10 d a1 h
  · refine gk_iload_n (pc := 5) 0 d_Ma_min_II_5 rfl ?_
    refine gk_goto (pc := 6) 10 d_Ma_min_II_6 rfl ?_
    refine gk_weak [] (L' := []) rfl ?_
    exact p_Ma_min_II_b10 d a0 h
theorem p_Ma_min_II (d : Nat) (a0 : Int32) (a1 : Int32) (h : gk_H) : ∀ r h1, f_Ma_min_II a0 a1 h = some (r, h1) → gk_M d y_Ma_min_II b_Ma_min_II 2 (some .int) [.int a0, .int a1] h (.inl (gv_I r)) h1 :=
  fun r h1 e => gk_M_of2 (by decide +kernel) (by simp [lv_args, gk_cat_rf, gk_catI, gk_catJ, gk_catD, gv_V, gv_I, gv_J, gv_D, gv_R]) (by simp [lg_sl, gk_cat_rf, gk_catI, gk_catJ, gk_catD, gv_V, gv_I, gv_J, gv_D, gv_R]) (w_Ma_min_II d a0 a1 h r h1 e)
theorem d_Ya_copyOf_0 : decode b_Ya_copyOf 0 = .ok (.iload_n 1, 1) := by decide +kernel
theorem d_Ya_copyOf_1 : decode b_Ya_copyOf 1 = .ok (.aload_n 0, 1) := by decide +kernel
theorem d_Ya_copyOf_2 : decode b_Ya_copyOf 2 = .ok (.arraylength, 1) := by decide +kernel
theorem d_Ya_copyOf_3 : decode b_Ya_copyOf 3 = .ok (.if_icmp .ne 11, 3) := by decide +kernel
theorem d_Ya_copyOf_14 : decode b_Ya_copyOf 14 = .ok (.iload_n 1, 1) := by decide +kernel
theorem d_Ya_copyOf_15 : decode b_Ya_copyOf 15 = .ok (.newarray .byte, 2) := by decide +kernel
theorem d_Ya_copyOf_17 : decode b_Ya_copyOf 17 = .ok (.astore_n 2, 1) := by decide +kernel
theorem d_Ya_copyOf_18 : decode b_Ya_copyOf 18 = .ok (.aload_n 0, 1) := by decide +kernel
theorem d_Ya_copyOf_19 : decode b_Ya_copyOf 19 = .ok (.iconst 0, 1) := by decide +kernel
theorem d_Ya_copyOf_20 : decode b_Ya_copyOf 20 = .ok (.aload_n 2, 1) := by decide +kernel
theorem d_Ya_copyOf_21 : decode b_Ya_copyOf 21 = .ok (.iconst 0, 1) := by decide +kernel
theorem d_Ya_copyOf_22 : decode b_Ya_copyOf 22 = .ok (.aload_n 0, 1) := by decide +kernel
theorem d_Ya_copyOf_23 : decode b_Ya_copyOf 23 = .ok (.arraylength, 1) := by decide +kernel
theorem d_Ya_copyOf_24 : decode b_Ya_copyOf 24 = .ok (.iload_n 1, 1) := by decide +kernel
theorem d_Ya_copyOf_25 : decode b_Ya_copyOf 25 = .ok (.invokestatic 304, 3) := by decide +kernel
theorem d_Ya_copyOf_28 : decode b_Ya_copyOf 28 = .ok (.invokestatic 150, 3) := by decide +kernel
theorem d_Ya_copyOf_31 : decode b_Ya_copyOf 31 = .ok (.aload_n 2, 1) := by decide +kernel
theorem d_Ya_copyOf_32 : decode b_Ya_copyOf 32 = .ok (.areturn, 1) := by decide +kernel
theorem w_Ya_copyOf (d : Nat) (a0 : Option Nat) (a1 : Int32) (h : gk_H) : gk_P gw_R (d + 1) y_Ya_copyOf b_Ya_copyOf 3 (some (.array .byte)) [] (f_Ya_copyOf a0 a1 h) 0 [(0, va_rf a0), (1, .int a1)] [] h := by
  unfold f_Ya_copyOf
  refine gk_iload_n (pc := 0) 1 d_Ya_copyOf_0 rfl ?_
  refine gk_aload_n (pc := 1) 0 d_Ya_copyOf_1 rfl ?_
  refine gk_alen (pc := 2) d_Ya_copyOf_2 fun x1 => ?_
  refine gk_icmp_ne (pc := 3) 14 d_Ya_copyOf_3 rfl (fun _ => ?_) (fun _ => ?_)
  · exact gk_none
  · refine gk_iload_n (pc := 14) 1 d_Ya_copyOf_14 rfl ?_
    refine gk_newA (pc := 15) 3 d_Ya_copyOf_15 rfl tw_167 (Nat.le_of_ble_eq_true rfl) fun x2 h1 => ?_
    refine gk_astore_n (pc := 17) (L' := [(2, va_rf x2), (0, va_rf a0), (1, .int a1)]) d_Ya_copyOf_17 (Nat.le_of_ble_eq_true rfl) rfl ?_
    refine gk_aload_n (pc := 18) 1 d_Ya_copyOf_18 rfl ?_
    refine gk_iconst (pc := 19) (0 : Int32) d_Ya_copyOf_19 rfl ?_
    refine gk_aload_n (pc := 20) 0 d_Ya_copyOf_20 rfl ?_
    refine gk_iconst (pc := 21) (0 : Int32) d_Ya_copyOf_21 rfl ?_
    refine gk_aload_n (pc := 22) 1 d_Ya_copyOf_22 rfl ?_
    refine gk_alen (pc := 23) d_Ya_copyOf_23 fun x3 => ?_
    refine gk_iload_n (pc := 24) 2 d_Ya_copyOf_24 rfl ?_
    refine gk_callS (pc := 25) (d := d) (w' := gv_I) (as := [.int x3, .int a1]) (n := 2) d_Ya_copyOf_25 rfl rfl (by simp [gk_cat_rf, gk_catI, gk_catJ, gk_catD, gv_V, gv_I, gv_J, gv_D, gv_R]) tw_465 tw_466 tw_106 cw_Ma_min_II hy_Ma_min_II (Nat.le_of_ble_eq_true rfl) (p_Ma_min_II d x3 a1 h1) fun x4 h2 => ?_
    refine gk_arraycopy (pc := 28) (d := d) d_Ya_copyOf_28 tw_468 (Nat.le_of_ble_eq_true rfl) fun h3 => ?_
    refine gk_aload_n (pc := 31) 0 d_Ya_copyOf_31 rfl ?_
    exact gk_aret (pc := 32) rfl d_Ya_copyOf_32 rfl (Or.inr ⟨_, rfl⟩)
theorem p_Ya_copyOf (d : Nat) (a0 : Option Nat) (a1 : Int32) (h : gk_H) : ∀ r h1, f_Ya_copyOf a0 a1 h = some (r, h1) → gk_M (d + 1) y_Ya_copyOf b_Ya_copyOf 3 (some (.array .byte)) [va_rf a0, .int a1] h (.inl (gv_R r)) h1 :=
  fun r h1 e => gk_M_of2 (by decide +kernel) (by simp [lv_args, gk_cat_rf, gk_catI, gk_catJ, gk_catD, gv_V, gv_I, gv_J, gv_D, gv_R]) (by simp [lg_sl, gk_cat_rf, gk_catI, gk_catJ, gk_catD, gv_V, gv_I, gv_J, gv_D, gv_R]) (w_Ya_copyOf d a0 a1 h r h1 e)
theorem d_AB_ensureCapacityInternal_0 : decode b_AB_ensureCapacityInternal 0 = .ok (.aload_n 0, 1) := by decide +kernel
theorem d_AB_ensureCapacityInternal_1 : decode b_AB_ensureCapacityInternal 1 = .ok (.getfield 15, 3) := by decide +kernel
theorem d_AB_ensureCapacityInternal_4 : decode b_AB_ensureCapacityInternal 4 = .ok (.arraylength, 1) := by decide +kernel
theorem d_AB_ensureCapacityInternal_5 : decode b_AB_ensureCapacityInternal 5 = .ok (.aload_n 0, 1) := by decide +kernel
theorem d_AB_ensureCapacityInternal_6 : decode b_AB_ensureCapacityInternal 6 = .ok (.getfield 22, 3) := by decide +kernel
theorem d_AB_ensureCapacityInternal_9 : decode b_AB_ensureCapacityInternal 9 = .ok (.ishr, 1) := by decide +kernel
theorem d_AB_ensureCapacityInternal_10 : decode b_AB_ensureCapacityInternal 10 = .ok (.istore_n 2, 1) := by decide +kernel
theorem d_AB_ensureCapacityInternal_11 : decode b_AB_ensureCapacityInternal 11 = .ok (.iload_n 1, 1) := by decide +kernel
theorem d_AB_ensureCapacityInternal_12 : decode b_AB_ensureCapacityInternal 12 = .ok (.iload_n 2, 1) := by decide +kernel
theorem d_AB_ensureCapacityInternal_13 : decode b_AB_ensureCapacityInternal 13 = .ok (.isub, 1) := by decide +kernel
theorem d_AB_ensureCapacityInternal_14 : decode b_AB_ensureCapacityInternal 14 = .ok (.ifCond .le 24, 3) := by decide +kernel
theorem d_AB_ensureCapacityInternal_17 : decode b_AB_ensureCapacityInternal 17 = .ok (.aload_n 0, 1) := by decide +kernel
theorem d_AB_ensureCapacityInternal_18 : decode b_AB_ensureCapacityInternal 18 = .ok (.aload_n 0, 1) := by decide +kernel
theorem d_AB_ensureCapacityInternal_19 : decode b_AB_ensureCapacityInternal 19 = .ok (.getfield 15, 3) := by decide +kernel
theorem d_AB_ensureCapacityInternal_22 : decode b_AB_ensureCapacityInternal 22 = .ok (.aload_n 0, 1) := by decide +kernel
theorem d_AB_ensureCapacityInternal_23 : decode b_AB_ensureCapacityInternal 23 = .ok (.iload_n 1, 1) := by decide +kernel
theorem d_AB_ensureCapacityInternal_24 : decode b_AB_ensureCapacityInternal 24 = .ok (.invokevirtual 104, 3) := by decide +kernel
theorem d_AB_ensureCapacityInternal_27 : decode b_AB_ensureCapacityInternal 27 = .ok (.aload_n 0, 1) := by decide +kernel
theorem d_AB_ensureCapacityInternal_28 : decode b_AB_ensureCapacityInternal 28 = .ok (.getfield 22, 3) := by decide +kernel
theorem d_AB_ensureCapacityInternal_31 : decode b_AB_ensureCapacityInternal 31 = .ok (.ishl, 1) := by decide +kernel
theorem d_AB_ensureCapacityInternal_32 : decode b_AB_ensureCapacityInternal 32 = .ok (.invokestatic 108, 3) := by decide +kernel
theorem d_AB_ensureCapacityInternal_35 : decode b_AB_ensureCapacityInternal 35 = .ok (.putfield 15, 3) := by decide +kernel
theorem d_AB_ensureCapacityInternal_38 : decode b_AB_ensureCapacityInternal 38 = .ok (.return_, 1) := by decide +kernel
theorem p_AB_ensureCapacityInternal_b38 (d : Nat)   (h : gk_H) : gk_P gw_V (d + 3) y_AB_ensureCapacityInternal b_AB_ensureCapacityInternal 3 none [] (f_AB_ensureCapacityInternal_b38   h) 38 [] [] h := by
  unfold f_AB_ensureCapacityInternal_b38
  exact gk_vret (pc := 38) rfl d_AB_ensureCapacityInternal_38 rfl
theorem w_AB_ensureCapacityInternal (d : Nat) (a0 : Option Nat) (a1 : Int32) (h : gk_H) : gk_P gw_V (d + 3) y_AB_ensureCapacityInternal b_AB_ensureCapacityInternal 3 none [] (f_AB_ensureCapacityInternal a0 a1 h) 0 [(0, va_rf a0), (1, .int a1)] [] h := by
  unfold f_AB_ensureCapacityInternal
  refine gk_aload_n (pc := 0) 0 d_AB_ensureCapacityInternal_0 rfl ?_
  refine gk_getR (pc := 1) 1 0 d_AB_ensureCapacityInternal_1 rfl (Nat.le_of_ble_eq_true rfl) tw_153 fun x1 => ?_
  refine gk_alen (pc := 4) d_AB_ensureCapacityInternal_4 fun x2 => ?_
  refine gk_aload_n (pc := 5) 0 d_AB_ensureCapacityInternal_5 rfl ?_
  refine gk_getI (pc := 6) 1 1 d_AB_ensureCapacityInternal_6 rfl (Nat.le_of_ble_eq_true rfl) tw_154 fun x3 => ?_
  refine gk_ishr (pc := 9) d_AB_ensureCapacityInternal_9 ?_
  refine gk_topI (pc := 10) fun x4 => ?_
  refine gk_istore_n (pc := 10) (L' := [(2, .int x4), (0, va_rf a0), (1, .int a1)]) d_AB_ensureCapacityInternal_10 (Nat.le_of_ble_eq_true rfl) rfl ?_
  refine gk_iload_n (pc := 11) 2 d_AB_ensureCapacityInternal_11 rfl ?_
  refine gk_iload_n (pc := 12) 0 d_AB_ensureCapacityInternal_12 rfl ?_
  refine gk_isub (pc := 13) d_AB_ensureCapacityInternal_13 ?_
  refine gk_if_le (pc := 14) 38 d_AB_ensureCapacityInternal_14 rfl (fun _ => ?_) (fun _ => ?_)
  · refine gk_weak [] (L' := []) rfl ?_
    exact p_AB_ensureCapacityInternal_b38 d h
  · refine gk_aload_n (pc := 17) 1 d_AB_ensureCapacityInternal_17 rfl ?_
    refine gk_aload_n (pc := 18) 1 d_AB_ensureCapacityInternal_18 rfl ?_
    refine gk_getR (pc := 19) 1 0 d_AB_ensureCapacityInternal_19 rfl (Nat.le_of_ble_eq_true rfl) tw_153 fun x5 => ?_
    refine gk_aload_n (pc := 22) 1 d_AB_ensureCapacityInternal_22 rfl ?_
    refine gk_iload_n (pc := 23) 2 d_AB_ensureCapacityInternal_23 rfl ?_
    refine gk_callU (pc := 24) (d := (d + 2)) (w' := gv_I) (as := [.int a1]) (n := 1) 1 d_AB_ensureCapacityInternal_24 rfl rfl rfl (by simp [gk_cat_rf, gk_catI, gk_catJ, gk_catD, gv_V, gv_I, gv_J, gv_D, gv_R]) tw_440 tw_2185 tw_442 tw_1 tw_92 cw_AB_newCapacity hy_AB_newCapacity (Nat.le_of_ble_eq_true rfl) (p_AB_newCapacity d a0 a1 h) fun x6 h1 => ?_
    refine gk_aload_n (pc := 27) 1 d_AB_ensureCapacityInternal_27 rfl ?_
    refine gk_getI (pc := 28) 1 1 d_AB_ensureCapacityInternal_28 rfl (Nat.le_of_ble_eq_true rfl) tw_154 fun x7 => ?_
    refine gk_ishl (pc := 31) d_AB_ensureCapacityInternal_31 ?_
    refine gk_callS (pc := 32) (d := (d + 2)) (w' := gv_R) (as := [va_rf x5, .int (x6 <<< (x7 &&& 31))]) (n := 2) d_AB_ensureCapacityInternal_32 rfl rfl (by simp [gk_cat_rf, gk_catI, gk_catJ, gk_catD, gv_V, gv_I, gv_J, gv_D, gv_R]) tw_455 tw_456 tw_107 cw_Ya_copyOf hy_Ya_copyOf (Nat.le_of_ble_eq_true rfl) (p_Ya_copyOf (d + 1) x5 (x6 <<< (x7 &&& 31)) h1) fun x8 h2 => ?_
    refine gk_putfield (pc := 35) 1 0 d_AB_ensureCapacityInternal_35 rfl (Nat.le_of_ble_eq_true rfl) tw_153 (Or.inl rfl) fun h3 => ?_
    refine gk_weak [] (L' := []) rfl ?_
    exact p_AB_ensureCapacityInternal_b38 d h3
theorem p_AB_ensureCapacityInternal (d : Nat) (a0 : Option Nat) (a1 : Int32) (h : gk_H) : ∀ r h1, f_AB_ensureCapacityInternal a0 a1 h = some (r, h1) → gk_M (d + 3) y_AB_ensureCapacityInternal b_AB_ensureCapacityInternal 3 none [va_rf a0, .int a1] h (.inl (gv_V r)) h1 :=
  fun r h1 e => gk_M_of2 (by decide +kernel) (by simp [lv_args, gk_cat_rf, gk_catI, gk_catJ, gk_catD, gv_V, gv_I, gv_J, gv_D, gv_R]) (by simp [lg_sl, gk_cat_rf, gk_catI, gk_catJ, gk_catD, gv_V, gv_I, gv_J, gv_D, gv_R]) (w_AB_ensureCapacityInternal d a0 a1 h r h1 e)
theorem d_AB_isLatin1_0 : decode b_AB_isLatin1 0 = .ok (.getstatic 18, 3) := by decide +kernel
theorem d_AB_isLatin1_3 : decode b_AB_isLatin1 3 = .ok (.ifCond .eq 14, 3) := by decide +kernel
theorem d_AB_isLatin1_6 : decode b_AB_isLatin1 6 = .ok (.aload_n 0, 1) := by decide +kernel
theorem d_AB_isLatin1_7 : decode b_AB_isLatin1 7 = .ok (.getfield 22, 3) := by decide +kernel
theorem d_AB_isLatin1_10 : decode b_AB_isLatin1 10 = .ok (.ifCond .ne 7, 3) := by decide +kernel
theorem d_AB_isLatin1_13 : decode b_AB_isLatin1 13 = .ok (.iconst 1, 1) := by decide +kernel
theorem d_AB_isLatin1_14 : decode b_AB_isLatin1 14 = .ok (.goto 4, 3) := by decide +kernel
theorem d_AB_isLatin1_17 : decode b_AB_isLatin1 17 = .ok (.iconst 0, 1) := by decide +kernel
theorem d_AB_isLatin1_18 : decode b_AB_isLatin1 18 = .ok (.ireturn, 1) := by decide +kernel
theorem p_AB_isLatin1_b18 (d : Nat)  (s0 : Int32) (h : gk_H) : gk_P gw_I d y_AB_isLatin1 b_AB_isLatin1 1 (some .boolean) [] (f_AB_isLatin1_b18  s0 h) 18 [] [.int s0] h := by
  unfold f_AB_isLatin1_b18
  exact gk_zret (pc := 18) rfl d_AB_isLatin1_18 rfl
theorem p_AB_isLatin1_b17 (d : Nat)   (h : gk_H) : gk_P gw_I d y_AB_isLatin1 b_AB_isLatin1 1 (some .boolean) [] (f_AB_isLatin1_b17   h) 17 [] [] h := by
  unfold f_AB_isLatin1_b17
  refine gk_iconst (pc := 17) (0 : Int32) d_AB_isLatin1_17 rfl ?_
  exact p_AB_isLatin1_b18 d (0 : Int32) h
theorem w_AB_isLatin1 (d : Nat) (a0 : Option Nat) (h : gk_H) : gk_P gw_I d y_AB_isLatin1 b_AB_isLatin1 1 (some .boolean) [] (f_AB_isLatin1 a0 h) 0 [(0, va_rf a0)] [] h := by
  unfold f_AB_isLatin1
  refine gk_gsI (pc := 0) 0 d_AB_isLatin1_0 rfl tw_144 fun x1 => ?_
  refine gk_if_eq (pc := 3) 17 d_AB_isLatin1_3 rfl (fun _ => ?_) (fun _ => ?_)
  · refine gk_weak [] (L' := []) rfl ?_
    exact p_AB_isLatin1_b17 d h
  · refine gk_aload_n (pc := 6) 0 d_AB_isLatin1_6 rfl ?_
    refine gk_getI (pc := 7) 1 1 d_AB_isLatin1_7 rfl (Nat.le_of_ble_eq_true rfl) tw_154 fun x2 => ?_
    refine gk_if_ne (pc := 10) 17 d_AB_isLatin1_10 rfl (fun _ => ?_) (fun _ => ?_)
    · refine gk_iconst (pc := 13) (1 : Int32) d_AB_isLatin1_13 rfl ?_
      refine gk_goto (pc := 14) 18 d_AB_isLatin1_14 rfl ?_
      refine gk_weak [] (L' := []) rfl ?_
      exact p_AB_isLatin1_b18 d (1 : Int32) h
    · refine gk_weak [] (L' := []) rfl ?_
      exact p_AB_isLatin1_b17 d h
theorem p_AB_isLatin1 (d : Nat) (a0 : Option Nat) (h : gk_H) : ∀ r h1, f_AB_isLatin1 a0 h = some (r, h1) → gk_M d y_AB_isLatin1 b_AB_isLatin1 1 (some .boolean) [va_rf a0] h (.inl (gv_I r)) h1 :=
  fun r h1 e => gk_M_of2 (by decide +kernel) (by simp [lv_args, gk_cat_rf, gk_catI, gk_catJ, gk_catD, gv_V, gv_I, gv_J, gv_D, gv_R]) (by simp [lg_sl, gk_cat_rf, gk_catI, gk_catJ, gk_catD, gv_V, gv_I, gv_J, gv_D, gv_R]) (w_AB_isLatin1 d a0 h r h1 e)
theorem d_S1_canEncode_C_0 : decode b_S1_canEncode_C 0 = .ok (.iload_n 0, 1) := by decide +kernel
theorem d_S1_canEncode_C_1 : decode b_S1_canEncode_C 1 = .ok (.sipush 255, 3) := by decide +kernel
theorem d_S1_canEncode_C_4 : decode b_S1_canEncode_C 4 = .ok (.if_icmp .gt 7, 3) := by decide +kernel
theorem d_S1_canEncode_C_7 : decode b_S1_canEncode_C 7 = .ok (.iconst 1, 1) := by decide +kernel
theorem d_S1_canEncode_C_8 : decode b_S1_canEncode_C 8 = .ok (.goto 4, 3) := by decide +kernel
theorem d_S1_canEncode_C_11 : decode b_S1_canEncode_C 11 = .ok (.iconst 0, 1) := by decide +kernel
theorem d_S1_canEncode_C_12 : decode b_S1_canEncode_C 12 = .ok (.ireturn, 1) := by decide +kernel
theorem p_S1_canEncode_C_b12 (d : Nat)  (s0 : Int32) (h : gk_H) : gk_P gw_I d y_S1_canEncode_C b_S1_canEncode_C 1 (some .boolean) [] (f_S1_canEncode_C_b12  s0 h) 12 [] [.int s0] h := by
  unfold f_S1_canEncode_C_b12
  exact gk_zret (pc := 12) rfl d_S1_canEncode_C_12 rfl
theorem w_S1_canEncode_C (d : Nat) (a0 : Int32) (h : gk_H) : gk_P gw_I d y_S1_canEncode_C b_S1_canEncode_C 1 (some .boolean) [] (f_S1_canEncode_C a0 h) 0 [(0, .int a0)] [] h := by
  unfold f_S1_canEncode_C
  refine gk_iload_n (pc := 0) 0 d_S1_canEncode_C_0 rfl ?_
  refine gk_sipush (pc := 1) (255 : Int32) d_S1_canEncode_C_1 rfl ?_
  refine gk_icmp_gt (pc := 4) 11 d_S1_canEncode_C_4 rfl (fun _ => ?_) (fun _ => ?_)
  · refine gk_iconst (pc := 11) (0 : Int32) d_S1_canEncode_C_11 rfl ?_
    refine gk_weak [] (L' := []) rfl ?_
    exact p_S1_canEncode_C_b12 d (0 : Int32) h
  · refine gk_iconst (pc := 7) (1 : Int32) d_S1_canEncode_C_7 rfl ?_
    refine gk_goto (pc := 8) 12 d_S1_canEncode_C_8 rfl ?_
    refine gk_weak [] (L' := []) rfl ?_
    exact p_S1_canEncode_C_b12 d (1 : Int32) h
theorem p_S1_canEncode_C (d : Nat) (a0 : Int32) (h : gk_H) : ∀ r h1, f_S1_canEncode_C a0 h = some (r, h1) → gk_M d y_S1_canEncode_C b_S1_canEncode_C 1 (some .boolean) [.int a0] h (.inl (gv_I r)) h1 :=
  fun r h1 e => gk_M_of2 (by decide +kernel) (by simp [lv_args, gk_cat_rf, gk_catI, gk_catJ, gk_catD, gv_V, gv_I, gv_J, gv_D, gv_R]) (by simp [lg_sl, gk_cat_rf, gk_catI, gk_catJ, gk_catD, gv_V, gv_I, gv_J, gv_D, gv_R]) (w_S1_canEncode_C d a0 h r h1 e)
theorem d_AB_append_C_0 : decode b_AB_append_C 0 = .ok (.aload_n 0, 1) := by decide +kernel
theorem d_AB_append_C_1 : decode b_AB_append_C 1 = .ok (.aload_n 0, 1) := by decide +kernel
theorem d_AB_append_C_2 : decode b_AB_append_C 2 = .ok (.getfield 79, 3) := by decide +kernel
theorem d_AB_append_C_5 : decode b_AB_append_C 5 = .ok (.iconst 1, 1) := by decide +kernel
theorem d_AB_append_C_6 : decode b_AB_append_C 6 = .ok (.iadd, 1) := by decide +kernel
theorem d_AB_append_C_7 : decode b_AB_append_C 7 = .ok (.invokevirtual 100, 3) := by decide +kernel
theorem d_AB_append_C_10 : decode b_AB_append_C 10 = .ok (.aload_n 0, 1) := by decide +kernel
theorem d_AB_append_C_11 : decode b_AB_append_C 11 = .ok (.invokevirtual 83, 3) := by decide +kernel
theorem d_AB_append_C_14 : decode b_AB_append_C 14 = .ok (.ifCond .eq 31, 3) := by decide +kernel
theorem d_AB_append_C_17 : decode b_AB_append_C 17 = .ok (.iload_n 1, 1) := by decide +kernel
theorem d_AB_append_C_18 : decode b_AB_append_C 18 = .ok (.invokestatic 191, 3) := by decide +kernel
theorem d_AB_append_C_21 : decode b_AB_append_C 21 = .ok (.ifCond .eq 24, 3) := by decide +kernel
theorem d_AB_append_C_24 : decode b_AB_append_C 24 = .ok (.aload_n 0, 1) := by decide +kernel
theorem d_AB_append_C_25 : decode b_AB_append_C 25 = .ok (.getfield 15, 3) := by decide +kernel
theorem d_AB_append_C_28 : decode b_AB_append_C 28 = .ok (.aload_n 0, 1) := by decide +kernel
theorem d_AB_append_C_29 : decode b_AB_append_C 29 = .ok (.dup, 1) := by decide +kernel
theorem d_AB_append_C_30 : decode b_AB_append_C 30 = .ok (.getfield 79, 3) := by decide +kernel
theorem d_AB_append_C_33 : decode b_AB_append_C 33 = .ok (.dup_x1, 1) := by decide +kernel
theorem d_AB_append_C_34 : decode b_AB_append_C 34 = .ok (.iconst 1, 1) := by decide +kernel
theorem d_AB_append_C_35 : decode b_AB_append_C 35 = .ok (.iadd, 1) := by decide +kernel
theorem d_AB_append_C_36 : decode b_AB_append_C 36 = .ok (.putfield 79, 3) := by decide +kernel
theorem d_AB_append_C_39 : decode b_AB_append_C 39 = .ok (.iload_n 1, 1) := by decide +kernel
theorem d_AB_append_C_40 : decode b_AB_append_C 40 = .ok (.i2b, 1) := by decide +kernel
theorem d_AB_append_C_41 : decode b_AB_append_C 41 = .ok (.bastore, 1) := by decide +kernel
theorem d_AB_append_C_42 : decode b_AB_append_C 42 = .ok (.goto 33, 3) := by decide +kernel
theorem d_AB_append_C_75 : decode b_AB_append_C 75 = .ok (.aload_n 0, 1) := by decide +kernel
theorem d_AB_append_C_76 : decode b_AB_append_C 76 = .ok (.areturn, 1) := by decide +kernel
theorem w_AB_append_C (d : Nat) (a0 : Option Nat) (a1 : Int32) (h : gk_H) : gk_P gw_R (d + 4) y_AB_append_C b_AB_append_C 2 (some (.object "java/lang/AbstractStringBuilder")) [] (f_AB_append_C a0 a1 h) 0 [(0, va_rf a0), (1, .int a1)] [] h := by
  unfold f_AB_append_C
  refine gk_aload_n (pc := 0) 0 d_AB_append_C_0 rfl ?_
  refine gk_aload_n (pc := 1) 0 d_AB_append_C_1 rfl ?_
  refine gk_getI (pc := 2) 1 3 d_AB_append_C_2 rfl (Nat.le_of_ble_eq_true rfl) tw_157 fun x1 => ?_
  refine gk_iconst (pc := 5) (1 : Int32) d_AB_append_C_5 rfl ?_
  refine gk_iadd (pc := 6) d_AB_append_C_6 ?_
  refine gk_callU (pc := 7) (d := (d + 3)) (w' := gv_V) (as := [.int (x1 + (1 : Int32))]) (n := 1) 1 d_AB_append_C_7 rfl rfl rfl (Nat.le_of_ble_eq_true rfl) tw_436 tw_2184 tw_438 tw_0 tw_92 cw_AB_ensureCapacityInternal hy_AB_ensureCapacityInternal (Nat.le_of_ble_eq_true rfl) (p_AB_ensureCapacityInternal d a0 (x1 + (1 : Int32)) h) fun _ h1 => ?_
  refine gk_aload_n (pc := 10) 0 d_AB_append_C_10 rfl ?_
  refine gk_callU (pc := 11) (d := (d + 3)) (w' := gv_I) (as := []) (n := 0) 1 d_AB_append_C_11 rfl rfl rfl (Nat.le_of_ble_eq_true rfl) tw_471 tw_473 tw_472 tw_474 tw_92 cw_AB_isLatin1 hy_AB_isLatin1 (Nat.le_of_ble_eq_true rfl) (p_AB_isLatin1 (d + 3) a0 h1) fun x2 h2 => ?_
  refine gk_if_eq (pc := 14) 45 d_AB_append_C_14 rfl (fun _ => ?_) (fun _ => ?_)
  · exact gk_none
  · refine gk_iload_n (pc := 17) 1 d_AB_append_C_17 rfl ?_
    refine gk_callS (pc := 18) (d := (d + 3)) (w' := gv_I) (as := [.int a1]) (n := 1) d_AB_append_C_18 rfl rfl (Nat.le_of_ble_eq_true rfl) tw_476 tw_477 tw_109 cw_S1_canEncode_C hy_S1_canEncode_C (Nat.le_of_ble_eq_true rfl) (p_S1_canEncode_C (d + 3) a1 h2) fun x3 h3 => ?_
    refine gk_if_eq (pc := 21) 45 d_AB_append_C_21 rfl (fun _ => ?_) (fun _ => ?_)
    · exact gk_none
    · refine gk_aload_n (pc := 24) 0 d_AB_append_C_24 rfl ?_
      refine gk_getR (pc := 25) 1 0 d_AB_append_C_25 rfl (Nat.le_of_ble_eq_true rfl) tw_153 fun x4 => ?_
      refine gk_aload_n (pc := 28) 0 d_AB_append_C_28 rfl ?_
      refine gk_dup (pc := 29) d_AB_append_C_29 (gk_cat_rf _) ?_
      refine gk_getI (pc := 30) 1 3 d_AB_append_C_30 rfl (Nat.le_of_ble_eq_true rfl) tw_157 fun x5 => ?_
      refine gk_dup_x1 (pc := 33) d_AB_append_C_33 rfl (gk_cat_rf _) ?_
      refine gk_iconst (pc := 34) (1 : Int32) d_AB_append_C_34 rfl ?_
      refine gk_iadd (pc := 35) d_AB_append_C_35 ?_
      refine gk_putfield (pc := 36) 1 3 d_AB_append_C_36 rfl (Nat.le_of_ble_eq_true rfl) tw_157 (Or.inl rfl) fun h4 => ?_
      refine gk_iload_n (pc := 39) 1 d_AB_append_C_39 rfl ?_
      refine gk_i2b (pc := 40) d_AB_append_C_40 ?_
      refine gk_bast (pc := 41) d_AB_append_C_41 fun h5 => ?_
      refine gk_goto (pc := 42) 75 d_AB_append_C_42 rfl ?_
      refine gk_aload_n (pc := 75) 0 d_AB_append_C_75 rfl ?_
      exact gk_aret (pc := 76) rfl d_AB_append_C_76 rfl (Or.inl ⟨_, rfl⟩)
theorem p_AB_append_C (d : Nat) (a0 : Option Nat) (a1 : Int32) (h : gk_H) : ∀ r h1, f_AB_append_C a0 a1 h = some (r, h1) → gk_M (d + 4) y_AB_append_C b_AB_append_C 2 (some (.object "java/lang/AbstractStringBuilder")) [va_rf a0, .int a1] h (.inl (gv_R r)) h1 :=
  fun r h1 e => gk_M_of2 (by decide +kernel) (by simp [lv_args, gk_cat_rf, gk_catI, gk_catJ, gk_catD, gv_V, gv_I, gv_J, gv_D, gv_R]) (by simp [lg_sl, gk_cat_rf, gk_catI, gk_catJ, gk_catD, gv_V, gv_I, gv_J, gv_D, gv_R]) (w_AB_append_C d a0 a1 h r h1 e)
theorem d_SB_append_C_0 : decode b_SB_append_C 0 = .ok (.aload_n 0, 1) := by decide +kernel
theorem d_SB_append_C_1 : decode b_SB_append_C 1 = .ok (.iload_n 1, 1) := by decide +kernel
theorem d_SB_append_C_2 : decode b_SB_append_C 2 = .ok (.invokespecial 50, 3) := by decide +kernel
theorem d_SB_append_C_5 : decode b_SB_append_C 5 = .ok (.pop, 1) := by decide +kernel
theorem d_SB_append_C_6 : decode b_SB_append_C 6 = .ok (.aload_n 0, 1) := by decide +kernel
theorem d_SB_append_C_7 : decode b_SB_append_C 7 = .ok (.areturn, 1) := by decide +kernel
theorem w_SB_append_C (d : Nat) (a0 : Option Nat) (a1 : Int32) (h : gk_H) : gk_P gw_R (d + 5) y_SB_append_C b_SB_append_C 2 (some (.object "java/lang/StringBuilder")) [] (f_SB_append_C a0 a1 h) 0 [(0, va_rf a0), (1, .int a1)] [] h := by
  unfold f_SB_append_C
  refine gk_aload_n (pc := 0) 0 d_SB_append_C_0 rfl ?_
  refine gk_iload_n (pc := 1) 1 d_SB_append_C_1 rfl ?_
  refine gk_callSU (pc := 2) (d := (d + 4)) (w' := gv_R) (as := [.int a1]) (n := 1) 1 d_SB_append_C_2 rfl rfl rfl (Nat.le_of_ble_eq_true rfl) tw_433 tw_2183 tw_166 tw_434 tw_92 cw_AB_append_C hs_AB_append_C (Nat.le_of_ble_eq_true rfl) (p_AB_append_C d a0 a1 h) fun x1 h1 => ?_
  refine gk_pop (pc := 5) d_SB_append_C_5 (gk_cat_rf _) ?_
  refine gk_aload_n (pc := 6) 0 d_SB_append_C_6 rfl ?_
  exact gk_aret (pc := 7) rfl d_SB_append_C_7 rfl (Or.inl ⟨_, rfl⟩)
theorem p_SB_append_C (d : Nat) (a0 : Option Nat) (a1 : Int32) (h : gk_H) : ∀ r h1, f_SB_append_C a0 a1 h = some (r, h1) → gk_M (d + 5) y_SB_append_C b_SB_append_C 2 (some (.object "java/lang/StringBuilder")) [va_rf a0, .int a1] h (.inl (gv_R r)) h1 :=
  fun r h1 e => gk_M_of2 (by decide +kernel) (by simp [lv_args, gk_cat_rf, gk_catI, gk_catJ, gk_catD, gv_V, gv_I, gv_J, gv_D, gv_R]) (by simp [lg_sl, gk_cat_rf, gk_catI, gk_catJ, gk_catD, gv_V, gv_I, gv_J, gv_D, gv_R]) (w_SB_append_C d a0 a1 h r h1 e)
theorem d_AB_getValue_0 : decode b_AB_getValue 0 = .ok (.aload_n 0, 1) := by decide +kernel
theorem d_AB_getValue_1 : decode b_AB_getValue 1 = .ok (.getfield 15, 3) := by decide +kernel
theorem d_AB_getValue_4 : decode b_AB_getValue 4 = .ok (.areturn, 1) := by decide +kernel
theorem w_AB_getValue (d : Nat) (a0 : Option Nat) (h : gk_H) : gk_P gw_R d y_AB_getValue b_AB_getValue 1 (some (.array .byte)) [] (f_AB_getValue a0 h) 0 [(0, va_rf a0)] [] h := by
  unfold f_AB_getValue
  refine gk_aload_n (pc := 0) 0 d_AB_getValue_0 rfl ?_
  refine gk_getR (pc := 1) 1 0 d_AB_getValue_1 rfl (Nat.le_of_ble_eq_true rfl) tw_153 fun x1 => ?_
  exact gk_aret (pc := 4) rfl d_AB_getValue_4 rfl (Or.inr ⟨_, rfl⟩)
theorem p_AB_getValue (d : Nat) (a0 : Option Nat) (h : gk_H) : ∀ r h1, f_AB_getValue a0 h = some (r, h1) → gk_M d y_AB_getValue b_AB_getValue 1 (some (.array .byte)) [va_rf a0] h (.inl (gv_R r)) h1 :=
  fun r h1 e => gk_M_of2 (by decide +kernel) (by simp [lv_args, gk_cat_rf, gk_catI, gk_catJ, gk_catD, gv_V, gv_I, gv_J, gv_D, gv_R]) (by simp [lg_sl, gk_cat_rf, gk_catI, gk_catJ, gk_catD, gv_V, gv_I, gv_J, gv_D, gv_R]) (w_AB_getValue d a0 h r h1 e)
theorem d_Ya_checkLength_0 : decode b_Ya_checkLength 0 = .ok (.iload_n 1, 1) := by decide +kernel
theorem d_Ya_checkLength_1 : decode b_Ya_checkLength 1 = .ok (.iload_n 0, 1) := by decide +kernel
theorem d_Ya_checkLength_2 : decode b_Ya_checkLength 2 = .ok (.if_icmp .ge 35, 3) := by decide +kernel
theorem d_Ya_checkLength_37 : decode b_Ya_checkLength 37 = .ok (.return_, 1) := by decide +kernel
theorem w_Ya_checkLength (d : Nat) (a0 : Int32) (a1 : Int32) (h : gk_H) : gk_P gw_V d y_Ya_checkLength b_Ya_checkLength 2 none [] (f_Ya_checkLength a0 a1 h) 0 [(0, .int a0), (1, .int a1)] [] h := by
  unfold f_Ya_checkLength
  refine gk_iload_n (pc := 0) 1 d_Ya_checkLength_0 rfl ?_
  refine gk_iload_n (pc := 1) 0 d_Ya_checkLength_1 rfl ?_
  refine gk_icmp_ge (pc := 2) 37 d_Ya_checkLength_2 rfl (fun _ => ?_) (fun _ => ?_)
  · exact gk_vret (pc := 37) rfl d_Ya_checkLength_37 rfl
  · exact gk_none
theorem p_Ya_checkLength (d : Nat) (a0 : Int32) (a1 : Int32) (h : gk_H) : ∀ r h1, f_Ya_checkLength a0 a1 h = some (r, h1) → gk_M d y_Ya_checkLength b_Ya_checkLength 2 none [.int a0, .int a1] h (.inl (gv_V r)) h1 :=
  fun r h1 e => gk_M_of2 (by decide +kernel) (by simp [lv_args, gk_cat_rf, gk_catI, gk_catJ, gk_catD, gv_V, gv_I, gv_J, gv_D, gv_R]) (by simp [lg_sl, gk_cat_rf, gk_catI, gk_catJ, gk_catD, gv_V, gv_I, gv_J, gv_D, gv_R]) (w_Ya_checkLength d a0 a1 h r h1 e)
theorem d_Ya_copyOfRangeByte_0 : decode b_Ya_copyOfRangeByte 0 = .ok (.iload_n 1, 1) := by decide +kernel
theorem d_Ya_copyOfRangeByte_1 : decode b_Ya_copyOfRangeByte 1 = .ok (.iload_n 2, 1) := by decide +kernel
theorem d_Ya_copyOfRangeByte_2 : decode b_Ya_copyOfRangeByte 2 = .ok (.invokestatic 343, 3) := by decide +kernel
theorem d_Ya_copyOfRangeByte_5 : decode b_Ya_copyOfRangeByte 5 = .ok (.iload_n 2, 1) := by decide +kernel
theorem d_Ya_copyOfRangeByte_6 : decode b_Ya_copyOfRangeByte 6 = .ok (.iload_n 1, 1) := by decide +kernel
theorem d_Ya_copyOfRangeByte_7 : decode b_Ya_copyOfRangeByte 7 = .ok (.isub, 1) := by decide +kernel
theorem d_Ya_copyOfRangeByte_8 : decode b_Ya_copyOfRangeByte 8 = .ok (.istore_n 3, 1) := by decide +kernel
theorem d_Ya_copyOfRangeByte_9 : decode b_Ya_copyOfRangeByte 9 = .ok (.iload_n 3, 1) := by decide +kernel
theorem d_Ya_copyOfRangeByte_10 : decode b_Ya_copyOfRangeByte 10 = .ok (.newarray .byte, 2) := by decide +kernel
theorem d_Ya_copyOfRangeByte_12 : decode b_Ya_copyOfRangeByte 12 = .ok (.astore 4, 2) := by decide +kernel
theorem d_Ya_copyOfRangeByte_14 : decode b_Ya_copyOfRangeByte 14 = .ok (.aload_n 0, 1) := by decide +kernel
theorem d_Ya_copyOfRangeByte_15 : decode b_Ya_copyOfRangeByte 15 = .ok (.iload_n 1, 1) := by decide +kernel
theorem d_Ya_copyOfRangeByte_16 : decode b_Ya_copyOfRangeByte 16 = .ok (.aload 4, 2) := by decide +kernel
theorem d_Ya_copyOfRangeByte_18 : decode b_Ya_copyOfRangeByte 18 = .ok (.iconst 0, 1) := by decide +kernel
theorem d_Ya_copyOfRangeByte_19 : decode b_Ya_copyOfRangeByte 19 = .ok (.aload_n 0, 1) := by decide +kernel
theorem d_Ya_copyOfRangeByte_20 : decode b_Ya_copyOfRangeByte 20 = .ok (.arraylength, 1) := by decide +kernel
theorem d_Ya_copyOfRangeByte_21 : decode b_Ya_copyOfRangeByte 21 = .ok (.iload_n 1, 1) := by decide +kernel
theorem d_Ya_copyOfRangeByte_22 : decode b_Ya_copyOfRangeByte 22 = .ok (.isub, 1) := by decide +kernel
theorem d_Ya_copyOfRangeByte_23 : decode b_Ya_copyOfRangeByte 23 = .ok (.iload_n 3, 1) := by decide +kernel
theorem d_Ya_copyOfRangeByte_24 : decode b_Ya_copyOfRangeByte 24 = .ok (.invokestatic 304, 3) := by decide +kernel
theorem d_Ya_copyOfRangeByte_27 : decode b_Ya_copyOfRangeByte 27 = .ok (.invokestatic 150, 3) := by decide +kernel
theorem d_Ya_copyOfRangeByte_30 : decode b_Ya_copyOfRangeByte 30 = .ok (.aload 4, 2) := by decide +kernel
theorem d_Ya_copyOfRangeByte_32 : decode b_Ya_copyOfRangeByte 32 = .ok (.areturn, 1) := by decide +kernel
theorem w_Ya_copyOfRangeByte (d : Nat) (a0 : Option Nat) (a1 : Int32) (a2 : Int32) (h : gk_H) : gk_P gw_R (d + 1) y_Ya_copyOfRangeByte b_Ya_copyOfRangeByte 5 (some (.array .byte)) [] (f_Ya_copyOfRangeByte a0 a1 a2 h) 0 [(0, va_rf a0), (1, .int a1), (2, .int a2)] [] h := by
  unfold f_Ya_copyOfRangeByte
  refine gk_iload_n (pc := 0) 1 d_Ya_copyOfRangeByte_0 rfl ?_
  refine gk_iload_n (pc := 1) 2 d_Ya_copyOfRangeByte_1 rfl ?_
  refine gk_callS (pc := 2) (d := d) (w' := gv_V) (as := [.int a1, .int a2]) (n := 2) d_Ya_copyOfRangeByte_2 rfl rfl (Nat.le_of_ble_eq_true rfl) tw_557 tw_558 tw_107 cw_Ya_checkLength hy_Ya_checkLength (Nat.le_of_ble_eq_true rfl) (p_Ya_checkLength d a1 a2 h) fun _ h1 => ?_
  refine gk_iload_n (pc := 5) 2 d_Ya_copyOfRangeByte_5 rfl ?_
  refine gk_iload_n (pc := 6) 1 d_Ya_copyOfRangeByte_6 rfl ?_
  refine gk_isub (pc := 7) d_Ya_copyOfRangeByte_7 ?_
  refine gk_topI (pc := 8) fun x1 => ?_
  refine gk_istore_n (pc := 8) (L' := [(3, .int x1), (0, va_rf a0), (1, .int a1), (2, .int a2)]) d_Ya_copyOfRangeByte_8 (Nat.le_of_ble_eq_true rfl) rfl ?_
  refine gk_iload_n (pc := 9) 0 d_Ya_copyOfRangeByte_9 rfl ?_
  refine gk_newA (pc := 10) 3 d_Ya_copyOfRangeByte_10 rfl tw_167 (Nat.le_of_ble_eq_true rfl) fun x2 h2 => ?_
  refine gk_astore (pc := 12) (L' := [(4, va_rf x2), (3, .int x1), (0, va_rf a0), (1, .int a1), (2, .int a2)]) d_Ya_copyOfRangeByte_12 (Nat.le_of_ble_eq_true rfl) rfl ?_
  refine gk_aload_n (pc := 14) 2 d_Ya_copyOfRangeByte_14 rfl ?_
  refine gk_iload_n (pc := 15) 3 d_Ya_copyOfRangeByte_15 rfl ?_
  refine gk_aload (pc := 16) 0 d_Ya_copyOfRangeByte_16 rfl ?_
  refine gk_iconst (pc := 18) (0 : Int32) d_Ya_copyOfRangeByte_18 rfl ?_
  refine gk_aload_n (pc := 19) 2 d_Ya_copyOfRangeByte_19 rfl ?_
  refine gk_alen (pc := 20) d_Ya_copyOfRangeByte_20 fun x3 => ?_
  refine gk_iload_n (pc := 21) 3 d_Ya_copyOfRangeByte_21 rfl ?_
  refine gk_isub (pc := 22) d_Ya_copyOfRangeByte_22 ?_
  refine gk_iload_n (pc := 23) 1 d_Ya_copyOfRangeByte_23 rfl ?_
  refine gk_callS (pc := 24) (d := d) (w' := gv_I) (as := [.int (x3 - a1), .int x1]) (n := 2) d_Ya_copyOfRangeByte_24 rfl rfl (by simp [gk_cat_rf, gk_catI, gk_catJ, gk_catD, gv_V, gv_I, gv_J, gv_D, gv_R]) tw_465 tw_466 tw_106 cw_Ma_min_II hy_Ma_min_II (Nat.le_of_ble_eq_true rfl) (p_Ma_min_II d (x3 - a1) x1 h2) fun x4 h3 => ?_
  refine gk_arraycopy (pc := 27) (d := d) d_Ya_copyOfRangeByte_27 tw_468 (Nat.le_of_ble_eq_true rfl) fun h4 => ?_
  refine gk_aload (pc := 30) 0 d_Ya_copyOfRangeByte_30 rfl ?_
  exact gk_aret (pc := 32) rfl d_Ya_copyOfRangeByte_32 rfl (Or.inr ⟨_, rfl⟩)
theorem p_Ya_copyOfRangeByte (d : Nat) (a0 : Option Nat) (a1 : Int32) (a2 : Int32) (h : gk_H) : ∀ r h1, f_Ya_copyOfRangeByte a0 a1 a2 h = some (r, h1) → gk_M (d + 1) y_Ya_copyOfRangeByte b_Ya_copyOfRangeByte 5 (some (.array .byte)) [va_rf a0, .int a1, .int a2] h (.inl (gv_R r)) h1 :=
  fun r h1 e => gk_M_of2 (by decide +kernel) (by simp [lv_args, gk_cat_rf, gk_catI, gk_catJ, gk_catD, gv_V, gv_I, gv_J, gv_D, gv_R]) (by simp [lg_sl, gk_cat_rf, gk_catI, gk_catJ, gk_catD, gv_V, gv_I, gv_J, gv_D, gv_R]) (w_Ya_copyOfRangeByte d a0 a1 a2 h r h1 e)
theorem d_Ya_copyOfRange_0 : decode b_Ya_copyOfRange 0 = .ok (.iload_n 1, 1) := by decide +kernel
theorem d_Ya_copyOfRange_1 : decode b_Ya_copyOfRange 1 = .ok (.ifCond .ne 9, 3) := by decide +kernel
theorem d_Ya_copyOfRange_4 : decode b_Ya_copyOfRange 4 = .ok (.iload_n 2, 1) := by decide +kernel
theorem d_Ya_copyOfRange_5 : decode b_Ya_copyOfRange 5 = .ok (.aload_n 0, 1) := by decide +kernel
theorem d_Ya_copyOfRange_6 : decode b_Ya_copyOfRange 6 = .ok (.arraylength, 1) := by decide +kernel
theorem d_Ya_copyOfRange_7 : decode b_Ya_copyOfRange 7 = .ok (.if_icmp .eq 10, 3) := by decide +kernel
theorem d_Ya_copyOfRange_10 : decode b_Ya_copyOfRange 10 = .ok (.aload_n 0, 1) := by decide +kernel
theorem d_Ya_copyOfRange_11 : decode b_Ya_copyOfRange 11 = .ok (.iload_n 1, 1) := by decide +kernel
theorem d_Ya_copyOfRange_12 : decode b_Ya_copyOfRange 12 = .ok (.iload_n 2, 1) := by decide +kernel
theorem d_Ya_copyOfRange_13 : decode b_Ya_copyOfRange 13 = .ok (.invokestatic 339, 3) := by decide +kernel
theorem d_Ya_copyOfRange_16 : decode b_Ya_copyOfRange 16 = .ok (.areturn, 1) := by decide +kernel
theorem d_Ya_copyOfRange_17 : decode b_Ya_copyOfRange 17 = .ok (.aload_n 0, 1) := by decide +kernel
theorem d_Ya_copyOfRange_18 : decode b_Ya_copyOfRange 18 = .ok (.invokevirtual 310, 3) := by decide +kernel
theorem d_Ya_copyOfRange_21 : decode b_Ya_copyOfRange 21 = .ok (.checkcast 311, 3) := by decide +kernel
theorem d_Ya_copyOfRange_24 : decode b_Ya_copyOfRange 24 = .ok (.areturn, 1) := by decide +kernel
theorem p_Ya_copyOfRange_b10 (d : Nat)  (v0 : Option Nat) (v1 : Int32) (v2 : Int32) (h : gk_H) : gk_P gw_R (d + 2) y_Ya_copyOfRange b_Ya_copyOfRange 3 (some (.array .byte)) [] (f_Ya_copyOfRange_b10  v0 v1 v2 h) 10 [(0, va_rf v0), (1, .int v1), (2, .int v2)] [] h := by
  unfold f_Ya_copyOfRange_b10
  refine gk_aload_n (pc := 10) 0 d_Ya_copyOfRange_10 rfl ?_
  refine gk_iload_n (pc := 11) 1 d_Ya_copyOfRange_11 rfl ?_
  refine gk_iload_n (pc := 12) 2 d_Ya_copyOfRange_12 rfl ?_
  refine gk_callS (pc := 13) (d := (d + 1)) (w' := gv_R) (as := [va_rf v0, .int v1, .int v2]) (n := 3) d_Ya_copyOfRange_13 rfl rfl (Nat.le_of_ble_eq_true rfl) tw_554 tw_555 tw_107 cw_Ya_copyOfRangeByte hy_Ya_copyOfRangeByte (Nat.le_of_ble_eq_true rfl) (p_Ya_copyOfRangeByte d v0 v1 v2 h) fun x1 h1 => ?_
  exact gk_aret (pc := 16) rfl d_Ya_copyOfRange_16 rfl (Or.inr ⟨_, rfl⟩)
theorem w_Ya_copyOfRange (d : Nat) (a0 : Option Nat) (a1 : Int32) (a2 : Int32) (h : gk_H) : gk_P gw_R (d + 2) y_Ya_copyOfRange b_Ya_copyOfRange 3 (some (.array .byte)) [] (f_Ya_copyOfRange a0 a1 a2 h) 0 [(0, va_rf a0), (1, .int a1), (2, .int a2)] [] h := by
  unfold f_Ya_copyOfRange
  refine gk_iload_n (pc := 0) 1 d_Ya_copyOfRange_0 rfl ?_
  refine gk_if_ne (pc := 1) 10 d_Ya_copyOfRange_1 rfl (fun _ => ?_) (fun _ => ?_)
  · refine gk_iload_n (pc := 4) 2 d_Ya_copyOfRange_4 rfl ?_
    refine gk_aload_n (pc := 5) 0 d_Ya_copyOfRange_5 rfl ?_
    refine gk_alen (pc := 6) d_Ya_copyOfRange_6 fun x1 => ?_
    refine gk_icmp_eq (pc := 7) 17 d_Ya_copyOfRange_7 rfl (fun _ => ?_) (fun _ => ?_)
    · refine gk_aload_n (pc := 17) 0 d_Ya_copyOfRange_17 rfl ?_
      refine gk_clone (d := d + 1) (pc := 18) d_Ya_copyOfRange_18 d_Ya_copyOfRange_21 (gk_T_mem (by decide +kernel) (by decide +kernel)) (gk_T_mem (by decide +kernel) (by decide +kernel)) (Nat.le_of_ble_eq_true rfl) fun x2 h1 => ?_
      exact gk_aret (pc := 24) rfl d_Ya_copyOfRange_24 rfl (Or.inr ⟨_, rfl⟩)
    · exact p_Ya_copyOfRange_b10 d a0 a1 a2 h
  · exact p_Ya_copyOfRange_b10 d a0 a1 a2 h
theorem p_Ya_copyOfRange (d : Nat) (a0 : Option Nat) (a1 : Int32) (a2 : Int32) (h : gk_H) : ∀ r h1, f_Ya_copyOfRange a0 a1 a2 h = some (r, h1) → gk_M (d + 2) y_Ya_copyOfRange b_Ya_copyOfRange 3 (some (.array .byte)) [va_rf a0, .int a1, .int a2] h (.inl (gv_R r)) h1 :=
  fun r h1 e => gk_M_of2 (by decide +kernel) (by simp [lv_args, gk_cat_rf, gk_catI, gk_catJ, gk_catD, gv_V, gv_I, gv_J, gv_D, gv_R]) (by simp [lg_sl, gk_cat_rf, gk_catI, gk_catJ, gk_catD, gv_V, gv_I, gv_J, gv_D, gv_R]) (w_Ya_copyOfRange d a0 a1 a2 h r h1 e)
theorem d_St_init_AbstractStringBuilderVoid_0 : decode b_St_init_AbstractStringBuilderVoid 0 = .ok (.aload_n 0, 1) := by decide +kernel
theorem d_St_init_AbstractStringBuilderVoid_1 : decode b_St_init_AbstractStringBuilderVoid 1 = .ok (.invokespecial 1, 3) := by decide +kernel
theorem d_St_init_AbstractStringBuilderVoid_4 : decode b_St_init_AbstractStringBuilderVoid 4 = .ok (.aload_n 1, 1) := by decide +kernel
theorem d_St_init_AbstractStringBuilderVoid_5 : decode b_St_init_AbstractStringBuilderVoid 5 = .ok (.invokevirtual 552, 3) := by decide +kernel
theorem d_St_init_AbstractStringBuilderVoid_8 : decode b_St_init_AbstractStringBuilderVoid 8 = .ok (.astore_n 3, 1) := by decide +kernel
theorem d_St_init_AbstractStringBuilderVoid_9 : decode b_St_init_AbstractStringBuilderVoid 9 = .ok (.aload_n 1, 1) := by decide +kernel
theorem d_St_init_AbstractStringBuilderVoid_10 : decode b_St_init_AbstractStringBuilderVoid 10 = .ok (.invokevirtual 549, 3) := by decide +kernel
theorem d_St_init_AbstractStringBuilderVoid_13 : decode b_St_init_AbstractStringBuilderVoid 13 = .ok (.istore 4, 2) := by decide +kernel
theorem d_St_init_AbstractStringBuilderVoid_15 : decode b_St_init_AbstractStringBuilderVoid 15 = .ok (.aload_n 1, 1) := by decide +kernel
theorem d_St_init_AbstractStringBuilderVoid_16 : decode b_St_init_AbstractStringBuilderVoid 16 = .ok (.invokevirtual 1047, 3) := by decide +kernel
theorem d_St_init_AbstractStringBuilderVoid_19 : decode b_St_init_AbstractStringBuilderVoid 19 = .ok (.ifCond .eq 22, 3) := by decide +kernel
theorem d_St_init_AbstractStringBuilderVoid_22 : decode b_St_init_AbstractStringBuilderVoid 22 = .ok (.aload_n 0, 1) := by decide +kernel
theorem d_St_init_AbstractStringBuilderVoid_23 : decode b_St_init_AbstractStringBuilderVoid 23 = .ok (.iconst 0, 1) := by decide +kernel
theorem d_St_init_AbstractStringBuilderVoid_24 : decode b_St_init_AbstractStringBuilderVoid 24 = .ok (.putfield 15, 3) := by decide +kernel
theorem d_St_init_AbstractStringBuilderVoid_27 : decode b_St_init_AbstractStringBuilderVoid 27 = .ok (.aload_n 0, 1) := by decide +kernel
theorem d_St_init_AbstractStringBuilderVoid_28 : decode b_St_init_AbstractStringBuilderVoid 28 = .ok (.aload_n 3, 1) := by decide +kernel
theorem d_St_init_AbstractStringBuilderVoid_29 : decode b_St_init_AbstractStringBuilderVoid 29 = .ok (.iconst 0, 1) := by decide +kernel
theorem d_St_init_AbstractStringBuilderVoid_30 : decode b_St_init_AbstractStringBuilderVoid 30 = .ok (.iload 4, 2) := by decide +kernel
theorem d_St_init_AbstractStringBuilderVoid_32 : decode b_St_init_AbstractStringBuilderVoid 32 = .ok (.invokestatic 54, 3) := by decide +kernel
theorem d_St_init_AbstractStringBuilderVoid_35 : decode b_St_init_AbstractStringBuilderVoid 35 = .ok (.putfield 9, 3) := by decide +kernel
theorem d_St_init_AbstractStringBuilderVoid_38 : decode b_St_init_AbstractStringBuilderVoid 38 = .ok (.goto 59, 3) := by decide +kernel
theorem d_St_init_AbstractStringBuilderVoid_41 : decode b_St_init_AbstractStringBuilderVoid 41 = .ok (.getstatic 38, 3) := by decide +kernel
theorem d_St_init_AbstractStringBuilderVoid_44 : decode b_St_init_AbstractStringBuilderVoid 44 = .ok (.ifCond .eq 35, 3) := by decide +kernel
theorem d_St_init_AbstractStringBuilderVoid_47 : decode b_St_init_AbstractStringBuilderVoid 47 = .ok (.aload_n 1, 1) := by decide +kernel
theorem d_St_init_AbstractStringBuilderVoid_48 : decode b_St_init_AbstractStringBuilderVoid 48 = .ok (.getfield 1048, 3) := by decide +kernel
theorem d_St_init_AbstractStringBuilderVoid_51 : decode b_St_init_AbstractStringBuilderVoid 51 = .ok (.ifCond .eq 28, 3) := by decide +kernel
theorem d_St_init_AbstractStringBuilderVoid_79 : decode b_St_init_AbstractStringBuilderVoid 79 = .ok (.aload_n 0, 1) := by decide +kernel
theorem d_St_init_AbstractStringBuilderVoid_80 : decode b_St_init_AbstractStringBuilderVoid 80 = .ok (.iconst 1, 1) := by decide +kernel
theorem d_St_init_AbstractStringBuilderVoid_81 : decode b_St_init_AbstractStringBuilderVoid 81 = .ok (.putfield 15, 3) := by decide +kernel
theorem d_St_init_AbstractStringBuilderVoid_84 : decode b_St_init_AbstractStringBuilderVoid 84 = .ok (.aload_n 0, 1) := by decide +kernel
theorem d_St_init_AbstractStringBuilderVoid_85 : decode b_St_init_AbstractStringBuilderVoid 85 = .ok (.aload_n 3, 1) := by decide +kernel
theorem d_St_init_AbstractStringBuilderVoid_86 : decode b_St_init_AbstractStringBuilderVoid 86 = .ok (.iconst 0, 1) := by decide +kernel
theorem d_St_init_AbstractStringBuilderVoid_87 : decode b_St_init_AbstractStringBuilderVoid 87 = .ok (.iload 4, 2) := by decide +kernel
theorem d_St_init_AbstractStringBuilderVoid_89 : decode b_St_init_AbstractStringBuilderVoid 89 = .ok (.iconst 1, 1) := by decide +kernel
theorem d_St_init_AbstractStringBuilderVoid_90 : decode b_St_init_AbstractStringBuilderVoid 90 = .ok (.ishl, 1) := by decide +kernel
theorem d_St_init_AbstractStringBuilderVoid_91 : decode b_St_init_AbstractStringBuilderVoid 91 = .ok (.invokestatic 54, 3) := by decide +kernel
theorem d_St_init_AbstractStringBuilderVoid_94 : decode b_St_init_AbstractStringBuilderVoid 94 = .ok (.putfield 9, 3) := by decide +kernel
theorem d_St_init_AbstractStringBuilderVoid_97 : decode b_St_init_AbstractStringBuilderVoid 97 = .ok (.return_, 1) := by decide +kernel
theorem p_St_init_AbstractStringBuilderVoid_b97 (d : Nat)   (h : gk_H) : gk_P gw_V (d + 3) y_St_init_AbstractStringBuilderVoid b_St_init_AbstractStringBuilderVoid 5 none [] (f_St_init_AbstractStringBuilderVoid_b97   h) 97 [] [] h := by
  unfold f_St_init_AbstractStringBuilderVoid_b97
  exact gk_vret (pc := 97) rfl d_St_init_AbstractStringBuilderVoid_97 rfl
theorem p_St_init_AbstractStringBuilderVoid_b79 (d : Nat)  (v0 : Option Nat) (v3 : Option Nat) (v4 : Int32) (h : gk_H) : gk_P gw_V (d + 3) y_St_init_AbstractStringBuilderVoid b_St_init_AbstractStringBuilderVoid 5 none [] (f_St_init_AbstractStringBuilderVoid_b79  v0 v3 v4 h) 79 [(0, va_rf v0), (3, va_rf v3), (4, .int v4)] [] h := by
  unfold f_St_init_AbstractStringBuilderVoid_b79
  refine gk_aload_n (pc := 79) 0 d_St_init_AbstractStringBuilderVoid_79 rfl ?_
  refine gk_iconst (pc := 80) (1 : Int32) d_St_init_AbstractStringBuilderVoid_80 rfl ?_
  refine gk_putfield (pc := 81) 0 1 d_St_init_AbstractStringBuilderVoid_81 rfl (Nat.le_of_ble_eq_true rfl) tw_652 (Or.inr ⟨rfl, rfl⟩) fun h1 => ?_
  refine gk_aload_n (pc := 84) 0 d_St_init_AbstractStringBuilderVoid_84 rfl ?_
  refine gk_aload_n (pc := 85) 1 d_St_init_AbstractStringBuilderVoid_85 rfl ?_
  refine gk_iconst (pc := 86) (0 : Int32) d_St_init_AbstractStringBuilderVoid_86 rfl ?_
  refine gk_iload (pc := 87) 2 d_St_init_AbstractStringBuilderVoid_87 rfl ?_
  refine gk_iconst (pc := 89) (1 : Int32) d_St_init_AbstractStringBuilderVoid_89 rfl ?_
  refine gk_ishl (pc := 90) d_St_init_AbstractStringBuilderVoid_90 ?_
  refine gk_callS (pc := 91) (d := (d + 2)) (w' := gv_R) (as := [va_rf v3, .int (0 : Int32), .int (v4 <<< ((1 : Int32) &&& 31))]) (n := 3) d_St_init_AbstractStringBuilderVoid_91 rfl rfl (by simp [gk_cat_rf, gk_catI, gk_catJ, gk_catD, gv_V, gv_I, gv_J, gv_D, gv_R]) tw_551 tw_552 tw_107 cw_Ya_copyOfRange hy_Ya_copyOfRange (Nat.le_of_ble_eq_true rfl) (p_Ya_copyOfRange d v3 (0 : Int32) (v4 <<< ((1 : Int32) &&& 31)) h1) fun x1 h2 => ?_
  refine gk_putfield (pc := 94) 0 0 d_St_init_AbstractStringBuilderVoid_94 rfl (Nat.le_of_ble_eq_true rfl) tw_651 (Or.inr ⟨rfl, rfl⟩) fun h3 => ?_
  refine gk_weak [] (L' := []) rfl ?_
  exact p_St_init_AbstractStringBuilderVoid_b97 d h3
theorem w_St_init_AbstractStringBuilderVoid (d : Nat) (a0 : Option Nat) (a1 : Option Nat) (a2 : Option Nat) (h : gk_H) : gk_P gw_V (d + 3) y_St_init_AbstractStringBuilderVoid b_St_init_AbstractStringBuilderVoid 5 none [] (f_St_init_AbstractStringBuilderVoid a0 a1 a2 h) 0 [(0, va_rf a0), (1, va_rf a1), (2, va_rf a2)] [] h := by
  unfold f_St_init_AbstractStringBuilderVoid
  refine gk_aload_n (pc := 0) 0 d_St_init_AbstractStringBuilderVoid_0 rfl ?_
  refine gk_objI (pc := 1) (d := (d + 2)) d_St_init_AbstractStringBuilderVoid_1 tw_543 (Nat.le_of_ble_eq_true rfl) ?_
  refine gk_aload_n (pc := 4) 1 d_St_init_AbstractStringBuilderVoid_4 rfl ?_
  refine gk_callU (pc := 5) (d := (d + 2)) (w' := gv_R) (as := []) (n := 0) 1 d_St_init_AbstractStringBuilderVoid_5 rfl rfl rfl (Nat.le_of_ble_eq_true rfl) tw_544 tw_546 tw_545 tw_547 tw_92 cw_AB_getValue hy_AB_getValue (Nat.le_of_ble_eq_true rfl) (p_AB_getValue (d + 2) a1 h) fun x1 h1 => ?_
  refine gk_astore_n (pc := 8) (L' := [(3, va_rf x1), (0, va_rf a0), (1, va_rf a1), (2, va_rf a2)]) d_St_init_AbstractStringBuilderVoid_8 (Nat.le_of_ble_eq_true rfl) (by simp [gk_s1, gk_s2, gk_cat_rf, gk_catI, gk_catJ, gk_catD] <;> decide) ?_
  refine gk_aload_n (pc := 9) 2 d_St_init_AbstractStringBuilderVoid_9 rfl ?_
  refine gk_callO (pc := 10) (d := (d + 2)) (w' := gv_I) (as := []) (n := 0) 1 y_AB_length d_St_init_AbstractStringBuilderVoid_10 rfl rfl rfl (Nat.le_of_ble_eq_true rfl) tw_549 tw_2182 tw_426 cw_AB_length tw_422 tw_2187 tw_93 cw_SB_length hy_AB_length (Nat.le_of_ble_eq_true rfl) (p_SB_length (d + 1) a1 h1) fun x2 h2 => ?_
  refine gk_istore (pc := 13) (L' := [(4, .int x2), (3, va_rf x1), (0, va_rf a0), (1, va_rf a1), (2, va_rf a2)]) d_St_init_AbstractStringBuilderVoid_13 (Nat.le_of_ble_eq_true rfl) (by simp [gk_s1, gk_s2, gk_cat_rf, gk_catI, gk_catJ, gk_catD] <;> decide) ?_
  refine gk_aload_n (pc := 15) 3 d_St_init_AbstractStringBuilderVoid_15 rfl ?_
  refine gk_callU (pc := 16) (d := (d + 2)) (w' := gv_I) (as := []) (n := 0) 1 d_St_init_AbstractStringBuilderVoid_16 rfl rfl rfl (Nat.le_of_ble_eq_true rfl) tw_550 tw_473 tw_472 tw_474 tw_92 cw_AB_isLatin1 hy_AB_isLatin1 (Nat.le_of_ble_eq_true rfl) (p_AB_isLatin1 (d + 2) a1 h2) fun x3 h3 => ?_
  refine gk_if_eq (pc := 19) 41 d_St_init_AbstractStringBuilderVoid_19 rfl (fun _ => ?_) (fun _ => ?_)
  · refine gk_gsI (pc := 41) 0 d_St_init_AbstractStringBuilderVoid_41 rfl tw_620 fun x4 => ?_
    refine gk_if_eq (pc := 44) 79 d_St_init_AbstractStringBuilderVoid_44 rfl (fun _ => ?_) (fun _ => ?_)
    · refine gk_weak [2, 1, 0] (L' := [(0, va_rf a0), (3, va_rf x1), (4, .int x2)]) rfl ?_
      exact p_St_init_AbstractStringBuilderVoid_b79 d a0 x1 x2 h3
    · refine gk_aload_n (pc := 47) 3 d_St_init_AbstractStringBuilderVoid_47 rfl ?_
      refine gk_getI (pc := 48) 1 2 d_St_init_AbstractStringBuilderVoid_48 rfl (Nat.le_of_ble_eq_true rfl) tw_156 fun x5 => ?_
      refine gk_if_eq (pc := 51) 79 d_St_init_AbstractStringBuilderVoid_51 rfl (fun _ => ?_) (fun _ => ?_)
      · refine gk_weak [2, 1, 0] (L' := [(0, va_rf a0), (3, va_rf x1), (4, .int x2)]) rfl ?_
        exact p_St_init_AbstractStringBuilderVoid_b79 d a0 x1 x2 h3
      · exact gk_none
  · refine gk_aload_n (pc := 22) 2 d_St_init_AbstractStringBuilderVoid_22 rfl ?_
    refine gk_iconst (pc := 23) (0 : Int32) d_St_init_AbstractStringBuilderVoid_23 rfl ?_
    refine gk_putfield (pc := 24) 0 1 d_St_init_AbstractStringBuilderVoid_24 rfl (Nat.le_of_ble_eq_true rfl) tw_652 (Or.inr ⟨rfl, rfl⟩) fun h4 => ?_
    refine gk_aload_n (pc := 27) 2 d_St_init_AbstractStringBuilderVoid_27 rfl ?_
    refine gk_aload_n (pc := 28) 1 d_St_init_AbstractStringBuilderVoid_28 rfl ?_
    refine gk_iconst (pc := 29) (0 : Int32) d_St_init_AbstractStringBuilderVoid_29 rfl ?_
    refine gk_iload (pc := 30) 0 d_St_init_AbstractStringBuilderVoid_30 rfl ?_
    refine gk_callS (pc := 32) (d := (d + 2)) (w' := gv_R) (as := [va_rf x1, .int (0 : Int32), .int x2]) (n := 3) d_St_init_AbstractStringBuilderVoid_32 rfl rfl (by simp [gk_cat_rf, gk_catI, gk_catJ, gk_catD, gv_V, gv_I, gv_J, gv_D, gv_R]) tw_551 tw_552 tw_107 cw_Ya_copyOfRange hy_Ya_copyOfRange (Nat.le_of_ble_eq_true rfl) (p_Ya_copyOfRange d x1 (0 : Int32) x2 h4) fun x6 h5 => ?_
    refine gk_putfield (pc := 35) 0 0 d_St_init_AbstractStringBuilderVoid_35 rfl (Nat.le_of_ble_eq_true rfl) tw_651 (Or.inr ⟨rfl, rfl⟩) fun h6 => ?_
    refine gk_goto (pc := 38) 97 d_St_init_AbstractStringBuilderVoid_38 rfl ?_
    refine gk_weak [] (L' := []) rfl ?_
    exact p_St_init_AbstractStringBuilderVoid_b97 d h6
theorem p_St_init_AbstractStringBuilderVoid (d : Nat) (a0 : Option Nat) (a1 : Option Nat) (a2 : Option Nat) (h : gk_H) : ∀ r h1, f_St_init_AbstractStringBuilderVoid a0 a1 a2 h = some (r, h1) → gk_M (d + 3) y_St_init_AbstractStringBuilderVoid b_St_init_AbstractStringBuilderVoid 5 none [va_rf a0, va_rf a1, va_rf a2] h (.inl (gv_V r)) h1 :=
  fun r h1 e => gk_M_of2 (by decide +kernel) (by simp [lv_args, gk_cat_rf, gk_catI, gk_catJ, gk_catD, gv_V, gv_I, gv_J, gv_D, gv_R]) (by simp [lg_sl, gk_cat_rf, gk_catI, gk_catJ, gk_catD, gv_V, gv_I, gv_J, gv_D, gv_R]) (w_St_init_AbstractStringBuilderVoid d a0 a1 a2 h r h1 e)
theorem d_St_init_StringBuilder_0 : decode b_St_init_StringBuilder 0 = .ok (.aload_n 0, 1) := by decide +kernel
theorem d_St_init_StringBuilder_1 : decode b_St_init_StringBuilder 1 = .ok (.aload_n 1, 1) := by decide +kernel
theorem d_St_init_StringBuilder_2 : decode b_St_init_StringBuilder 2 = .ok (.aconst_null, 1) := by decide +kernel
theorem d_St_init_StringBuilder_3 : decode b_St_init_StringBuilder 3 = .ok (.invokespecial 489, 3) := by decide +kernel
theorem d_St_init_StringBuilder_6 : decode b_St_init_StringBuilder 6 = .ok (.return_, 1) := by decide +kernel
theorem w_St_init_StringBuilder (d : Nat) (a0 : Option Nat) (a1 : Option Nat) (h : gk_H) : gk_P gw_V (d + 4) y_St_init_StringBuilder b_St_init_StringBuilder 2 none [] (f_St_init_StringBuilder a0 a1 h) 0 [(0, va_rf a0), (1, va_rf a1)] [] h := by
  unfold f_St_init_StringBuilder
  refine gk_aload_n (pc := 0) 0 d_St_init_StringBuilder_0 rfl ?_
  refine gk_aload_n (pc := 1) 1 d_St_init_StringBuilder_1 rfl ?_
  refine gk_anull (pc := 2) d_St_init_StringBuilder_2 ?_
  refine gk_callI (pc := 3) (d := (d + 3)) (w' := gv_V) (as := [va_rf a1, va_rf none]) (n := 2) 0 d_St_init_StringBuilder_3 rfl rfl (Nat.le_of_ble_eq_true rfl) tw_540 tw_541 tw_94 cw_St_init_AbstractStringBuilderVoid rfl hy_St_init_AbstractStringBuilderVoid (Nat.le_of_ble_eq_true rfl) (p_St_init_AbstractStringBuilderVoid d a0 a1 none h) fun _ h1 => ?_
  exact gk_vret (pc := 6) rfl d_St_init_StringBuilder_6 rfl
theorem p_St_init_StringBuilder (d : Nat) (a0 : Option Nat) (a1 : Option Nat) (h : gk_H) : ∀ r h1, f_St_init_StringBuilder a0 a1 h = some (r, h1) → gk_M (d + 4) y_St_init_StringBuilder b_St_init_StringBuilder 2 none [va_rf a0, va_rf a1] h (.inl (gv_V r)) h1 :=
  fun r h1 e => gk_M_of2 (by decide +kernel) (by simp [lv_args, gk_cat_rf, gk_catI, gk_catJ, gk_catD, gv_V, gv_I, gv_J, gv_D, gv_R]) (by simp [lg_sl, gk_cat_rf, gk_catI, gk_catJ, gk_catD, gv_V, gv_I, gv_J, gv_D, gv_R]) (w_St_init_StringBuilder d a0 a1 h r h1 e)
theorem d_SB_toString_0 : decode b_SB_toString 0 = .ok (.new 18, 3) := by decide +kernel
theorem d_SB_toString_3 : decode b_SB_toString 3 = .ok (.dup, 1) := by decide +kernel
theorem d_SB_toString_4 : decode b_SB_toString 4 = .ok (.aload_n 0, 1) := by decide +kernel
theorem d_SB_toString_5 : decode b_SB_toString 5 = .ok (.invokespecial 137, 3) := by decide +kernel
theorem d_SB_toString_8 : decode b_SB_toString 8 = .ok (.areturn, 1) := by decide +kernel
theorem w_SB_toString (d : Nat) (a0 : Option Nat) (h : gk_H) : gk_P gw_R (d + 5) y_SB_toString b_SB_toString 1 (some (.object "java/lang/String")) [] (f_SB_toString a0 h) 0 [(0, va_rf a0)] [] h := by
  unfold f_SB_toString
  refine gk_newO (pc := 0) 0 4 d_SB_toString_0 rfl tw_535 tw_536 tw_94 fun x1 h1 => ?_
  refine gk_dup (pc := 3) d_SB_toString_3 (gk_cat_rf _) ?_
  refine gk_aload_n (pc := 4) 0 d_SB_toString_4 rfl ?_
  refine gk_callI (pc := 5) (d := (d + 4)) (w' := gv_V) (as := [va_rf a0]) (n := 1) 0 d_SB_toString_5 rfl rfl (by simp [gk_cat_rf, gk_catI, gk_catJ, gk_catD, gv_V, gv_I, gv_J, gv_D, gv_R]) tw_537 tw_538 tw_94 cw_St_init_StringBuilder rfl hy_St_init_StringBuilder (Nat.le_of_ble_eq_true rfl) (p_St_init_StringBuilder d x1 a0 h1) fun _ h2 => ?_
  exact gk_aret (pc := 8) rfl d_SB_toString_8 rfl (Or.inl ⟨_, rfl⟩)
theorem p_SB_toString (d : Nat) (a0 : Option Nat) (h : gk_H) : ∀ r h1, f_SB_toString a0 h = some (r, h1) → gk_M (d + 5) y_SB_toString b_SB_toString 1 (some (.object "java/lang/String")) [va_rf a0] h (.inl (gv_R r)) h1 :=
  fun r h1 e => gk_M_of2 (by decide +kernel) (by simp [lv_args, gk_cat_rf, gk_catI, gk_catJ, gk_catD, gv_V, gv_I, gv_J, gv_D, gv_R]) (by simp [lg_sl, gk_cat_rf, gk_catI, gk_catJ, gk_catD, gv_V, gv_I, gv_J, gv_D, gv_R]) (w_SB_toString d a0 h r h1 e)
theorem d_St_coder_0 : decode b_St_coder 0 = .ok (.getstatic 38, 3) := by decide +kernel
theorem d_St_coder_3 : decode b_St_coder 3 = .ok (.ifCond .eq 10, 3) := by decide +kernel
theorem d_St_coder_6 : decode b_St_coder 6 = .ok (.aload_n 0, 1) := by decide +kernel
theorem d_St_coder_7 : decode b_St_coder 7 = .ok (.getfield 15, 3) := by decide +kernel
theorem d_St_coder_10 : decode b_St_coder 10 = .ok (.goto 4, 3) := by decide +kernel
theorem d_St_coder_13 : decode b_St_coder 13 = .ok (.iconst 1, 1) := by decide +kernel
theorem d_St_coder_14 : decode b_St_coder 14 = .ok (.ireturn, 1) := by decide +kernel
theorem p_St_coder_b14 (d : Nat)  (s0 : Int32) (h : gk_H) : gk_P gw_I d y_St_coder b_St_coder 1 (some .byte) [] (f_St_coder_b14  s0 h) 14 [] [.int s0] h := by
  unfold f_St_coder_b14
  exact gk_zret (pc := 14) rfl d_St_coder_14 rfl
theorem w_St_coder (d : Nat) (a0 : Option Nat) (h : gk_H) : gk_P gw_I d y_St_coder b_St_coder 1 (some .byte) [] (f_St_coder a0 h) 0 [(0, va_rf a0)] [] h := by
  unfold f_St_coder
  refine gk_gsI (pc := 0) 0 d_St_coder_0 rfl tw_620 fun x1 => ?_
  refine gk_if_eq (pc := 3) 13 d_St_coder_3 rfl (fun _ => ?_) (fun _ => ?_)
  · refine gk_iconst (pc := 13) (1 : Int32) d_St_coder_13 rfl ?_
    refine gk_weak [] (L' := []) rfl ?_
    exact p_St_coder_b14 d (1 : Int32) h
  · refine gk_aload_n (pc := 6) 0 d_St_coder_6 rfl ?_
    refine gk_getI (pc := 7) 0 1 d_St_coder_7 rfl (Nat.le_of_ble_eq_true rfl) tw_652 fun x2 => ?_
    refine gk_goto (pc := 10) 14 d_St_coder_10 rfl ?_
    refine gk_weak [] (L' := []) rfl ?_
    exact p_St_coder_b14 d x2 h
theorem p_St_coder (d : Nat) (a0 : Option Nat) (h : gk_H) : ∀ r h1, f_St_coder a0 h = some (r, h1) → gk_M d y_St_coder b_St_coder 1 (some .byte) [va_rf a0] h (.inl (gv_I r)) h1 :=
  fun r h1 e => gk_M_of2 (by decide +kernel) (by simp [lv_args, gk_cat_rf, gk_catI, gk_catJ, gk_catD, gv_V, gv_I, gv_J, gv_D, gv_R]) (by simp [lg_sl, gk_cat_rf, gk_catI, gk_catJ, gk_catD, gv_V, gv_I, gv_J, gv_D, gv_R]) (w_St_coder d a0 h r h1 e)
theorem d_St_length_0 : decode b_St_length 0 = .ok (.aload_n 0, 1) := by decide +kernel
theorem d_St_length_1 : decode b_St_length 1 = .ok (.getfield 9, 3) := by decide +kernel
theorem d_St_length_4 : decode b_St_length 4 = .ok (.arraylength, 1) := by decide +kernel
theorem d_St_length_5 : decode b_St_length 5 = .ok (.aload_n 0, 1) := by decide +kernel
theorem d_St_length_6 : decode b_St_length 6 = .ok (.invokevirtual 335, 3) := by decide +kernel
theorem d_St_length_9 : decode b_St_length 9 = .ok (.ishr, 1) := by decide +kernel
theorem d_St_length_10 : decode b_St_length 10 = .ok (.ireturn, 1) := by decide +kernel
theorem w_St_length (d : Nat) (a0 : Option Nat) (h : gk_H) : gk_P gw_I (d + 1) y_St_length b_St_length 1 (some .int) [] (f_St_length a0 h) 0 [(0, va_rf a0)] [] h := by
  unfold f_St_length
  refine gk_aload_n (pc := 0) 0 d_St_length_0 rfl ?_
  refine gk_getR (pc := 1) 0 0 d_St_length_1 rfl (Nat.le_of_ble_eq_true rfl) tw_651 fun x1 => ?_
  refine gk_alen (pc := 4) d_St_length_4 fun x2 => ?_
  refine gk_aload_n (pc := 5) 0 d_St_length_5 rfl ?_
  refine gk_callV (pc := 6) (d := d) (w' := gv_I) (as := []) (n := 0) 0 d_St_length_6 rfl rfl rfl rfl (Nat.le_of_ble_eq_true rfl) tw_616 tw_617 tw_618 tw_94 cw_St_coder hy_St_coder (Nat.le_of_ble_eq_true rfl) (p_St_coder d a0 h) fun x3 h1 => ?_
  refine gk_ishr (pc := 9) d_St_length_9 ?_
  exact gk_iret (pc := 10) rfl d_St_length_10 rfl
theorem p_St_length (d : Nat) (a0 : Option Nat) (h : gk_H) : ∀ r h1, f_St_length a0 h = some (r, h1) → gk_M (d + 1) y_St_length b_St_length 1 (some .int) [va_rf a0] h (.inl (gv_I r)) h1 :=
  fun r h1 e => gk_M_of2 (by decide +kernel) (by simp [lv_args, gk_cat_rf, gk_catI, gk_catJ, gk_catD, gv_V, gv_I, gv_J, gv_D, gv_R]) (by simp [lg_sl, gk_cat_rf, gk_catI, gk_catJ, gk_catD, gv_V, gv_I, gv_J, gv_D, gv_R]) (w_St_length d a0 h r h1 e)
theorem d_Ya_rangeCheck_0 : decode b_Ya_rangeCheck 0 = .ok (.iload_n 1, 1) := by decide +kernel
theorem d_Ya_rangeCheck_1 : decode b_Ya_rangeCheck 1 = .ok (.iload_n 2, 1) := by decide +kernel
theorem d_Ya_rangeCheck_2 : decode b_Ya_rangeCheck 2 = .ok (.if_icmp .le 44, 3) := by decide +kernel
theorem d_Ya_rangeCheck_46 : decode b_Ya_rangeCheck 46 = .ok (.iload_n 1, 1) := by decide +kernel
theorem d_Ya_rangeCheck_47 : decode b_Ya_rangeCheck 47 = .ok (.ifCond .ge 12, 3) := by decide +kernel
theorem d_Ya_rangeCheck_59 : decode b_Ya_rangeCheck 59 = .ok (.iload_n 2, 1) := by decide +kernel
theorem d_Ya_rangeCheck_60 : decode b_Ya_rangeCheck 60 = .ok (.iload_n 0, 1) := by decide +kernel
theorem d_Ya_rangeCheck_61 : decode b_Ya_rangeCheck 61 = .ok (.if_icmp .le 12, 3) := by decide +kernel
theorem d_Ya_rangeCheck_73 : decode b_Ya_rangeCheck 73 = .ok (.return_, 1) := by decide +kernel
theorem w_Ya_rangeCheck (d : Nat) (a0 : Int32) (a1 : Int32) (a2 : Int32) (h : gk_H) : gk_P gw_V d y_Ya_rangeCheck b_Ya_rangeCheck 3 none [] (f_Ya_rangeCheck a0 a1 a2 h) 0 [(0, .int a0), (1, .int a1), (2, .int a2)] [] h := by
  unfold f_Ya_rangeCheck
  refine gk_iload_n (pc := 0) 1 d_Ya_rangeCheck_0 rfl ?_
  refine gk_iload_n (pc := 1) 2 d_Ya_rangeCheck_1 rfl ?_
  refine gk_icmp_le (pc := 2) 46 d_Ya_rangeCheck_2 rfl (fun _ => ?_) (fun _ => ?_)
  · refine gk_iload_n (pc := 46) 1 d_Ya_rangeCheck_46 rfl ?_
    refine gk_if_ge (pc := 47) 59 d_Ya_rangeCheck_47 rfl (fun _ => ?_) (fun _ => ?_)
    · refine gk_iload_n (pc := 59) 2 d_Ya_rangeCheck_59 rfl ?_
      refine gk_iload_n (pc := 60) 0 d_Ya_rangeCheck_60 rfl ?_
      refine gk_icmp_le (pc := 61) 73 d_Ya_rangeCheck_61 rfl (fun _ => ?_) (fun _ => ?_)
      · exact gk_vret (pc := 73) rfl d_Ya_rangeCheck_73 rfl
      · exact gk_none
    · exact gk_none
  · exact gk_none
theorem p_Ya_rangeCheck (d : Nat) (a0 : Int32) (a1 : Int32) (a2 : Int32) (h : gk_H) : ∀ r h1, f_Ya_rangeCheck a0 a1 a2 h = some (r, h1) → gk_M d y_Ya_rangeCheck b_Ya_rangeCheck 3 none [.int a0, .int a1, .int a2] h (.inl (gv_V r)) h1 :=
  fun r h1 e => gk_M_of2 (by decide +kernel) (by simp [lv_args, gk_cat_rf, gk_catI, gk_catJ, gk_catD, gv_V, gv_I, gv_J, gv_D, gv_R]) (by simp [lg_sl, gk_cat_rf, gk_catI, gk_catJ, gk_catD, gv_V, gv_I, gv_J, gv_D, gv_R]) (w_Ya_rangeCheck d a0 a1 a2 h r h1 e)
theorem d_Ya_fill_0 : decode b_Ya_fill 0 = .ok (.aload_n 0, 1) := by decide +kernel
theorem d_Ya_fill_1 : decode b_Ya_fill 1 = .ok (.arraylength, 1) := by decide +kernel
theorem d_Ya_fill_2 : decode b_Ya_fill 2 = .ok (.iload_n 1, 1) := by decide +kernel
theorem d_Ya_fill_3 : decode b_Ya_fill 3 = .ok (.iload_n 2, 1) := by decide +kernel
theorem d_Ya_fill_4 : decode b_Ya_fill 4 = .ok (.invokestatic 13, 3) := by decide +kernel
theorem d_Ya_fill_7 : decode b_Ya_fill 7 = .ok (.iload_n 1, 1) := by decide +kernel
theorem d_Ya_fill_8 : decode b_Ya_fill 8 = .ok (.istore 4, 2) := by decide +kernel
theorem d_Ya_fill_10 : decode b_Ya_fill 10 = .ok (.iload 4, 2) := by decide +kernel
theorem d_Ya_fill_12 : decode b_Ya_fill 12 = .ok (.iload_n 2, 1) := by decide +kernel
theorem d_Ya_fill_13 : decode b_Ya_fill 13 = .ok (.if_icmp .ge 14, 3) := by decide +kernel
theorem d_Ya_fill_16 : decode b_Ya_fill 16 = .ok (.aload_n 0, 1) := by decide +kernel
theorem d_Ya_fill_17 : decode b_Ya_fill 17 = .ok (.iload 4, 2) := by decide +kernel
theorem d_Ya_fill_19 : decode b_Ya_fill 19 = .ok (.iload_n 3, 1) := by decide +kernel
theorem d_Ya_fill_20 : decode b_Ya_fill 20 = .ok (.bastore, 1) := by decide +kernel
theorem d_Ya_fill_21 : decode b_Ya_fill 21 = .ok (.iinc 4 1, 3) := by decide +kernel
theorem d_Ya_fill_24 : decode b_Ya_fill 24 = .ok (.goto (-14), 3) := by decide +kernel
theorem d_Ya_fill_27 : decode b_Ya_fill 27 = .ok (.return_, 1) := by decide +kernel
theorem p_Ya_fill_b10 (d : Nat)  : ∀ (fu : Nat) (v0 : Option Nat) (v2 : Int32) (v3 : Int32) (v4 : Int32) (h : gk_H), gk_P gw_V (d + 1) y_Ya_fill b_Ya_fill 5 none [] (f_Ya_fill_b10  fu v0 v2 v3 v4 h) 10 [(0, va_rf v0), (2, .int v2), (3, .int v3), (4, .int v4)] [] h := by
  intro fu
  induction fu with
  | zero => intros; exact gk_none
  | succ fu q10 =>
    intro v0 v2 v3 v4 h
    rw [f_Ya_fill_b10]
    refine gk_iload (pc := 10) 3 d_Ya_fill_10 rfl ?_
    refine gk_iload_n (pc := 12) 1 d_Ya_fill_12 rfl ?_
    refine gk_icmp_ge (pc := 13) 27 d_Ya_fill_13 rfl (fun _ => ?_) (fun _ => ?_)
    · exact gk_vret (pc := 27) rfl d_Ya_fill_27 rfl
    · refine gk_aload_n (pc := 16) 0 d_Ya_fill_16 rfl ?_
      refine gk_iload (pc := 17) 3 d_Ya_fill_17 rfl ?_
      refine gk_iload_n (pc := 19) 2 d_Ya_fill_19 rfl ?_
      refine gk_bast (pc := 20) d_Ya_fill_20 fun h1 => ?_
      refine gk_iincN (pc := 21) 3 (1 : Int32) (L' := fun x1 => [(4, .int x1), (0, va_rf v0), (2, .int v2), (3, .int v3)]) d_Ya_fill_21 rfl rfl (Nat.le_of_ble_eq_true rfl) (fun _ => rfl) fun x1 => ?_
      refine gk_goto (pc := 24) 10 d_Ya_fill_24 rfl ?_
      refine gk_weak [1, 2, 3, 0] (L' := [(0, va_rf v0), (2, .int v2), (3, .int v3), (4, .int x1)]) rfl ?_
      exact q10 v0 v2 v3 x1 h1
theorem w_Ya_fill (d : Nat) (a0 : Option Nat) (a1 : Int32) (a2 : Int32) (a3 : Int32) (h : gk_H) : gk_P gw_V (d + 1) y_Ya_fill b_Ya_fill 5 none [] (f_Ya_fill a0 a1 a2 a3 h) 0 [(0, va_rf a0), (1, .int a1), (2, .int a2), (3, .int a3)] [] h := by
  unfold f_Ya_fill
  refine gk_aload_n (pc := 0) 0 d_Ya_fill_0 rfl ?_
  refine gk_alen (pc := 1) d_Ya_fill_1 fun x1 => ?_
  refine gk_iload_n (pc := 2) 1 d_Ya_fill_2 rfl ?_
  refine gk_iload_n (pc := 3) 2 d_Ya_fill_3 rfl ?_
  refine gk_callS (pc := 4) (d := d) (w' := gv_V) (as := [.int x1, .int a1, .int a2]) (n := 3) d_Ya_fill_4 rfl rfl (Nat.le_of_ble_eq_true rfl) tw_701 tw_702 tw_107 cw_Ya_rangeCheck hy_Ya_rangeCheck (Nat.le_of_ble_eq_true rfl) (p_Ya_rangeCheck d x1 a1 a2 h) fun _ h1 => ?_
  refine gk_iload_n (pc := 7) 1 d_Ya_fill_7 rfl ?_
  refine gk_istore (pc := 8) (L' := [(4, .int a1), (0, va_rf a0), (1, .int a1), (2, .int a2), (3, .int a3)]) d_Ya_fill_8 (Nat.le_of_ble_eq_true rfl) rfl ?_
  refine gk_weak [1, 3, 4, 0] (L' := [(0, va_rf a0), (2, .int a2), (3, .int a3), (4, .int a1)]) rfl ?_
  exact p_Ya_fill_b10 d gk_F a0 a2 a3 a1 h1
theorem p_Ya_fill (d : Nat) (a0 : Option Nat) (a1 : Int32) (a2 : Int32) (a3 : Int32) (h : gk_H) : ∀ r h1, f_Ya_fill a0 a1 a2 a3 h = some (r, h1) → gk_M (d + 1) y_Ya_fill b_Ya_fill 5 none [va_rf a0, .int a1, .int a2, .int a3] h (.inl (gv_V r)) h1 :=
  fun r h1 e => gk_M_of2 (by decide +kernel) (by simp [lv_args, gk_cat_rf, gk_catI, gk_catJ, gk_catD, gv_V, gv_I, gv_J, gv_D, gv_R]) (by simp [lg_sl, gk_cat_rf, gk_catI, gk_catJ, gk_catD, gv_V, gv_I, gv_J, gv_D, gv_R]) (w_Ya_fill d a0 a1 a2 a3 h r h1 e)
theorem d_S1_fillNull_0 : decode b_S1_fillNull 0 = .ok (.aload_n 0, 1) := by decide +kernel
theorem d_S1_fillNull_1 : decode b_S1_fillNull 1 = .ok (.iload_n 1, 1) := by decide +kernel
theorem d_S1_fillNull_2 : decode b_S1_fillNull 2 = .ok (.iload_n 2, 1) := by decide +kernel
theorem d_S1_fillNull_3 : decode b_S1_fillNull 3 = .ok (.iconst 0, 1) := by decide +kernel
theorem d_S1_fillNull_4 : decode b_S1_fillNull 4 = .ok (.invokestatic 236, 3) := by decide +kernel
theorem d_S1_fillNull_7 : decode b_S1_fillNull 7 = .ok (.return_, 1) := by decide +kernel
theorem w_S1_fillNull (d : Nat) (a0 : Option Nat) (a1 : Int32) (a2 : Int32) (h : gk_H) : gk_P gw_V (d + 2) y_S1_fillNull b_S1_fillNull 3 none [] (f_S1_fillNull a0 a1 a2 h) 0 [(0, va_rf a0), (1, .int a1), (2, .int a2)] [] h := by
  unfold f_S1_fillNull
  refine gk_aload_n (pc := 0) 0 d_S1_fillNull_0 rfl ?_
  refine gk_iload_n (pc := 1) 1 d_S1_fillNull_1 rfl ?_
  refine gk_iload_n (pc := 2) 2 d_S1_fillNull_2 rfl ?_
  refine gk_iconst (pc := 3) (0 : Int32) d_S1_fillNull_3 rfl ?_
  refine gk_callS (pc := 4) (d := (d + 1)) (w' := gv_V) (as := [va_rf a0, .int a1, .int a2, .int (0 : Int32)]) (n := 4) d_S1_fillNull_4 rfl rfl (Nat.le_of_ble_eq_true rfl) tw_698 tw_699 tw_107 cw_Ya_fill hy_Ya_fill (Nat.le_of_ble_eq_true rfl) (p_Ya_fill d a0 a1 a2 (0 : Int32) h) fun _ h1 => ?_
  exact gk_vret (pc := 7) rfl d_S1_fillNull_7 rfl
theorem p_S1_fillNull (d : Nat) (a0 : Option Nat) (a1 : Int32) (a2 : Int32) (h : gk_H) : ∀ r h1, f_S1_fillNull a0 a1 a2 h = some (r, h1) → gk_M (d + 2) y_S1_fillNull b_S1_fillNull 3 none [va_rf a0, .int a1, .int a2] h (.inl (gv_V r)) h1 :=
  fun r h1 e => gk_M_of2 (by decide +kernel) (by simp [lv_args, gk_cat_rf, gk_catI, gk_catJ, gk_catD, gv_V, gv_I, gv_J, gv_D, gv_R]) (by simp [lg_sl, gk_cat_rf, gk_catI, gk_catJ, gk_catD, gv_V, gv_I, gv_J, gv_D, gv_R]) (w_S1_fillNull d a0 a1 a2 h r h1 e)
theorem d_AB_setLength_0 : decode b_AB_setLength 0 = .ok (.iload_n 1, 1) := by decide +kernel
theorem d_AB_setLength_1 : decode b_AB_setLength 1 = .ok (.ifCond .ge 12, 3) := by decide +kernel
theorem d_AB_setLength_13 : decode b_AB_setLength 13 = .ok (.aload_n 0, 1) := by decide +kernel
theorem d_AB_setLength_14 : decode b_AB_setLength 14 = .ok (.iload_n 1, 1) := by decide +kernel
theorem d_AB_setLength_15 : decode b_AB_setLength 15 = .ok (.invokevirtual 100, 3) := by decide +kernel
theorem d_AB_setLength_18 : decode b_AB_setLength 18 = .ok (.aload_n 0, 1) := by decide +kernel
theorem d_AB_setLength_19 : decode b_AB_setLength 19 = .ok (.getfield 79, 3) := by decide +kernel
theorem d_AB_setLength_22 : decode b_AB_setLength 22 = .ok (.iload_n 1, 1) := by decide +kernel
theorem d_AB_setLength_23 : decode b_AB_setLength 23 = .ok (.if_icmp .ge 40, 3) := by decide +kernel
theorem d_AB_setLength_26 : decode b_AB_setLength 26 = .ok (.aload_n 0, 1) := by decide +kernel
theorem d_AB_setLength_27 : decode b_AB_setLength 27 = .ok (.invokevirtual 83, 3) := by decide +kernel
theorem d_AB_setLength_30 : decode b_AB_setLength 30 = .ok (.ifCond .eq 18, 3) := by decide +kernel
theorem d_AB_setLength_33 : decode b_AB_setLength 33 = .ok (.aload_n 0, 1) := by decide +kernel
theorem d_AB_setLength_34 : decode b_AB_setLength 34 = .ok (.getfield 15, 3) := by decide +kernel
theorem d_AB_setLength_37 : decode b_AB_setLength 37 = .ok (.aload_n 0, 1) := by decide +kernel
theorem d_AB_setLength_38 : decode b_AB_setLength 38 = .ok (.getfield 79, 3) := by decide +kernel
theorem d_AB_setLength_41 : decode b_AB_setLength 41 = .ok (.iload_n 1, 1) := by decide +kernel
theorem d_AB_setLength_42 : decode b_AB_setLength 42 = .ok (.invokestatic 133, 3) := by decide +kernel
theorem d_AB_setLength_45 : decode b_AB_setLength 45 = .ok (.goto 31, 3) := by decide +kernel
theorem d_AB_setLength_63 : decode b_AB_setLength 63 = .ok (.aload_n 0, 1) := by decide +kernel
theorem d_AB_setLength_64 : decode b_AB_setLength 64 = .ok (.getfield 79, 3) := by decide +kernel
theorem d_AB_setLength_67 : decode b_AB_setLength 67 = .ok (.iload_n 1, 1) := by decide +kernel
theorem d_AB_setLength_68 : decode b_AB_setLength 68 = .ok (.if_icmp .le 8, 3) := by decide +kernel
theorem d_AB_setLength_71 : decode b_AB_setLength 71 = .ok (.aload_n 0, 1) := by decide +kernel
theorem d_AB_setLength_72 : decode b_AB_setLength 72 = .ok (.iconst 1, 1) := by decide +kernel
theorem d_AB_setLength_73 : decode b_AB_setLength 73 = .ok (.putfield 73, 3) := by decide +kernel
theorem d_AB_setLength_76 : decode b_AB_setLength 76 = .ok (.aload_n 0, 1) := by decide +kernel
theorem d_AB_setLength_77 : decode b_AB_setLength 77 = .ok (.iload_n 1, 1) := by decide +kernel
theorem d_AB_setLength_78 : decode b_AB_setLength 78 = .ok (.putfield 79, 3) := by decide +kernel
theorem d_AB_setLength_81 : decode b_AB_setLength 81 = .ok (.return_, 1) := by decide +kernel
theorem p_AB_setLength_b76 (d : Nat)  (v0 : Option Nat) (v1 : Int32) (h : gk_H) : gk_P gw_V (d + 4) y_AB_setLength b_AB_setLength 2 none [] (f_AB_setLength_b76  v0 v1 h) 76 [(0, va_rf v0), (1, .int v1)] [] h := by
  unfold f_AB_setLength_b76
  refine gk_aload_n (pc := 76) 0 d_AB_setLength_76 rfl ?_
  refine gk_iload_n (pc := 77) 1 d_AB_setLength_77 rfl ?_
  refine gk_putfield (pc := 78) 1 3 d_AB_setLength_78 rfl (Nat.le_of_ble_eq_true rfl) tw_157 (Or.inl rfl) fun h1 => ?_
  exact gk_vret (pc := 81) rfl d_AB_setLength_81 rfl
theorem w_AB_setLength (d : Nat) (a0 : Option Nat) (a1 : Int32) (h : gk_H) : gk_P gw_V (d + 4) y_AB_setLength b_AB_setLength 2 none [] (f_AB_setLength a0 a1 h) 0 [(0, va_rf a0), (1, .int a1)] [] h := by
  unfold f_AB_setLength
  refine gk_iload_n (pc := 0) 1 d_AB_setLength_0 rfl ?_
  refine gk_if_ge (pc := 1) 13 d_AB_setLength_1 rfl (fun _ => ?_) (fun _ => ?_)
  · refine gk_aload_n (pc := 13) 0 d_AB_setLength_13 rfl ?_
    refine gk_iload_n (pc := 14) 1 d_AB_setLength_14 rfl ?_
    refine gk_callU (pc := 15) (d := (d + 3)) (w' := gv_V) (as := [.int a1]) (n := 1) 1 d_AB_setLength_15 rfl rfl rfl (Nat.le_of_ble_eq_true rfl) tw_436 tw_2184 tw_438 tw_0 tw_92 cw_AB_ensureCapacityInternal hy_AB_ensureCapacityInternal (Nat.le_of_ble_eq_true rfl) (p_AB_ensureCapacityInternal d a0 a1 h) fun _ h1 => ?_
    refine gk_aload_n (pc := 18) 0 d_AB_setLength_18 rfl ?_
    refine gk_getI (pc := 19) 1 3 d_AB_setLength_19 rfl (Nat.le_of_ble_eq_true rfl) tw_157 fun x1 => ?_
    refine gk_iload_n (pc := 22) 1 d_AB_setLength_22 rfl ?_
    refine gk_icmp_ge (pc := 23) 63 d_AB_setLength_23 rfl (fun _ => ?_) (fun _ => ?_)
    · refine gk_aload_n (pc := 63) 0 d_AB_setLength_63 rfl ?_
      refine gk_getI (pc := 64) 1 3 d_AB_setLength_64 rfl (Nat.le_of_ble_eq_true rfl) tw_157 fun x2 => ?_
      refine gk_iload_n (pc := 67) 1 d_AB_setLength_67 rfl ?_
      refine gk_icmp_le (pc := 68) 76 d_AB_setLength_68 rfl (fun _ => ?_) (fun _ => ?_)
      · exact p_AB_setLength_b76 d a0 a1 h1
      · refine gk_aload_n (pc := 71) 0 d_AB_setLength_71 rfl ?_
        refine gk_iconst (pc := 72) (1 : Int32) d_AB_setLength_72 rfl ?_
        refine gk_putfield (pc := 73) 1 2 d_AB_setLength_73 rfl (Nat.le_of_ble_eq_true rfl) tw_155 (Or.inl rfl) fun h2 => ?_
        exact p_AB_setLength_b76 d a0 a1 h2
    · refine gk_aload_n (pc := 26) 0 d_AB_setLength_26 rfl ?_
      refine gk_callU (pc := 27) (d := (d + 3)) (w' := gv_I) (as := []) (n := 0) 1 d_AB_setLength_27 rfl rfl rfl (Nat.le_of_ble_eq_true rfl) tw_471 tw_473 tw_472 tw_474 tw_92 cw_AB_isLatin1 hy_AB_isLatin1 (Nat.le_of_ble_eq_true rfl) (p_AB_isLatin1 (d + 3) a0 h1) fun x3 h3 => ?_
      refine gk_if_eq (pc := 30) 48 d_AB_setLength_30 rfl (fun _ => ?_) (fun _ => ?_)
      · exact gk_none
      · refine gk_aload_n (pc := 33) 0 d_AB_setLength_33 rfl ?_
        refine gk_getR (pc := 34) 1 0 d_AB_setLength_34 rfl (Nat.le_of_ble_eq_true rfl) tw_153 fun x4 => ?_
        refine gk_aload_n (pc := 37) 0 d_AB_setLength_37 rfl ?_
        refine gk_getI (pc := 38) 1 3 d_AB_setLength_38 rfl (Nat.le_of_ble_eq_true rfl) tw_157 fun x5 => ?_
        refine gk_iload_n (pc := 41) 1 d_AB_setLength_41 rfl ?_
        refine gk_callS (pc := 42) (d := (d + 3)) (w' := gv_V) (as := [va_rf x4, .int x5, .int a1]) (n := 3) d_AB_setLength_42 rfl rfl (Nat.le_of_ble_eq_true rfl) tw_695 tw_696 tw_109 cw_S1_fillNull hy_S1_fillNull (Nat.le_of_ble_eq_true rfl) (p_S1_fillNull (d + 1) x4 x5 a1 h3) fun _ h4 => ?_
        refine gk_goto (pc := 45) 76 d_AB_setLength_45 rfl ?_
        exact p_AB_setLength_b76 d a0 a1 h4
  · exact gk_none
theorem p_AB_setLength (d : Nat) (a0 : Option Nat) (a1 : Int32) (h : gk_H) : ∀ r h1, f_AB_setLength a0 a1 h = some (r, h1) → gk_M (d + 4) y_AB_setLength b_AB_setLength 2 none [va_rf a0, .int a1] h (.inl (gv_V r)) h1 :=
  fun r h1 e => gk_M_of2 (by decide +kernel) (by simp [lv_args, gk_cat_rf, gk_catI, gk_catJ, gk_catD, gv_V, gv_I, gv_J, gv_D, gv_R]) (by simp [lg_sl, gk_cat_rf, gk_catI, gk_catJ, gk_catD, gv_V, gv_I, gv_J, gv_D, gv_R]) (w_AB_setLength d a0 a1 h r h1 e)
theorem d_SB_setLength_0 : decode b_SB_setLength 0 = .ok (.aload_n 0, 1) := by decide +kernel
theorem d_SB_setLength_1 : decode b_SB_setLength 1 = .ok (.iload_n 1, 1) := by decide +kernel
theorem d_SB_setLength_2 : decode b_SB_setLength 2 = .ok (.invokespecial 333, 3) := by decide +kernel
theorem d_SB_setLength_5 : decode b_SB_setLength 5 = .ok (.return_, 1) := by decide +kernel
theorem w_SB_setLength (d : Nat) (a0 : Option Nat) (a1 : Int32) (h : gk_H) : gk_P gw_V (d + 5) y_SB_setLength b_SB_setLength 2 none [] (f_SB_setLength a0 a1 h) 0 [(0, va_rf a0), (1, .int a1)] [] h := by
  unfold f_SB_setLength
  refine gk_aload_n (pc := 0) 0 d_SB_setLength_0 rfl ?_
  refine gk_iload_n (pc := 1) 1 d_SB_setLength_1 rfl ?_
  refine gk_callSU (pc := 2) (d := (d + 4)) (w' := gv_V) (as := [.int a1]) (n := 1) 1 d_SB_setLength_2 rfl rfl rfl (Nat.le_of_ble_eq_true rfl) tw_670 tw_2193 tw_166 tw_671 tw_92 cw_AB_setLength hs_AB_setLength (Nat.le_of_ble_eq_true rfl) (p_AB_setLength d a0 a1 h) fun _ h1 => ?_
  exact gk_vret (pc := 5) rfl d_SB_setLength_5 rfl
theorem p_SB_setLength (d : Nat) (a0 : Option Nat) (a1 : Int32) (h : gk_H) : ∀ r h1, f_SB_setLength a0 a1 h = some (r, h1) → gk_M (d + 5) y_SB_setLength b_SB_setLength 2 none [va_rf a0, .int a1] h (.inl (gv_V r)) h1 :=
  fun r h1 e => gk_M_of2 (by decide +kernel) (by simp [lv_args, gk_cat_rf, gk_catI, gk_catJ, gk_catD, gv_V, gv_I, gv_J, gv_D, gv_R]) (by simp [lg_sl, gk_cat_rf, gk_catI, gk_catJ, gk_catD, gv_V, gv_I, gv_J, gv_D, gv_R]) (w_SB_setLength d a0 a1 h r h1 e)
theorem d_St_isLatin1_0 : decode b_St_isLatin1 0 = .ok (.getstatic 38, 3) := by decide +kernel
theorem d_St_isLatin1_3 : decode b_St_isLatin1 3 = .ok (.ifCond .eq 14, 3) := by decide +kernel
theorem d_St_isLatin1_6 : decode b_St_isLatin1 6 = .ok (.aload_n 0, 1) := by decide +kernel
theorem d_St_isLatin1_7 : decode b_St_isLatin1 7 = .ok (.getfield 15, 3) := by decide +kernel
theorem d_St_isLatin1_10 : decode b_St_isLatin1 10 = .ok (.ifCond .ne 7, 3) := by decide +kernel
theorem d_St_isLatin1_13 : decode b_St_isLatin1 13 = .ok (.iconst 1, 1) := by decide +kernel
theorem d_St_isLatin1_14 : decode b_St_isLatin1 14 = .ok (.goto 4, 3) := by decide +kernel
theorem d_St_isLatin1_17 : decode b_St_isLatin1 17 = .ok (.iconst 0, 1) := by decide +kernel
theorem d_St_isLatin1_18 : decode b_St_isLatin1 18 = .ok (.ireturn, 1) := by decide +kernel
theorem p_St_isLatin1_b18 (d : Nat)  (s0 : Int32) (h : gk_H) : gk_P gw_I d y_St_isLatin1 b_St_isLatin1 1 (some .boolean) [] (f_St_isLatin1_b18  s0 h) 18 [] [.int s0] h := by
  unfold f_St_isLatin1_b18
  exact gk_zret (pc := 18) rfl d_St_isLatin1_18 rfl
theorem p_St_isLatin1_b17 (d : Nat)   (h : gk_H) : gk_P gw_I d y_St_isLatin1 b_St_isLatin1 1 (some .boolean) [] (f_St_isLatin1_b17   h) 17 [] [] h := by
  unfold f_St_isLatin1_b17
  refine gk_iconst (pc := 17) (0 : Int32) d_St_isLatin1_17 rfl ?_
  exact p_St_isLatin1_b18 d (0 : Int32) h
theorem w_St_isLatin1 (d : Nat) (a0 : Option Nat) (h : gk_H) : gk_P gw_I d y_St_isLatin1 b_St_isLatin1 1 (some .boolean) [] (f_St_isLatin1 a0 h) 0 [(0, va_rf a0)] [] h := by
  unfold f_St_isLatin1
  refine gk_gsI (pc := 0) 0 d_St_isLatin1_0 rfl tw_620 fun x1 => ?_
  refine gk_if_eq (pc := 3) 17 d_St_isLatin1_3 rfl (fun _ => ?_) (fun _ => ?_)
  · refine gk_weak [] (L' := []) rfl ?_
    exact p_St_isLatin1_b17 d h
  · refine gk_aload_n (pc := 6) 0 d_St_isLatin1_6 rfl ?_
    refine gk_getI (pc := 7) 0 1 d_St_isLatin1_7 rfl (Nat.le_of_ble_eq_true rfl) tw_652 fun x2 => ?_
    refine gk_if_ne (pc := 10) 17 d_St_isLatin1_10 rfl (fun _ => ?_) (fun _ => ?_)
    · refine gk_iconst (pc := 13) (1 : Int32) d_St_isLatin1_13 rfl ?_
      refine gk_goto (pc := 14) 18 d_St_isLatin1_14 rfl ?_
      refine gk_weak [] (L' := []) rfl ?_
      exact p_St_isLatin1_b18 d (1 : Int32) h
    · refine gk_weak [] (L' := []) rfl ?_
      exact p_St_isLatin1_b17 d h
theorem p_St_isLatin1 (d : Nat) (a0 : Option Nat) (h : gk_H) : ∀ r h1, f_St_isLatin1 a0 h = some (r, h1) → gk_M d y_St_isLatin1 b_St_isLatin1 1 (some .boolean) [va_rf a0] h (.inl (gv_I r)) h1 :=
  fun r h1 e => gk_M_of2 (by decide +kernel) (by simp [lv_args, gk_cat_rf, gk_catI, gk_catJ, gk_catD, gv_V, gv_I, gv_J, gv_D, gv_R]) (by simp [lg_sl, gk_cat_rf, gk_catI, gk_catJ, gk_catD, gv_V, gv_I, gv_J, gv_D, gv_R]) (w_St_isLatin1 d a0 h r h1 e)
theorem d_Pr_checkIndex_0 : decode b_Pr_checkIndex 0 = .ok (.iload_n 0, 1) := by decide +kernel
theorem d_Pr_checkIndex_1 : decode b_Pr_checkIndex 1 = .ok (.ifCond .lt 8, 3) := by decide +kernel
theorem d_Pr_checkIndex_4 : decode b_Pr_checkIndex 4 = .ok (.iload_n 0, 1) := by decide +kernel
theorem d_Pr_checkIndex_5 : decode b_Pr_checkIndex 5 = .ok (.iload_n 1, 1) := by decide +kernel
theorem d_Pr_checkIndex_6 : decode b_Pr_checkIndex 6 = .ok (.if_icmp .lt 10, 3) := by decide +kernel
theorem d_Pr_checkIndex_16 : decode b_Pr_checkIndex 16 = .ok (.iload_n 0, 1) := by decide +kernel
theorem d_Pr_checkIndex_17 : decode b_Pr_checkIndex 17 = .ok (.ireturn, 1) := by decide +kernel
theorem w_Pr_checkIndex (d : Nat) (a0 : Int32) (a1 : Int32) (a2 : Option Nat) (h : gk_H) : gk_P gw_I d y_Pr_checkIndex b_Pr_checkIndex 3 (some .int) [] (f_Pr_checkIndex a0 a1 a2 h) 0 [(0, .int a0), (1, .int a1), (2, va_rf a2)] [] h := by
  unfold f_Pr_checkIndex
  refine gk_iload_n (pc := 0) 0 d_Pr_checkIndex_0 rfl ?_
  refine gk_if_lt (pc := 1) 9 d_Pr_checkIndex_1 rfl (fun _ => ?_) (fun _ => ?_)
  · exact gk_none
  · refine gk_iload_n (pc := 4) 0 d_Pr_checkIndex_4 rfl ?_
    refine gk_iload_n (pc := 5) 1 d_Pr_checkIndex_5 rfl ?_
    refine gk_icmp_lt (pc := 6) 16 d_Pr_checkIndex_6 rfl (fun _ => ?_) (fun _ => ?_)
    · refine gk_iload_n (pc := 16) 0 d_Pr_checkIndex_16 rfl ?_
      exact gk_iret (pc := 17) rfl d_Pr_checkIndex_17 rfl
    · exact gk_none
theorem p_Pr_checkIndex (d : Nat) (a0 : Int32) (a1 : Int32) (a2 : Option Nat) (h : gk_H) : ∀ r h1, f_Pr_checkIndex a0 a1 a2 h = some (r, h1) → gk_M d y_Pr_checkIndex b_Pr_checkIndex 3 (some .int) [.int a0, .int a1, va_rf a2] h (.inl (gv_I r)) h1 :=
  fun r h1 e => gk_M_of2 (by decide +kernel) (by simp [lv_args, gk_cat_rf, gk_catI, gk_catJ, gk_catD, gv_V, gv_I, gv_J, gv_D, gv_R]) (by simp [lg_sl, gk_cat_rf, gk_catI, gk_catJ, gk_catD, gv_V, gv_I, gv_J, gv_D, gv_R]) (w_Pr_checkIndex d a0 a1 a2 h r h1 e)
theorem d_St_checkIndex_0 : decode b_St_checkIndex 0 = .ok (.iload_n 0, 1) := by decide +kernel
theorem d_St_checkIndex_1 : decode b_St_checkIndex 1 = .ok (.iload_n 1, 1) := by decide +kernel
theorem d_St_checkIndex_2 : decode b_St_checkIndex 2 = .ok (.getstatic 1053, 3) := by decide +kernel
theorem d_St_checkIndex_5 : decode b_St_checkIndex 5 = .ok (.invokestatic 1059, 3) := by decide +kernel
theorem d_St_checkIndex_8 : decode b_St_checkIndex 8 = .ok (.pop, 1) := by decide +kernel
theorem d_St_checkIndex_9 : decode b_St_checkIndex 9 = .ok (.return_, 1) := by decide +kernel
theorem w_St_checkIndex (d : Nat) (a0 : Int32) (a1 : Int32) (h : gk_H) : gk_P gw_V (d + 1) y_St_checkIndex b_St_checkIndex 2 none [] (f_St_checkIndex a0 a1 h) 0 [(0, .int a0), (1, .int a1)] [] h := by
  unfold f_St_checkIndex
  refine gk_iload_n (pc := 0) 0 d_St_checkIndex_0 rfl ?_
  refine gk_iload_n (pc := 1) 1 d_St_checkIndex_1 rfl ?_
  refine gk_gsR (pc := 2) 1 d_St_checkIndex_2 rfl tw_498 fun x1 => ?_
  refine gk_callS (pc := 5) (d := d) (w' := gv_I) (as := [.int a0, .int a1, va_rf x1]) (n := 3) d_St_checkIndex_5 rfl rfl (Nat.le_of_ble_eq_true rfl) tw_521 tw_522 tw_110 cw_Pr_checkIndex hy_Pr_checkIndex (Nat.le_of_ble_eq_true rfl) (p_Pr_checkIndex d a0 a1 x1 h) fun x2 h1 => ?_
  refine gk_pop (pc := 8) d_St_checkIndex_8 rfl ?_
  exact gk_vret (pc := 9) rfl d_St_checkIndex_9 rfl
theorem p_St_checkIndex (d : Nat) (a0 : Int32) (a1 : Int32) (h : gk_H) : ∀ r h1, f_St_checkIndex a0 a1 h = some (r, h1) → gk_M (d + 1) y_St_checkIndex b_St_checkIndex 2 none [.int a0, .int a1] h (.inl (gv_V r)) h1 :=
  fun r h1 e => gk_M_of2 (by decide +kernel) (by simp [lv_args, gk_cat_rf, gk_catI, gk_catJ, gk_catD, gv_V, gv_I, gv_J, gv_D, gv_R]) (by simp [lg_sl, gk_cat_rf, gk_catI, gk_catJ, gk_catD, gv_V, gv_I, gv_J, gv_D, gv_R]) (w_St_checkIndex d a0 a1 h r h1 e)
theorem d_S1_charAt_0 : decode b_S1_charAt 0 = .ok (.iload_n 1, 1) := by decide +kernel
theorem d_S1_charAt_1 : decode b_S1_charAt 1 = .ok (.aload_n 0, 1) := by decide +kernel
theorem d_S1_charAt_2 : decode b_S1_charAt 2 = .ok (.arraylength, 1) := by decide +kernel
theorem d_S1_charAt_3 : decode b_S1_charAt 3 = .ok (.invokestatic 9, 3) := by decide +kernel
theorem d_S1_charAt_6 : decode b_S1_charAt 6 = .ok (.aload_n 0, 1) := by decide +kernel
theorem d_S1_charAt_7 : decode b_S1_charAt 7 = .ok (.iload_n 1, 1) := by decide +kernel
theorem d_S1_charAt_8 : decode b_S1_charAt 8 = .ok (.baload, 1) := by decide +kernel
theorem d_S1_charAt_9 : decode b_S1_charAt 9 = .ok (.sipush 255, 3) := by decide +kernel
theorem d_S1_charAt_12 : decode b_S1_charAt 12 = .ok (.iand, 1) := by decide +kernel
theorem d_S1_charAt_13 : decode b_S1_charAt 13 = .ok (.i2c, 1) := by decide +kernel
theorem d_S1_charAt_14 : decode b_S1_charAt 14 = .ok (.ireturn, 1) := by decide +kernel
theorem w_S1_charAt (d : Nat) (a0 : Option Nat) (a1 : Int32) (h : gk_H) : gk_P gw_I (d + 2) y_S1_charAt b_S1_charAt 2 (some .char) [] (f_S1_charAt a0 a1 h) 0 [(0, va_rf a0), (1, .int a1)] [] h := by
  unfold f_S1_charAt
  refine gk_iload_n (pc := 0) 1 d_S1_charAt_0 rfl ?_
  refine gk_aload_n (pc := 1) 0 d_S1_charAt_1 rfl ?_
  refine gk_alen (pc := 2) d_S1_charAt_2 fun x1 => ?_
  refine gk_callS (pc := 3) (d := (d + 1)) (w' := gv_V) (as := [.int a1, .int x1]) (n := 2) d_S1_charAt_3 rfl rfl (Nat.le_of_ble_eq_true rfl) tw_821 tw_519 tw_94 cw_St_checkIndex hy_St_checkIndex (Nat.le_of_ble_eq_true rfl) (p_St_checkIndex d a1 x1 h) fun _ h1 => ?_
  refine gk_aload_n (pc := 6) 0 d_S1_charAt_6 rfl ?_
  refine gk_iload_n (pc := 7) 1 d_S1_charAt_7 rfl ?_
  refine gk_bald (pc := 8) d_S1_charAt_8 fun x2 => ?_
  refine gk_sipush (pc := 9) (255 : Int32) d_S1_charAt_9 rfl ?_
  refine gk_iand (pc := 12) d_S1_charAt_12 ?_
  refine gk_i2c (pc := 13) d_S1_charAt_13 ?_
  exact gk_zret (pc := 14) rfl d_S1_charAt_14 rfl
theorem p_S1_charAt (d : Nat) (a0 : Option Nat) (a1 : Int32) (h : gk_H) : ∀ r h1, f_S1_charAt a0 a1 h = some (r, h1) → gk_M (d + 2) y_S1_charAt b_S1_charAt 2 (some .char) [va_rf a0, .int a1] h (.inl (gv_I r)) h1 :=
  fun r h1 e => gk_M_of2 (by decide +kernel) (by simp [lv_args, gk_cat_rf, gk_catI, gk_catJ, gk_catD, gv_V, gv_I, gv_J, gv_D, gv_R]) (by simp [lg_sl, gk_cat_rf, gk_catI, gk_catJ, gk_catD, gv_V, gv_I, gv_J, gv_D, gv_R]) (w_S1_charAt d a0 a1 h r h1 e)
theorem d_St_charAt_0 : decode b_St_charAt 0 = .ok (.aload_n 0, 1) := by decide +kernel
theorem d_St_charAt_1 : decode b_St_charAt 1 = .ok (.invokevirtual 492, 3) := by decide +kernel
theorem d_St_charAt_4 : decode b_St_charAt 4 = .ok (.ifCond .eq 12, 3) := by decide +kernel
theorem d_St_charAt_7 : decode b_St_charAt 7 = .ok (.aload_n 0, 1) := by decide +kernel
theorem d_St_charAt_8 : decode b_St_charAt 8 = .ok (.getfield 9, 3) := by decide +kernel
theorem d_St_charAt_11 : decode b_St_charAt 11 = .ok (.iload_n 1, 1) := by decide +kernel
theorem d_St_charAt_12 : decode b_St_charAt 12 = .ok (.invokestatic 495, 3) := by decide +kernel
theorem d_St_charAt_15 : decode b_St_charAt 15 = .ok (.ireturn, 1) := by decide +kernel
theorem w_St_charAt (d : Nat) (a0 : Option Nat) (a1 : Int32) (h : gk_H) : gk_P gw_I (d + 3) y_St_charAt b_St_charAt 2 (some .char) [] (f_St_charAt a0 a1 h) 0 [(0, va_rf a0), (1, .int a1)] [] h := by
  unfold f_St_charAt
  refine gk_aload_n (pc := 0) 0 d_St_charAt_0 rfl ?_
  refine gk_callV (pc := 1) (d := (d + 2)) (w' := gv_I) (as := []) (n := 0) 0 d_St_charAt_1 rfl rfl rfl rfl (Nat.le_of_ble_eq_true rfl) tw_814 tw_815 tw_816 tw_94 cw_St_isLatin1 hy_St_isLatin1 (Nat.le_of_ble_eq_true rfl) (p_St_isLatin1 (d + 2) a0 h) fun x1 h1 => ?_
  refine gk_if_eq (pc := 4) 16 d_St_charAt_4 rfl (fun _ => ?_) (fun _ => ?_)
  · exact gk_none
  · refine gk_aload_n (pc := 7) 0 d_St_charAt_7 rfl ?_
    refine gk_getR (pc := 8) 0 0 d_St_charAt_8 rfl (Nat.le_of_ble_eq_true rfl) tw_651 fun x2 => ?_
    refine gk_iload_n (pc := 11) 1 d_St_charAt_11 rfl ?_
    refine gk_callS (pc := 12) (d := (d + 2)) (w' := gv_I) (as := [va_rf x2, .int a1]) (n := 2) d_St_charAt_12 rfl rfl (Nat.le_of_ble_eq_true rfl) tw_818 tw_819 tw_109 cw_S1_charAt hy_S1_charAt (Nat.le_of_ble_eq_true rfl) (p_S1_charAt d x2 a1 h1) fun x3 h2 => ?_
    exact gk_zret (pc := 15) rfl d_St_charAt_15 rfl
theorem p_St_charAt (d : Nat) (a0 : Option Nat) (a1 : Int32) (h : gk_H) : ∀ r h1, f_St_charAt a0 a1 h = some (r, h1) → gk_M (d + 3) y_St_charAt b_St_charAt 2 (some .char) [va_rf a0, .int a1] h (.inl (gv_I r)) h1 :=
  fun r h1 e => gk_M_of2 (by decide +kernel) (by simp [lv_args, gk_cat_rf, gk_catI, gk_catJ, gk_catD, gv_V, gv_I, gv_J, gv_D, gv_R]) (by simp [lg_sl, gk_cat_rf, gk_catI, gk_catJ, gk_catD, gv_V, gv_I, gv_J, gv_D, gv_R]) (w_St_charAt d a0 a1 h r h1 e)
theorem d_S1_canEncode_I_0 : decode b_S1_canEncode_I 0 = .ok (.iload_n 0, 1) := by decide +kernel
theorem d_S1_canEncode_I_1 : decode b_S1_canEncode_I 1 = .ok (.ifCond .lt 14, 3) := by decide +kernel
theorem d_S1_canEncode_I_4 : decode b_S1_canEncode_I 4 = .ok (.iload_n 0, 1) := by decide +kernel
theorem d_S1_canEncode_I_5 : decode b_S1_canEncode_I 5 = .ok (.sipush 255, 3) := by decide +kernel
theorem d_S1_canEncode_I_8 : decode b_S1_canEncode_I 8 = .ok (.if_icmp .gt 7, 3) := by decide +kernel
theorem d_S1_canEncode_I_11 : decode b_S1_canEncode_I 11 = .ok (.iconst 1, 1) := by decide +kernel
theorem d_S1_canEncode_I_12 : decode b_S1_canEncode_I 12 = .ok (.goto 4, 3) := by decide +kernel
theorem d_S1_canEncode_I_15 : decode b_S1_canEncode_I 15 = .ok (.iconst 0, 1) := by decide +kernel
theorem d_S1_canEncode_I_16 : decode b_S1_canEncode_I 16 = .ok (.ireturn, 1) := by decide +kernel
theorem p_S1_canEncode_I_b16 (d : Nat)  (s0 : Int32) (h : gk_H) : gk_P gw_I d y_S1_canEncode_I b_S1_canEncode_I 1 (some .boolean) [] (f_S1_canEncode_I_b16  s0 h) 16 [] [.int s0] h := by
  unfold f_S1_canEncode_I_b16
  exact gk_zret (pc := 16) rfl d_S1_canEncode_I_16 rfl
theorem p_S1_canEncode_I_b15 (d : Nat)   (h : gk_H) : gk_P gw_I d y_S1_canEncode_I b_S1_canEncode_I 1 (some .boolean) [] (f_S1_canEncode_I_b15   h) 15 [] [] h := by
  unfold f_S1_canEncode_I_b15
  refine gk_iconst (pc := 15) (0 : Int32) d_S1_canEncode_I_15 rfl ?_
  exact p_S1_canEncode_I_b16 d (0 : Int32) h
theorem w_S1_canEncode_I (d : Nat) (a0 : Int32) (h : gk_H) : gk_P gw_I d y_S1_canEncode_I b_S1_canEncode_I 1 (some .boolean) [] (f_S1_canEncode_I a0 h) 0 [(0, .int a0)] [] h := by
  unfold f_S1_canEncode_I
  refine gk_iload_n (pc := 0) 0 d_S1_canEncode_I_0 rfl ?_
  refine gk_if_lt (pc := 1) 15 d_S1_canEncode_I_1 rfl (fun _ => ?_) (fun _ => ?_)
  · refine gk_weak [] (L' := []) rfl ?_
    exact p_S1_canEncode_I_b15 d h
  · refine gk_iload_n (pc := 4) 0 d_S1_canEncode_I_4 rfl ?_
    refine gk_sipush (pc := 5) (255 : Int32) d_S1_canEncode_I_5 rfl ?_
    refine gk_icmp_gt (pc := 8) 15 d_S1_canEncode_I_8 rfl (fun _ => ?_) (fun _ => ?_)
    · refine gk_weak [] (L' := []) rfl ?_
      exact p_S1_canEncode_I_b15 d h
    · refine gk_iconst (pc := 11) (1 : Int32) d_S1_canEncode_I_11 rfl ?_
      refine gk_goto (pc := 12) 16 d_S1_canEncode_I_12 rfl ?_
      refine gk_weak [] (L' := []) rfl ?_
      exact p_S1_canEncode_I_b16 d (1 : Int32) h
theorem p_S1_canEncode_I (d : Nat) (a0 : Int32) (h : gk_H) : ∀ r h1, f_S1_canEncode_I a0 h = some (r, h1) → gk_M d y_S1_canEncode_I b_S1_canEncode_I 1 (some .boolean) [.int a0] h (.inl (gv_I r)) h1 :=
  fun r h1 e => gk_M_of2 (by decide +kernel) (by simp [lv_args, gk_cat_rf, gk_catI, gk_catJ, gk_catD, gv_V, gv_I, gv_J, gv_D, gv_R]) (by simp [lg_sl, gk_cat_rf, gk_catI, gk_catJ, gk_catD, gv_V, gv_I, gv_J, gv_D, gv_R]) (w_S1_canEncode_I d a0 h r h1 e)
theorem d_S1_indexOfChar_0 : decode b_S1_indexOfChar 0 = .ok (.iload_n 1, 1) := by decide +kernel
theorem d_S1_indexOfChar_1 : decode b_S1_indexOfChar 1 = .ok (.i2b, 1) := by decide +kernel
theorem d_S1_indexOfChar_2 : decode b_S1_indexOfChar 2 = .ok (.istore 4, 2) := by decide +kernel
theorem d_S1_indexOfChar_4 : decode b_S1_indexOfChar 4 = .ok (.iload_n 2, 1) := by decide +kernel
theorem d_S1_indexOfChar_5 : decode b_S1_indexOfChar 5 = .ok (.istore 5, 2) := by decide +kernel
theorem d_S1_indexOfChar_7 : decode b_S1_indexOfChar 7 = .ok (.iload 5, 2) := by decide +kernel
theorem d_S1_indexOfChar_9 : decode b_S1_indexOfChar 9 = .ok (.iload_n 3, 1) := by decide +kernel
theorem d_S1_indexOfChar_10 : decode b_S1_indexOfChar 10 = .ok (.if_icmp .ge 21, 3) := by decide +kernel
theorem d_S1_indexOfChar_13 : decode b_S1_indexOfChar 13 = .ok (.aload_n 0, 1) := by decide +kernel
theorem d_S1_indexOfChar_14 : decode b_S1_indexOfChar 14 = .ok (.iload 5, 2) := by decide +kernel
theorem d_S1_indexOfChar_16 : decode b_S1_indexOfChar 16 = .ok (.baload, 1) := by decide +kernel
theorem d_S1_indexOfChar_17 : decode b_S1_indexOfChar 17 = .ok (.iload 4, 2) := by decide +kernel
theorem d_S1_indexOfChar_19 : decode b_S1_indexOfChar 19 = .ok (.if_icmp .ne 6, 3) := by decide +kernel
theorem d_S1_indexOfChar_22 : decode b_S1_indexOfChar 22 = .ok (.iload 5, 2) := by decide +kernel
theorem d_S1_indexOfChar_24 : decode b_S1_indexOfChar 24 = .ok (.ireturn, 1) := by decide +kernel
theorem d_S1_indexOfChar_25 : decode b_S1_indexOfChar 25 = .ok (.iinc 5 1, 3) := by decide +kernel
theorem d_S1_indexOfChar_28 : decode b_S1_indexOfChar 28 = .ok (.goto (-21), 3) := by decide +kernel
theorem d_S1_indexOfChar_31 : decode b_S1_indexOfChar 31 = .ok (.iconst (-1), 1) := by decide +kernel
theorem d_S1_indexOfChar_32 : decode b_S1_indexOfChar 32 = .ok (.ireturn, 1) := by decide +kernel
theorem p_S1_indexOfChar_b7 (d : Nat)  : ∀ (fu : Nat) (v0 : Option Nat) (v3 : Int32) (v4 : Int32) (v5 : Int32) (h : gk_H), gk_P gw_I d y_S1_indexOfChar b_S1_indexOfChar 6 (some .int) [] (f_S1_indexOfChar_b7  fu v0 v3 v4 v5 h) 7 [(0, va_rf v0), (3, .int v3), (4, .int v4), (5, .int v5)] [] h := by
  intro fu
  induction fu with
  | zero => intros; exact gk_none
  | succ fu q7 =>
    intro v0 v3 v4 v5 h
    rw [f_S1_indexOfChar_b7]
    refine gk_iload (pc := 7) 3 d_S1_indexOfChar_7 rfl ?_
    refine gk_iload_n (pc := 9) 1 d_S1_indexOfChar_9 rfl ?_
    refine gk_icmp_ge (pc := 10) 31 d_S1_indexOfChar_10 rfl (fun _ => ?_) (fun _ => ?_)
    · refine gk_iconst (pc := 31) (-1 : Int32) d_S1_indexOfChar_31 rfl ?_
      exact gk_iret (pc := 32) rfl d_S1_indexOfChar_32 rfl
    · refine gk_aload_n (pc := 13) 0 d_S1_indexOfChar_13 rfl ?_
      refine gk_iload (pc := 14) 3 d_S1_indexOfChar_14 rfl ?_
      refine gk_bald (pc := 16) d_S1_indexOfChar_16 fun x1 => ?_
      refine gk_iload (pc := 17) 2 d_S1_indexOfChar_17 rfl ?_
      refine gk_icmp_ne (pc := 19) 25 d_S1_indexOfChar_19 rfl (fun _ => ?_) (fun _ => ?_)
      · refine gk_iload (pc := 22) 3 d_S1_indexOfChar_22 rfl ?_
        exact gk_iret (pc := 24) rfl d_S1_indexOfChar_24 rfl
      · refine gk_iincN (pc := 25) 3 (1 : Int32) (L' := fun x2 => [(5, .int x2), (0, va_rf v0), (3, .int v3), (4, .int v4)]) d_S1_indexOfChar_25 rfl rfl (Nat.le_of_ble_eq_true rfl) (fun _ => rfl) fun x2 => ?_
        refine gk_goto (pc := 28) 7 d_S1_indexOfChar_28 rfl ?_
        refine gk_weak [1, 2, 3, 0] (L' := [(0, va_rf v0), (3, .int v3), (4, .int v4), (5, .int x2)]) rfl ?_
        exact q7 v0 v3 v4 x2 h
theorem w_S1_indexOfChar (d : Nat) (a0 : Option Nat) (a1 : Int32) (a2 : Int32) (a3 : Int32) (h : gk_H) : gk_P gw_I d y_S1_indexOfChar b_S1_indexOfChar 6 (some .int) [] (f_S1_indexOfChar a0 a1 a2 a3 h) 0 [(0, va_rf a0), (1, .int a1), (2, .int a2), (3, .int a3)] [] h := by
  unfold f_S1_indexOfChar
  refine gk_iload_n (pc := 0) 1 d_S1_indexOfChar_0 rfl ?_
  refine gk_i2b (pc := 1) d_S1_indexOfChar_1 ?_
  refine gk_topI (pc := 2) fun x1 => ?_
  refine gk_istore (pc := 2) (L' := [(4, .int x1), (0, va_rf a0), (1, .int a1), (2, .int a2), (3, .int a3)]) d_S1_indexOfChar_2 (Nat.le_of_ble_eq_true rfl) rfl ?_
  refine gk_iload_n (pc := 4) 3 d_S1_indexOfChar_4 rfl ?_
  refine gk_istore (pc := 5) (L' := [(5, .int a2), (4, .int x1), (0, va_rf a0), (1, .int a1), (2, .int a2), (3, .int a3)]) d_S1_indexOfChar_5 (Nat.le_of_ble_eq_true rfl) rfl ?_
  refine gk_weak [2, 5, 1, 0] (L' := [(0, va_rf a0), (3, .int a3), (4, .int x1), (5, .int a2)]) rfl ?_
  exact p_S1_indexOfChar_b7 d gk_F a0 a3 x1 a2 h
theorem p_S1_indexOfChar (d : Nat) (a0 : Option Nat) (a1 : Int32) (a2 : Int32) (a3 : Int32) (h : gk_H) : ∀ r h1, f_S1_indexOfChar a0 a1 a2 a3 h = some (r, h1) → gk_M d y_S1_indexOfChar b_S1_indexOfChar 6 (some .int) [va_rf a0, .int a1, .int a2, .int a3] h (.inl (gv_I r)) h1 :=
  fun r h1 e => gk_M_of2 (by decide +kernel) (by simp [lv_args, gk_cat_rf, gk_catI, gk_catJ, gk_catD, gv_V, gv_I, gv_J, gv_D, gv_R]) (by simp [lg_sl, gk_cat_rf, gk_catI, gk_catJ, gk_catD, gv_V, gv_I, gv_J, gv_D, gv_R]) (w_S1_indexOfChar d a0 a1 a2 a3 h r h1 e)
theorem d_S1_indexOf_0 : decode b_S1_indexOf 0 = .ok (.iload_n 1, 1) := by decide +kernel
theorem d_S1_indexOf_1 : decode b_S1_indexOf 1 = .ok (.invokestatic 88, 3) := by decide +kernel
theorem d_S1_indexOf_4 : decode b_S1_indexOf 4 = .ok (.ifCond .ne 5, 3) := by decide +kernel
theorem d_S1_indexOf_7 : decode b_S1_indexOf 7 = .ok (.iconst (-1), 1) := by decide +kernel
theorem d_S1_indexOf_8 : decode b_S1_indexOf 8 = .ok (.ireturn, 1) := by decide +kernel
theorem d_S1_indexOf_9 : decode b_S1_indexOf 9 = .ok (.iload_n 2, 1) := by decide +kernel
theorem d_S1_indexOf_10 : decode b_S1_indexOf 10 = .ok (.iconst 0, 1) := by decide +kernel
theorem d_S1_indexOf_11 : decode b_S1_indexOf 11 = .ok (.invokestatic 92, 3) := by decide +kernel
theorem d_S1_indexOf_14 : decode b_S1_indexOf 14 = .ok (.istore_n 2, 1) := by decide +kernel
theorem d_S1_indexOf_15 : decode b_S1_indexOf 15 = .ok (.iload_n 3, 1) := by decide +kernel
theorem d_S1_indexOf_16 : decode b_S1_indexOf 16 = .ok (.aload_n 0, 1) := by decide +kernel
theorem d_S1_indexOf_17 : decode b_S1_indexOf 17 = .ok (.arraylength, 1) := by decide +kernel
theorem d_S1_indexOf_18 : decode b_S1_indexOf 18 = .ok (.invokestatic 38, 3) := by decide +kernel
theorem d_S1_indexOf_21 : decode b_S1_indexOf 21 = .ok (.istore_n 3, 1) := by decide +kernel
theorem d_S1_indexOf_22 : decode b_S1_indexOf 22 = .ok (.iload_n 2, 1) := by decide +kernel
theorem d_S1_indexOf_23 : decode b_S1_indexOf 23 = .ok (.iload_n 3, 1) := by decide +kernel
theorem d_S1_indexOf_24 : decode b_S1_indexOf 24 = .ok (.if_icmp .lt 5, 3) := by decide +kernel
theorem d_S1_indexOf_27 : decode b_S1_indexOf 27 = .ok (.iconst (-1), 1) := by decide +kernel
theorem d_S1_indexOf_28 : decode b_S1_indexOf 28 = .ok (.ireturn, 1) := by decide +kernel
theorem d_S1_indexOf_29 : decode b_S1_indexOf 29 = .ok (.aload_n 0, 1) := by decide +kernel
theorem d_S1_indexOf_30 : decode b_S1_indexOf 30 = .ok (.iload_n 1, 1) := by decide +kernel
theorem d_S1_indexOf_31 : decode b_S1_indexOf 31 = .ok (.iload_n 2, 1) := by decide +kernel
theorem d_S1_indexOf_32 : decode b_S1_indexOf 32 = .ok (.iload_n 3, 1) := by decide +kernel
theorem d_S1_indexOf_33 : decode b_S1_indexOf 33 = .ok (.invokestatic 95, 3) := by decide +kernel
theorem d_S1_indexOf_36 : decode b_S1_indexOf 36 = .ok (.ireturn, 1) := by decide +kernel
theorem w_S1_indexOf (d : Nat) (a0 : Option Nat) (a1 : Int32) (a2 : Int32) (a3 : Int32) (h : gk_H) : gk_P gw_I (d + 1) y_S1_indexOf b_S1_indexOf 4 (some .int) [] (f_S1_indexOf a0 a1 a2 a3 h) 0 [(0, va_rf a0), (1, .int a1), (2, .int a2), (3, .int a3)] [] h := by
  unfold f_S1_indexOf
  refine gk_iload_n (pc := 0) 1 d_S1_indexOf_0 rfl ?_
  refine gk_callS (pc := 1) (d := d) (w' := gv_I) (as := [.int a1]) (n := 1) d_S1_indexOf_1 rfl rfl (Nat.le_of_ble_eq_true rfl) tw_848 tw_849 tw_109 cw_S1_canEncode_I hy_S1_canEncode_I (Nat.le_of_ble_eq_true rfl) (p_S1_canEncode_I d a1 h) fun x1 h1 => ?_
  refine gk_if_ne (pc := 4) 9 d_S1_indexOf_4 rfl (fun _ => ?_) (fun _ => ?_)
  · refine gk_iconst (pc := 7) (-1 : Int32) d_S1_indexOf_7 rfl ?_
    exact gk_iret (pc := 8) rfl d_S1_indexOf_8 rfl
  · refine gk_iload_n (pc := 9) 2 d_S1_indexOf_9 rfl ?_
    refine gk_iconst (pc := 10) (0 : Int32) d_S1_indexOf_10 rfl ?_
    refine gk_callS (pc := 11) (d := d) (w' := gv_I) (as := [.int a2, .int (0 : Int32)]) (n := 2) d_S1_indexOf_11 rfl rfl (Nat.le_of_ble_eq_true rfl) tw_851 tw_448 tw_106 cw_Ma_max_II hy_Ma_max_II (Nat.le_of_ble_eq_true rfl) (p_Ma_max_II d a2 (0 : Int32) h1) fun x2 h2 => ?_
    refine gk_istore_n (pc := 14) (L' := [(2, .int x2), (0, va_rf a0), (1, .int a1), (3, .int a3)]) d_S1_indexOf_14 (Nat.le_of_ble_eq_true rfl) rfl ?_
    refine gk_iload_n (pc := 15) 3 d_S1_indexOf_15 rfl ?_
    refine gk_aload_n (pc := 16) 1 d_S1_indexOf_16 rfl ?_
    refine gk_alen (pc := 17) d_S1_indexOf_17 fun x3 => ?_
    refine gk_callS (pc := 18) (d := d) (w' := gv_I) (as := [.int a3, .int x3]) (n := 2) d_S1_indexOf_18 rfl rfl (Nat.le_of_ble_eq_true rfl) tw_852 tw_466 tw_106 cw_Ma_min_II hy_Ma_min_II (Nat.le_of_ble_eq_true rfl) (p_Ma_min_II d a3 x3 h2) fun x4 h3 => ?_
    refine gk_istore_n (pc := 21) (L' := [(3, .int x4), (2, .int x2), (0, va_rf a0), (1, .int a1)]) d_S1_indexOf_21 (Nat.le_of_ble_eq_true rfl) rfl ?_
    refine gk_iload_n (pc := 22) 1 d_S1_indexOf_22 rfl ?_
    refine gk_iload_n (pc := 23) 0 d_S1_indexOf_23 rfl ?_
    refine gk_icmp_lt (pc := 24) 29 d_S1_indexOf_24 rfl (fun _ => ?_) (fun _ => ?_)
    · refine gk_aload_n (pc := 29) 2 d_S1_indexOf_29 rfl ?_
      refine gk_iload_n (pc := 30) 3 d_S1_indexOf_30 rfl ?_
      refine gk_iload_n (pc := 31) 1 d_S1_indexOf_31 rfl ?_
      refine gk_iload_n (pc := 32) 0 d_S1_indexOf_32 rfl ?_
      refine gk_callS (pc := 33) (d := d) (w' := gv_I) (as := [va_rf a0, .int a1, .int x2, .int x4]) (n := 4) d_S1_indexOf_33 rfl rfl (Nat.le_of_ble_eq_true rfl) tw_853 tw_854 tw_109 cw_S1_indexOfChar hy_S1_indexOfChar (Nat.le_of_ble_eq_true rfl) (p_S1_indexOfChar d a0 a1 x2 x4 h3) fun x5 h4 => ?_
      exact gk_iret (pc := 36) rfl d_S1_indexOf_36 rfl
    · refine gk_iconst (pc := 27) (-1 : Int32) d_S1_indexOf_27 rfl ?_
      exact gk_iret (pc := 28) rfl d_S1_indexOf_28 rfl
theorem p_S1_indexOf (d : Nat) (a0 : Option Nat) (a1 : Int32) (a2 : Int32) (a3 : Int32) (h : gk_H) : ∀ r h1, f_S1_indexOf a0 a1 a2 a3 h = some (r, h1) → gk_M (d + 1) y_S1_indexOf b_S1_indexOf 4 (some .int) [va_rf a0, .int a1, .int a2, .int a3] h (.inl (gv_I r)) h1 :=
  fun r h1 e => gk_M_of2 (by decide +kernel) (by simp [lv_args, gk_cat_rf, gk_catI, gk_catJ, gk_catD, gv_V, gv_I, gv_J, gv_D, gv_R]) (by simp [lg_sl, gk_cat_rf, gk_catI, gk_catJ, gk_catD, gv_V, gv_I, gv_J, gv_D, gv_R]) (w_S1_indexOf d a0 a1 a2 a3 h r h1 e)
theorem d_St_indexOf_II_0 : decode b_St_indexOf_II 0 = .ok (.aload_n 0, 1) := by decide +kernel
theorem d_St_indexOf_II_1 : decode b_St_indexOf_II 1 = .ok (.invokevirtual 492, 3) := by decide +kernel
theorem d_St_indexOf_II_4 : decode b_St_indexOf_II 4 = .ok (.ifCond .eq 19, 3) := by decide +kernel
theorem d_St_indexOf_II_7 : decode b_St_indexOf_II 7 = .ok (.aload_n 0, 1) := by decide +kernel
theorem d_St_indexOf_II_8 : decode b_St_indexOf_II 8 = .ok (.getfield 9, 3) := by decide +kernel
theorem d_St_indexOf_II_11 : decode b_St_indexOf_II 11 = .ok (.iload_n 1, 1) := by decide +kernel
theorem d_St_indexOf_II_12 : decode b_St_indexOf_II 12 = .ok (.iload_n 2, 1) := by decide +kernel
theorem d_St_indexOf_II_13 : decode b_St_indexOf_II 13 = .ok (.aload_n 0, 1) := by decide +kernel
theorem d_St_indexOf_II_14 : decode b_St_indexOf_II 14 = .ok (.invokevirtual 505, 3) := by decide +kernel
theorem d_St_indexOf_II_17 : decode b_St_indexOf_II 17 = .ok (.invokestatic 637, 3) := by decide +kernel
theorem d_St_indexOf_II_20 : decode b_St_indexOf_II 20 = .ok (.goto 16, 3) := by decide +kernel
theorem d_St_indexOf_II_36 : decode b_St_indexOf_II 36 = .ok (.ireturn, 1) := by decide +kernel
theorem w_St_indexOf_II (d : Nat) (a0 : Option Nat) (a1 : Int32) (a2 : Int32) (h : gk_H) : gk_P gw_I (d + 2) y_St_indexOf_II b_St_indexOf_II 3 (some .int) [] (f_St_indexOf_II a0 a1 a2 h) 0 [(0, va_rf a0), (1, .int a1), (2, .int a2)] [] h := by
  unfold f_St_indexOf_II
  refine gk_aload_n (pc := 0) 0 d_St_indexOf_II_0 rfl ?_
  refine gk_callV (pc := 1) (d := (d + 1)) (w' := gv_I) (as := []) (n := 0) 0 d_St_indexOf_II_1 rfl rfl rfl rfl (Nat.le_of_ble_eq_true rfl) tw_814 tw_815 tw_816 tw_94 cw_St_isLatin1 hy_St_isLatin1 (Nat.le_of_ble_eq_true rfl) (p_St_isLatin1 (d + 1) a0 h) fun x1 h1 => ?_
  refine gk_if_eq (pc := 4) 23 d_St_indexOf_II_4 rfl (fun _ => ?_) (fun _ => ?_)
  · exact gk_none
  · refine gk_aload_n (pc := 7) 0 d_St_indexOf_II_7 rfl ?_
    refine gk_getR (pc := 8) 0 0 d_St_indexOf_II_8 rfl (Nat.le_of_ble_eq_true rfl) tw_651 fun x2 => ?_
    refine gk_iload_n (pc := 11) 1 d_St_indexOf_II_11 rfl ?_
    refine gk_iload_n (pc := 12) 2 d_St_indexOf_II_12 rfl ?_
    refine gk_aload_n (pc := 13) 0 d_St_indexOf_II_13 rfl ?_
    refine gk_callV (pc := 14) (d := (d + 1)) (w' := gv_I) (as := []) (n := 0) 0 d_St_indexOf_II_14 rfl rfl rfl rfl (by simp [gk_cat_rf, gk_catI, gk_catJ, gk_catD, gv_V, gv_I, gv_J, gv_D, gv_R]) tw_844 tw_613 tw_614 tw_94 cw_St_length hy_St_length (Nat.le_of_ble_eq_true rfl) (p_St_length d a0 h1) fun x3 h2 => ?_
    refine gk_callS (pc := 17) (d := (d + 1)) (w' := gv_I) (as := [va_rf x2, .int a1, .int a2, .int x3]) (n := 4) d_St_indexOf_II_17 rfl rfl (Nat.le_of_ble_eq_true rfl) tw_845 tw_846 tw_109 cw_S1_indexOf hy_S1_indexOf (Nat.le_of_ble_eq_true rfl) (p_S1_indexOf d x2 a1 a2 x3 h2) fun x4 h3 => ?_
    refine gk_goto (pc := 20) 36 d_St_indexOf_II_20 rfl ?_
    exact gk_iret (pc := 36) rfl d_St_indexOf_II_36 rfl
theorem p_St_indexOf_II (d : Nat) (a0 : Option Nat) (a1 : Int32) (a2 : Int32) (h : gk_H) : ∀ r h1, f_St_indexOf_II a0 a1 a2 h = some (r, h1) → gk_M (d + 2) y_St_indexOf_II b_St_indexOf_II 3 (some .int) [va_rf a0, .int a1, .int a2] h (.inl (gv_I r)) h1 :=
  fun r h1 e => gk_M_of2 (by decide +kernel) (by simp [lv_args, gk_cat_rf, gk_catI, gk_catJ, gk_catD, gv_V, gv_I, gv_J, gv_D, gv_R]) (by simp [lg_sl, gk_cat_rf, gk_catI, gk_catJ, gk_catD, gv_V, gv_I, gv_J, gv_D, gv_R]) (w_St_indexOf_II d a0 a1 a2 h r h1 e)
theorem d_St_indexOf_I_0 : decode b_St_indexOf_I 0 = .ok (.aload_n 0, 1) := by decide +kernel
theorem d_St_indexOf_I_1 : decode b_St_indexOf_I 1 = .ok (.iload_n 1, 1) := by decide +kernel
theorem d_St_indexOf_I_2 : decode b_St_indexOf_I 2 = .ok (.iconst 0, 1) := by decide +kernel
theorem d_St_indexOf_I_3 : decode b_St_indexOf_I 3 = .ok (.invokevirtual 633, 3) := by decide +kernel
theorem d_St_indexOf_I_6 : decode b_St_indexOf_I 6 = .ok (.ireturn, 1) := by decide +kernel
theorem w_St_indexOf_I (d : Nat) (a0 : Option Nat) (a1 : Int32) (h : gk_H) : gk_P gw_I (d + 3) y_St_indexOf_I b_St_indexOf_I 2 (some .int) [] (f_St_indexOf_I a0 a1 h) 0 [(0, va_rf a0), (1, .int a1)] [] h := by
  unfold f_St_indexOf_I
  refine gk_aload_n (pc := 0) 0 d_St_indexOf_I_0 rfl ?_
  refine gk_iload_n (pc := 1) 1 d_St_indexOf_I_1 rfl ?_
  refine gk_iconst (pc := 2) (0 : Int32) d_St_indexOf_I_2 rfl ?_
  refine gk_callV (pc := 3) (d := (d + 2)) (w' := gv_I) (as := [.int a1, .int (0 : Int32)]) (n := 2) 0 d_St_indexOf_I_3 rfl rfl rfl rfl (Nat.le_of_ble_eq_true rfl) tw_840 tw_841 tw_842 tw_94 cw_St_indexOf_II hy_St_indexOf_II (Nat.le_of_ble_eq_true rfl) (p_St_indexOf_II d a0 a1 (0 : Int32) h) fun x1 h1 => ?_
  exact gk_iret (pc := 6) rfl d_St_indexOf_I_6 rfl
theorem p_St_indexOf_I (d : Nat) (a0 : Option Nat) (a1 : Int32) (h : gk_H) : ∀ r h1, f_St_indexOf_I a0 a1 h = some (r, h1) → gk_M (d + 3) y_St_indexOf_I b_St_indexOf_I 2 (some .int) [va_rf a0, .int a1] h (.inl (gv_I r)) h1 :=
  fun r h1 e => gk_M_of2 (by decide +kernel) (by simp [lv_args, gk_cat_rf, gk_catI, gk_catJ, gk_catD, gv_V, gv_I, gv_J, gv_D, gv_R]) (by simp [lg_sl, gk_cat_rf, gk_catI, gk_catJ, gk_catD, gv_V, gv_I, gv_J, gv_D, gv_R]) (w_St_indexOf_I d a0 a1 h r h1 e)
theorem d_AB_reverse_0 : decode b_AB_reverse 0 = .ok (.aload_n 0, 1) := by decide +kernel
theorem d_AB_reverse_1 : decode b_AB_reverse 1 = .ok (.getfield 15, 3) := by decide +kernel
theorem d_AB_reverse_4 : decode b_AB_reverse 4 = .ok (.astore_n 1, 1) := by decide +kernel
theorem d_AB_reverse_5 : decode b_AB_reverse 5 = .ok (.aload_n 0, 1) := by decide +kernel
theorem d_AB_reverse_6 : decode b_AB_reverse 6 = .ok (.getfield 79, 3) := by decide +kernel
theorem d_AB_reverse_9 : decode b_AB_reverse 9 = .ok (.istore_n 2, 1) := by decide +kernel
theorem d_AB_reverse_10 : decode b_AB_reverse 10 = .ok (.iload_n 2, 1) := by decide +kernel
theorem d_AB_reverse_11 : decode b_AB_reverse 11 = .ok (.iconst 1, 1) := by decide +kernel
theorem d_AB_reverse_12 : decode b_AB_reverse 12 = .ok (.isub, 1) := by decide +kernel
theorem d_AB_reverse_13 : decode b_AB_reverse 13 = .ok (.istore_n 3, 1) := by decide +kernel
theorem d_AB_reverse_14 : decode b_AB_reverse 14 = .ok (.aload_n 0, 1) := by decide +kernel
theorem d_AB_reverse_15 : decode b_AB_reverse 15 = .ok (.invokevirtual 83, 3) := by decide +kernel
theorem d_AB_reverse_18 : decode b_AB_reverse 18 = .ok (.ifCond .eq 50, 3) := by decide +kernel
theorem d_AB_reverse_21 : decode b_AB_reverse 21 = .ok (.iload_n 3, 1) := by decide +kernel
theorem d_AB_reverse_22 : decode b_AB_reverse 22 = .ok (.iconst 1, 1) := by decide +kernel
theorem d_AB_reverse_23 : decode b_AB_reverse 23 = .ok (.isub, 1) := by decide +kernel
theorem d_AB_reverse_24 : decode b_AB_reverse 24 = .ok (.iconst 1, 1) := by decide +kernel
theorem d_AB_reverse_25 : decode b_AB_reverse 25 = .ok (.ishr, 1) := by decide +kernel
theorem d_AB_reverse_26 : decode b_AB_reverse 26 = .ok (.istore 4, 2) := by decide +kernel
theorem d_AB_reverse_28 : decode b_AB_reverse 28 = .ok (.iload 4, 2) := by decide +kernel
theorem d_AB_reverse_30 : decode b_AB_reverse 30 = .ok (.ifCond .lt 35, 3) := by decide +kernel
theorem d_AB_reverse_33 : decode b_AB_reverse 33 = .ok (.iload_n 3, 1) := by decide +kernel
theorem d_AB_reverse_34 : decode b_AB_reverse 34 = .ok (.iload 4, 2) := by decide +kernel
theorem d_AB_reverse_36 : decode b_AB_reverse 36 = .ok (.isub, 1) := by decide +kernel
theorem d_AB_reverse_37 : decode b_AB_reverse 37 = .ok (.istore 5, 2) := by decide +kernel
theorem d_AB_reverse_39 : decode b_AB_reverse 39 = .ok (.aload_n 1, 1) := by decide +kernel
theorem d_AB_reverse_40 : decode b_AB_reverse 40 = .ok (.iload 4, 2) := by decide +kernel
theorem d_AB_reverse_42 : decode b_AB_reverse 42 = .ok (.baload, 1) := by decide +kernel
theorem d_AB_reverse_43 : decode b_AB_reverse 43 = .ok (.istore 6, 2) := by decide +kernel
theorem d_AB_reverse_45 : decode b_AB_reverse 45 = .ok (.aload_n 1, 1) := by decide +kernel
theorem d_AB_reverse_46 : decode b_AB_reverse 46 = .ok (.iload 4, 2) := by decide +kernel
theorem d_AB_reverse_48 : decode b_AB_reverse 48 = .ok (.aload_n 1, 1) := by decide +kernel
theorem d_AB_reverse_49 : decode b_AB_reverse 49 = .ok (.iload 5, 2) := by decide +kernel
theorem d_AB_reverse_51 : decode b_AB_reverse 51 = .ok (.baload, 1) := by decide +kernel
theorem d_AB_reverse_52 : decode b_AB_reverse 52 = .ok (.bastore, 1) := by decide +kernel
theorem d_AB_reverse_53 : decode b_AB_reverse 53 = .ok (.aload_n 1, 1) := by decide +kernel
theorem d_AB_reverse_54 : decode b_AB_reverse 54 = .ok (.iload 5, 2) := by decide +kernel
theorem d_AB_reverse_56 : decode b_AB_reverse 56 = .ok (.iload 6, 2) := by decide +kernel
theorem d_AB_reverse_58 : decode b_AB_reverse 58 = .ok (.bastore, 1) := by decide +kernel
theorem d_AB_reverse_59 : decode b_AB_reverse 59 = .ok (.iinc 4 (-1), 3) := by decide +kernel
theorem d_AB_reverse_62 : decode b_AB_reverse 62 = .ok (.goto (-34), 3) := by decide +kernel
theorem d_AB_reverse_65 : decode b_AB_reverse 65 = .ok (.goto 8, 3) := by decide +kernel
theorem d_AB_reverse_73 : decode b_AB_reverse 73 = .ok (.aload_n 0, 1) := by decide +kernel
theorem d_AB_reverse_74 : decode b_AB_reverse 74 = .ok (.areturn, 1) := by decide +kernel
theorem p_AB_reverse_b28 (d : Nat)  : ∀ (fu : Nat) (v0 : Option Nat) (v1 : Option Nat) (v3 : Int32) (v4 : Int32) (h : gk_H), gk_P gw_R (d + 1) y_AB_reverse b_AB_reverse 7 (some (.object "java/lang/AbstractStringBuilder")) [] (f_AB_reverse_b28  fu v0 v1 v3 v4 h) 28 [(0, va_rf v0), (1, va_rf v1), (3, .int v3), (4, .int v4)] [] h := by
  intro fu
  induction fu with
  | zero => intros; exact gk_none
  | succ fu q28 =>
    intro v0 v1 v3 v4 h
    rw [f_AB_reverse_b28]
    refine gk_iload (pc := 28) 3 d_AB_reverse_28 rfl ?_
    refine gk_if_lt (pc := 30) 65 d_AB_reverse_30 rfl (fun _ => ?_) (fun _ => ?_)
    · refine gk_goto (pc := 65) 73 d_AB_reverse_65 rfl ?_
      refine gk_aload_n (pc := 73) 0 d_AB_reverse_73 rfl ?_
      exact gk_aret (pc := 74) rfl d_AB_reverse_74 rfl (Or.inl ⟨_, rfl⟩)
    · refine gk_iload_n (pc := 33) 2 d_AB_reverse_33 rfl ?_
      refine gk_iload (pc := 34) 3 d_AB_reverse_34 rfl ?_
      refine gk_isub (pc := 36) d_AB_reverse_36 ?_
      refine gk_topI (pc := 37) fun x1 => ?_
      refine gk_istore (pc := 37) (L' := [(5, .int x1), (0, va_rf v0), (1, va_rf v1), (3, .int v3), (4, .int v4)]) d_AB_reverse_37 (Nat.le_of_ble_eq_true rfl) rfl ?_
      refine gk_aload_n (pc := 39) 2 d_AB_reverse_39 rfl ?_
      refine gk_iload (pc := 40) 4 d_AB_reverse_40 rfl ?_
      refine gk_bald (pc := 42) d_AB_reverse_42 fun x2 => ?_
      refine gk_istore (pc := 43) (L' := [(6, .int x2), (5, .int x1), (0, va_rf v0), (1, va_rf v1), (3, .int v3), (4, .int v4)]) d_AB_reverse_43 (Nat.le_of_ble_eq_true rfl) rfl ?_
      refine gk_aload_n (pc := 45) 3 d_AB_reverse_45 rfl ?_
      refine gk_iload (pc := 46) 5 d_AB_reverse_46 rfl ?_
      refine gk_aload_n (pc := 48) 3 d_AB_reverse_48 rfl ?_
      refine gk_iload (pc := 49) 1 d_AB_reverse_49 rfl ?_
      refine gk_bald (pc := 51) d_AB_reverse_51 fun x3 => ?_
      refine gk_bast (pc := 52) d_AB_reverse_52 fun h1 => ?_
      refine gk_aload_n (pc := 53) 3 d_AB_reverse_53 rfl ?_
      refine gk_iload (pc := 54) 1 d_AB_reverse_54 rfl ?_
      refine gk_iload (pc := 56) 0 d_AB_reverse_56 rfl ?_
      refine gk_bast (pc := 58) d_AB_reverse_58 fun h2 => ?_
      refine gk_iincN (pc := 59) 5 (-1 : Int32) (L' := fun x4 => [(4, .int x4), (6, .int x2), (5, .int x1), (0, va_rf v0), (1, va_rf v1), (3, .int v3)]) d_AB_reverse_59 rfl rfl (Nat.le_of_ble_eq_true rfl) (fun _ => rfl) fun x4 => ?_
      refine gk_goto (pc := 62) 28 d_AB_reverse_62 rfl ?_
      refine gk_weak [3, 4, 5, 0] (L' := [(0, va_rf v0), (1, va_rf v1), (3, .int v3), (4, .int x4)]) rfl ?_
      exact q28 v0 v1 v3 x4 h2
theorem w_AB_reverse (d : Nat) (a0 : Option Nat) (h : gk_H) : gk_P gw_R (d + 1) y_AB_reverse b_AB_reverse 7 (some (.object "java/lang/AbstractStringBuilder")) [] (f_AB_reverse a0 h) 0 [(0, va_rf a0)] [] h := by
  unfold f_AB_reverse
  refine gk_aload_n (pc := 0) 0 d_AB_reverse_0 rfl ?_
  refine gk_getR (pc := 1) 1 0 d_AB_reverse_1 rfl (Nat.le_of_ble_eq_true rfl) tw_153 fun x1 => ?_
  refine gk_astore_n (pc := 4) (L' := [(1, va_rf x1), (0, va_rf a0)]) d_AB_reverse_4 (Nat.le_of_ble_eq_true rfl) (by simp [gk_s1, gk_s2, gk_cat_rf, gk_catI, gk_catJ, gk_catD] <;> decide) ?_
  refine gk_aload_n (pc := 5) 1 d_AB_reverse_5 rfl ?_
  refine gk_getI (pc := 6) 1 3 d_AB_reverse_6 rfl (Nat.le_of_ble_eq_true rfl) tw_157 fun x2 => ?_
  refine gk_istore_n (pc := 9) (L' := [(2, .int x2), (1, va_rf x1), (0, va_rf a0)]) d_AB_reverse_9 (Nat.le_of_ble_eq_true rfl) (by simp [gk_s1, gk_s2, gk_cat_rf, gk_catI, gk_catJ, gk_catD] <;> decide) ?_
  refine gk_iload_n (pc := 10) 0 d_AB_reverse_10 rfl ?_
  refine gk_iconst (pc := 11) (1 : Int32) d_AB_reverse_11 rfl ?_
  refine gk_isub (pc := 12) d_AB_reverse_12 ?_
  refine gk_topI (pc := 13) fun x3 => ?_
  refine gk_istore_n (pc := 13) (L' := [(3, .int x3), (2, .int x2), (1, va_rf x1), (0, va_rf a0)]) d_AB_reverse_13 (Nat.le_of_ble_eq_true rfl) rfl ?_
  refine gk_aload_n (pc := 14) 3 d_AB_reverse_14 rfl ?_
  refine gk_callU (pc := 15) (d := d) (w' := gv_I) (as := []) (n := 0) 1 d_AB_reverse_15 rfl rfl rfl (Nat.le_of_ble_eq_true rfl) tw_471 tw_473 tw_472 tw_474 tw_92 cw_AB_isLatin1 hy_AB_isLatin1 (Nat.le_of_ble_eq_true rfl) (p_AB_isLatin1 d a0 h) fun x4 h1 => ?_
  refine gk_if_eq (pc := 18) 68 d_AB_reverse_18 rfl (fun _ => ?_) (fun _ => ?_)
  · exact gk_none
  · refine gk_iload_n (pc := 21) 0 d_AB_reverse_21 rfl ?_
    refine gk_iconst (pc := 22) (1 : Int32) d_AB_reverse_22 rfl ?_
    refine gk_isub (pc := 23) d_AB_reverse_23 ?_
    refine gk_iconst (pc := 24) (1 : Int32) d_AB_reverse_24 rfl ?_
    refine gk_ishr (pc := 25) d_AB_reverse_25 ?_
    refine gk_topI (pc := 26) fun x5 => ?_
    refine gk_istore (pc := 26) (L' := [(4, .int x5), (3, .int x3), (2, .int x2), (1, va_rf x1), (0, va_rf a0)]) d_AB_reverse_26 (Nat.le_of_ble_eq_true rfl) rfl ?_
    refine gk_weak [4, 3, 1, 0] (L' := [(0, va_rf a0), (1, va_rf x1), (3, .int x3), (4, .int x5)]) rfl ?_
    exact p_AB_reverse_b28 d gk_F a0 x1 x3 x5 h1
theorem p_AB_reverse (d : Nat) (a0 : Option Nat) (h : gk_H) : ∀ r h1, f_AB_reverse a0 h = some (r, h1) → gk_M (d + 1) y_AB_reverse b_AB_reverse 7 (some (.object "java/lang/AbstractStringBuilder")) [va_rf a0] h (.inl (gv_R r)) h1 :=
  fun r h1 e => gk_M_of2 (by decide +kernel) (by simp [lv_args, gk_cat_rf, gk_catI, gk_catJ, gk_catD, gv_V, gv_I, gv_J, gv_D, gv_R]) (by simp [lg_sl, gk_cat_rf, gk_catI, gk_catJ, gk_catD, gv_V, gv_I, gv_J, gv_D, gv_R]) (w_AB_reverse d a0 h r h1 e)
theorem d_SB_reverse_0 : decode b_SB_reverse 0 = .ok (.aload_n 0, 1) := by decide +kernel
theorem d_SB_reverse_1 : decode b_SB_reverse 1 = .ok (.invokespecial 127, 3) := by decide +kernel
theorem d_SB_reverse_4 : decode b_SB_reverse 4 = .ok (.pop, 1) := by decide +kernel
theorem d_SB_reverse_5 : decode b_SB_reverse 5 = .ok (.aload_n 0, 1) := by decide +kernel
theorem d_SB_reverse_6 : decode b_SB_reverse 6 = .ok (.areturn, 1) := by decide +kernel
theorem w_SB_reverse (d : Nat) (a0 : Option Nat) (h : gk_H) : gk_P gw_R (d + 2) y_SB_reverse b_SB_reverse 1 (some (.object "java/lang/StringBuilder")) [] (f_SB_reverse a0 h) 0 [(0, va_rf a0)] [] h := by
  unfold f_SB_reverse
  refine gk_aload_n (pc := 0) 0 d_SB_reverse_0 rfl ?_
  refine gk_callSU (pc := 1) (d := (d + 1)) (w' := gv_R) (as := []) (n := 0) 1 d_SB_reverse_1 rfl rfl rfl (Nat.le_of_ble_eq_true rfl) tw_922 tw_2194 tw_166 tw_923 tw_92 cw_AB_reverse hs_AB_reverse (Nat.le_of_ble_eq_true rfl) (p_AB_reverse d a0 h) fun x1 h1 => ?_
  refine gk_pop (pc := 4) d_SB_reverse_4 (gk_cat_rf _) ?_
  refine gk_aload_n (pc := 5) 0 d_SB_reverse_5 rfl ?_
  exact gk_aret (pc := 6) rfl d_SB_reverse_6 rfl (Or.inl ⟨_, rfl⟩)
theorem p_SB_reverse (d : Nat) (a0 : Option Nat) (h : gk_H) : ∀ r h1, f_SB_reverse a0 h = some (r, h1) → gk_M (d + 2) y_SB_reverse b_SB_reverse 1 (some (.object "java/lang/StringBuilder")) [va_rf a0] h (.inl (gv_R r)) h1 :=
  fun r h1 e => gk_M_of2 (by decide +kernel) (by simp [lv_args, gk_cat_rf, gk_catI, gk_catJ, gk_catD, gv_V, gv_I, gv_J, gv_D, gv_R]) (by simp [lg_sl, gk_cat_rf, gk_catI, gk_catJ, gk_catD, gv_V, gv_I, gv_J, gv_D, gv_R]) (w_SB_reverse d a0 h r h1 e)
theorem d_AB_charAt_0 : decode b_AB_charAt 0 = .ok (.aload_n 0, 1) := by decide +kernel
theorem d_AB_charAt_1 : decode b_AB_charAt 1 = .ok (.getfield 22, 3) := by decide +kernel
theorem d_AB_charAt_4 : decode b_AB_charAt 4 = .ok (.istore_n 2, 1) := by decide +kernel
theorem d_AB_charAt_5 : decode b_AB_charAt 5 = .ok (.aload_n 0, 1) := by decide +kernel
theorem d_AB_charAt_6 : decode b_AB_charAt 6 = .ok (.getfield 15, 3) := by decide +kernel
theorem d_AB_charAt_9 : decode b_AB_charAt 9 = .ok (.astore_n 3, 1) := by decide +kernel
theorem d_AB_charAt_10 : decode b_AB_charAt 10 = .ok (.aload_n 0, 1) := by decide +kernel
theorem d_AB_charAt_11 : decode b_AB_charAt 11 = .ok (.getfield 79, 3) := by decide +kernel
theorem d_AB_charAt_14 : decode b_AB_charAt 14 = .ok (.aload_n 3, 1) := by decide +kernel
theorem d_AB_charAt_15 : decode b_AB_charAt 15 = .ok (.arraylength, 1) := by decide +kernel
theorem d_AB_charAt_16 : decode b_AB_charAt 16 = .ok (.iload_n 2, 1) := by decide +kernel
theorem d_AB_charAt_17 : decode b_AB_charAt 17 = .ok (.ishr, 1) := by decide +kernel
theorem d_AB_charAt_18 : decode b_AB_charAt 18 = .ok (.invokestatic 138, 3) := by decide +kernel
theorem d_AB_charAt_21 : decode b_AB_charAt 21 = .ok (.istore 4, 2) := by decide +kernel
theorem d_AB_charAt_23 : decode b_AB_charAt 23 = .ok (.iload_n 1, 1) := by decide +kernel
theorem d_AB_charAt_24 : decode b_AB_charAt 24 = .ok (.iload 4, 2) := by decide +kernel
theorem d_AB_charAt_26 : decode b_AB_charAt 26 = .ok (.invokestatic 144, 3) := by decide +kernel
theorem d_AB_charAt_29 : decode b_AB_charAt 29 = .ok (.iload_n 2, 1) := by decide +kernel
theorem d_AB_charAt_30 : decode b_AB_charAt 30 = .ok (.ifCond .ne 12, 3) := by decide +kernel
theorem d_AB_charAt_33 : decode b_AB_charAt 33 = .ok (.aload_n 3, 1) := by decide +kernel
theorem d_AB_charAt_34 : decode b_AB_charAt 34 = .ok (.iload_n 1, 1) := by decide +kernel
theorem d_AB_charAt_35 : decode b_AB_charAt 35 = .ok (.baload, 1) := by decide +kernel
theorem d_AB_charAt_36 : decode b_AB_charAt 36 = .ok (.sipush 255, 3) := by decide +kernel
theorem d_AB_charAt_39 : decode b_AB_charAt 39 = .ok (.iand, 1) := by decide +kernel
theorem d_AB_charAt_40 : decode b_AB_charAt 40 = .ok (.i2c, 1) := by decide +kernel
theorem d_AB_charAt_41 : decode b_AB_charAt 41 = .ok (.ireturn, 1) := by decide +kernel
theorem w_AB_charAt (d : Nat) (a0 : Option Nat) (a1 : Int32) (h : gk_H) : gk_P gw_I (d + 2) y_AB_charAt b_AB_charAt 5 (some .char) [] (f_AB_charAt a0 a1 h) 0 [(0, va_rf a0), (1, .int a1)] [] h := by
  unfold f_AB_charAt
  refine gk_aload_n (pc := 0) 0 d_AB_charAt_0 rfl ?_
  refine gk_getI (pc := 1) 1 1 d_AB_charAt_1 rfl (Nat.le_of_ble_eq_true rfl) tw_154 fun x1 => ?_
  refine gk_istore_n (pc := 4) (L' := [(2, .int x1), (0, va_rf a0), (1, .int a1)]) d_AB_charAt_4 (Nat.le_of_ble_eq_true rfl) rfl ?_
  refine gk_aload_n (pc := 5) 1 d_AB_charAt_5 rfl ?_
  refine gk_getR (pc := 6) 1 0 d_AB_charAt_6 rfl (Nat.le_of_ble_eq_true rfl) tw_153 fun x2 => ?_
  refine gk_astore_n (pc := 9) (L' := [(3, va_rf x2), (2, .int x1), (0, va_rf a0), (1, .int a1)]) d_AB_charAt_9 (Nat.le_of_ble_eq_true rfl) rfl ?_
  refine gk_aload_n (pc := 10) 2 d_AB_charAt_10 rfl ?_
  refine gk_getI (pc := 11) 1 3 d_AB_charAt_11 rfl (Nat.le_of_ble_eq_true rfl) tw_157 fun x3 => ?_
  refine gk_aload_n (pc := 14) 0 d_AB_charAt_14 rfl ?_
  refine gk_alen (pc := 15) d_AB_charAt_15 fun x4 => ?_
  refine gk_iload_n (pc := 16) 1 d_AB_charAt_16 rfl ?_
  refine gk_ishr (pc := 17) d_AB_charAt_17 ?_
  refine gk_callS (pc := 18) (d := (d + 1)) (w' := gv_I) (as := [.int x3, .int (x4 >>> (x1 &&& 31))]) (n := 2) d_AB_charAt_18 rfl rfl (Nat.le_of_ble_eq_true rfl) tw_959 tw_466 tw_106 cw_Ma_min_II hy_Ma_min_II (Nat.le_of_ble_eq_true rfl) (p_Ma_min_II (d + 1) x3 (x4 >>> (x1 &&& 31)) h) fun x5 h1 => ?_
  refine gk_istore (pc := 21) (L' := [(4, .int x5), (3, va_rf x2), (2, .int x1), (0, va_rf a0), (1, .int a1)]) d_AB_charAt_21 (Nat.le_of_ble_eq_true rfl) (by simp [gk_s1, gk_s2, gk_cat_rf, gk_catI, gk_catJ, gk_catD] <;> decide) ?_
  refine gk_iload_n (pc := 23) 4 d_AB_charAt_23 rfl ?_
  refine gk_iload (pc := 24) 0 d_AB_charAt_24 rfl ?_
  refine gk_callS (pc := 26) (d := (d + 1)) (w' := gv_V) (as := [.int a1, .int x5]) (n := 2) d_AB_charAt_26 rfl rfl (Nat.le_of_ble_eq_true rfl) tw_960 tw_519 tw_94 cw_St_checkIndex hy_St_checkIndex (Nat.le_of_ble_eq_true rfl) (p_St_checkIndex d a1 x5 h1) fun _ h2 => ?_
  refine gk_iload_n (pc := 29) 2 d_AB_charAt_29 rfl ?_
  refine gk_if_ne (pc := 30) 42 d_AB_charAt_30 rfl (fun _ => ?_) (fun _ => ?_)
  · refine gk_aload_n (pc := 33) 1 d_AB_charAt_33 rfl ?_
    refine gk_iload_n (pc := 34) 4 d_AB_charAt_34 rfl ?_
    refine gk_bald (pc := 35) d_AB_charAt_35 fun x6 => ?_
    refine gk_sipush (pc := 36) (255 : Int32) d_AB_charAt_36 rfl ?_
    refine gk_iand (pc := 39) d_AB_charAt_39 ?_
    refine gk_i2c (pc := 40) d_AB_charAt_40 ?_
    exact gk_zret (pc := 41) rfl d_AB_charAt_41 rfl
  · exact gk_none
theorem p_AB_charAt (d : Nat) (a0 : Option Nat) (a1 : Int32) (h : gk_H) : ∀ r h1, f_AB_charAt a0 a1 h = some (r, h1) → gk_M (d + 2) y_AB_charAt b_AB_charAt 5 (some .char) [va_rf a0, .int a1] h (.inl (gv_I r)) h1 :=
  fun r h1 e => gk_M_of2 (by decide +kernel) (by simp [lv_args, gk_cat_rf, gk_catI, gk_catJ, gk_catD, gv_V, gv_I, gv_J, gv_D, gv_R]) (by simp [lg_sl, gk_cat_rf, gk_catI, gk_catJ, gk_catD, gv_V, gv_I, gv_J, gv_D, gv_R]) (w_AB_charAt d a0 a1 h r h1 e)
theorem d_SB_charAt_0 : decode b_SB_charAt 0 = .ok (.aload_n 0, 1) := by decide +kernel
theorem d_SB_charAt_1 : decode b_SB_charAt 1 = .ok (.iload_n 1, 1) := by decide +kernel
theorem d_SB_charAt_2 : decode b_SB_charAt 2 = .ok (.invokespecial 329, 3) := by decide +kernel
theorem d_SB_charAt_5 : decode b_SB_charAt 5 = .ok (.ireturn, 1) := by decide +kernel
theorem w_SB_charAt (d : Nat) (a0 : Option Nat) (a1 : Int32) (h : gk_H) : gk_P gw_I (d + 3) y_SB_charAt b_SB_charAt 2 (some .char) [] (f_SB_charAt a0 a1 h) 0 [(0, va_rf a0), (1, .int a1)] [] h := by
  unfold f_SB_charAt
  refine gk_aload_n (pc := 0) 0 d_SB_charAt_0 rfl ?_
  refine gk_iload_n (pc := 1) 1 d_SB_charAt_1 rfl ?_
  refine gk_callSU (pc := 2) (d := (d + 2)) (w' := gv_I) (as := [.int a1]) (n := 1) 1 d_SB_charAt_2 rfl rfl rfl (Nat.le_of_ble_eq_true rfl) tw_956 tw_2195 tw_166 tw_957 tw_92 cw_AB_charAt hs_AB_charAt (Nat.le_of_ble_eq_true rfl) (p_AB_charAt d a0 a1 h) fun x1 h1 => ?_
  exact gk_zret (pc := 5) rfl d_SB_charAt_5 rfl
theorem p_SB_charAt (d : Nat) (a0 : Option Nat) (a1 : Int32) (h : gk_H) : ∀ r h1, f_SB_charAt a0 a1 h = some (r, h1) → gk_M (d + 3) y_SB_charAt b_SB_charAt 2 (some .char) [va_rf a0, .int a1] h (.inl (gv_I r)) h1 :=
  fun r h1 e => gk_M_of2 (by decide +kernel) (by simp [lv_args, gk_cat_rf, gk_catI, gk_catJ, gk_catD, gv_V, gv_I, gv_J, gv_D, gv_R]) (by simp [lg_sl, gk_cat_rf, gk_catI, gk_catJ, gk_catD, gv_V, gv_I, gv_J, gv_D, gv_R]) (w_SB_charAt d a0 a1 h r h1 e)
theorem d_AB_inflateIfNeededFor_0 : decode b_AB_inflateIfNeededFor 0 = .ok (.getstatic 18, 3) := by decide +kernel
theorem d_AB_inflateIfNeededFor_3 : decode b_AB_inflateIfNeededFor 3 = .ok (.ifCond .eq 18, 3) := by decide +kernel
theorem d_AB_inflateIfNeededFor_6 : decode b_AB_inflateIfNeededFor 6 = .ok (.aload_n 0, 1) := by decide +kernel
theorem d_AB_inflateIfNeededFor_7 : decode b_AB_inflateIfNeededFor 7 = .ok (.getfield 22, 3) := by decide +kernel
theorem d_AB_inflateIfNeededFor_10 : decode b_AB_inflateIfNeededFor 10 = .ok (.aload_n 1, 1) := by decide +kernel
theorem d_AB_inflateIfNeededFor_11 : decode b_AB_inflateIfNeededFor 11 = .ok (.invokevirtual 40, 3) := by decide +kernel
theorem d_AB_inflateIfNeededFor_14 : decode b_AB_inflateIfNeededFor 14 = .ok (.if_icmp .eq 7, 3) := by decide +kernel
theorem d_AB_inflateIfNeededFor_21 : decode b_AB_inflateIfNeededFor 21 = .ok (.return_, 1) := by decide +kernel
theorem p_AB_inflateIfNeededFor_b21 (d : Nat)   (h : gk_H) : gk_P gw_V (d + 1) y_AB_inflateIfNeededFor b_AB_inflateIfNeededFor 2 none [] (f_AB_inflateIfNeededFor_b21   h) 21 [] [] h := by
  unfold f_AB_inflateIfNeededFor_b21
  exact gk_vret (pc := 21) rfl d_AB_inflateIfNeededFor_21 rfl
theorem w_AB_inflateIfNeededFor (d : Nat) (a0 : Option Nat) (a1 : Option Nat) (h : gk_H) : gk_P gw_V (d + 1) y_AB_inflateIfNeededFor b_AB_inflateIfNeededFor 2 none [] (f_AB_inflateIfNeededFor a0 a1 h) 0 [(0, va_rf a0), (1, va_rf a1)] [] h := by
  unfold f_AB_inflateIfNeededFor
  refine gk_gsI (pc := 0) 0 d_AB_inflateIfNeededFor_0 rfl tw_144 fun x1 => ?_
  refine gk_if_eq (pc := 3) 21 d_AB_inflateIfNeededFor_3 rfl (fun _ => ?_) (fun _ => ?_)
  · refine gk_weak [] (L' := []) rfl ?_
    exact p_AB_inflateIfNeededFor_b21 d h
  · refine gk_aload_n (pc := 6) 0 d_AB_inflateIfNeededFor_6 rfl ?_
    refine gk_getI (pc := 7) 1 1 d_AB_inflateIfNeededFor_7 rfl (Nat.le_of_ble_eq_true rfl) tw_154 fun x2 => ?_
    refine gk_aload_n (pc := 10) 1 d_AB_inflateIfNeededFor_10 rfl ?_
    refine gk_callV (pc := 11) (d := d) (w' := gv_I) (as := []) (n := 0) 0 d_AB_inflateIfNeededFor_11 rfl rfl rfl rfl (Nat.le_of_ble_eq_true rfl) tw_629 tw_617 tw_618 tw_94 cw_St_coder hy_St_coder (Nat.le_of_ble_eq_true rfl) (p_St_coder d a1 h) fun x3 h1 => ?_
    refine gk_icmp_eq (pc := 14) 21 d_AB_inflateIfNeededFor_14 rfl (fun _ => ?_) (fun _ => ?_)
    · refine gk_weak [] (L' := []) rfl ?_
      exact p_AB_inflateIfNeededFor_b21 d h1
    · exact gk_none
theorem p_AB_inflateIfNeededFor (d : Nat) (a0 : Option Nat) (a1 : Option Nat) (h : gk_H) : ∀ r h1, f_AB_inflateIfNeededFor a0 a1 h = some (r, h1) → gk_M (d + 1) y_AB_inflateIfNeededFor b_AB_inflateIfNeededFor 2 none [va_rf a0, va_rf a1] h (.inl (gv_V r)) h1 :=
  fun r h1 e => gk_M_of2 (by decide +kernel) (by simp [lv_args, gk_cat_rf, gk_catI, gk_catJ, gk_catD, gv_V, gv_I, gv_J, gv_D, gv_R]) (by simp [lg_sl, gk_cat_rf, gk_catI, gk_catJ, gk_catD, gv_V, gv_I, gv_J, gv_D, gv_R]) (w_AB_inflateIfNeededFor d a0 a1 h r h1 e)
theorem d_St_getBytes_0 : decode b_St_getBytes 0 = .ok (.aload_n 0, 1) := by decide +kernel
theorem d_St_getBytes_1 : decode b_St_getBytes 1 = .ok (.invokevirtual 335, 3) := by decide +kernel
theorem d_St_getBytes_4 : decode b_St_getBytes 4 = .ok (.iload_n 3, 1) := by decide +kernel
theorem d_St_getBytes_5 : decode b_St_getBytes 5 = .ok (.if_icmp .ne 23, 3) := by decide +kernel
theorem d_St_getBytes_8 : decode b_St_getBytes 8 = .ok (.aload_n 0, 1) := by decide +kernel
theorem d_St_getBytes_9 : decode b_St_getBytes 9 = .ok (.getfield 9, 3) := by decide +kernel
theorem d_St_getBytes_12 : decode b_St_getBytes 12 = .ok (.iconst 0, 1) := by decide +kernel
theorem d_St_getBytes_13 : decode b_St_getBytes 13 = .ok (.aload_n 1, 1) := by decide +kernel
theorem d_St_getBytes_14 : decode b_St_getBytes 14 = .ok (.iload_n 2, 1) := by decide +kernel
theorem d_St_getBytes_15 : decode b_St_getBytes 15 = .ok (.iload_n 3, 1) := by decide +kernel
theorem d_St_getBytes_16 : decode b_St_getBytes 16 = .ok (.ishl, 1) := by decide +kernel
theorem d_St_getBytes_17 : decode b_St_getBytes 17 = .ok (.aload_n 0, 1) := by decide +kernel
theorem d_St_getBytes_18 : decode b_St_getBytes 18 = .ok (.getfield 9, 3) := by decide +kernel
theorem d_St_getBytes_21 : decode b_St_getBytes 21 = .ok (.arraylength, 1) := by decide +kernel
theorem d_St_getBytes_22 : decode b_St_getBytes 22 = .ok (.invokestatic 212, 3) := by decide +kernel
theorem d_St_getBytes_25 : decode b_St_getBytes 25 = .ok (.goto 18, 3) := by decide +kernel
theorem d_St_getBytes_43 : decode b_St_getBytes 43 = .ok (.return_, 1) := by decide +kernel
theorem w_St_getBytes (d : Nat) (a0 : Option Nat) (a1 : Option Nat) (a2 : Int32) (a3 : Int32) (h : gk_H) : gk_P gw_V (d + 1) y_St_getBytes b_St_getBytes 4 none [] (f_St_getBytes a0 a1 a2 a3 h) 0 [(0, va_rf a0), (1, va_rf a1), (2, .int a2), (3, .int a3)] [] h := by
  unfold f_St_getBytes
  refine gk_aload_n (pc := 0) 0 d_St_getBytes_0 rfl ?_
  refine gk_callV (pc := 1) (d := d) (w' := gv_I) (as := []) (n := 0) 0 d_St_getBytes_1 rfl rfl rfl rfl (Nat.le_of_ble_eq_true rfl) tw_616 tw_617 tw_618 tw_94 cw_St_coder hy_St_coder (Nat.le_of_ble_eq_true rfl) (p_St_coder d a0 h) fun x1 h1 => ?_
  refine gk_iload_n (pc := 4) 3 d_St_getBytes_4 rfl ?_
  refine gk_icmp_ne (pc := 5) 28 d_St_getBytes_5 rfl (fun _ => ?_) (fun _ => ?_)
  · refine gk_aload_n (pc := 8) 0 d_St_getBytes_8 rfl ?_
    refine gk_getR (pc := 9) 0 0 d_St_getBytes_9 rfl (Nat.le_of_ble_eq_true rfl) tw_651 fun x2 => ?_
    refine gk_iconst (pc := 12) (0 : Int32) d_St_getBytes_12 rfl ?_
    refine gk_aload_n (pc := 13) 1 d_St_getBytes_13 rfl ?_
    refine gk_iload_n (pc := 14) 2 d_St_getBytes_14 rfl ?_
    refine gk_iload_n (pc := 15) 3 d_St_getBytes_15 rfl ?_
    refine gk_ishl (pc := 16) d_St_getBytes_16 ?_
    refine gk_aload_n (pc := 17) 0 d_St_getBytes_17 rfl ?_
    refine gk_getR (pc := 18) 0 0 d_St_getBytes_18 rfl (Nat.le_of_ble_eq_true rfl) tw_651 fun x3 => ?_
    refine gk_alen (pc := 21) d_St_getBytes_21 fun x4 => ?_
    refine gk_arraycopy (pc := 22) (d := d) d_St_getBytes_22 tw_634 (Nat.le_of_ble_eq_true rfl) fun h2 => ?_
    refine gk_goto (pc := 25) 43 d_St_getBytes_25 rfl ?_
    exact gk_vret (pc := 43) rfl d_St_getBytes_43 rfl
  · exact gk_none
theorem p_St_getBytes (d : Nat) (a0 : Option Nat) (a1 : Option Nat) (a2 : Int32) (a3 : Int32) (h : gk_H) : ∀ r h1, f_St_getBytes a0 a1 a2 a3 h = some (r, h1) → gk_M (d + 1) y_St_getBytes b_St_getBytes 4 none [va_rf a0, va_rf a1, .int a2, .int a3] h (.inl (gv_V r)) h1 :=
  fun r h1 e => gk_M_of2 (by decide +kernel) (by simp [lv_args, gk_cat_rf, gk_catI, gk_catJ, gk_catD, gv_V, gv_I, gv_J, gv_D, gv_R]) (by simp [lg_sl, gk_cat_rf, gk_catI, gk_catJ, gk_catD, gv_V, gv_I, gv_J, gv_D, gv_R]) (w_St_getBytes d a0 a1 a2 a3 h r h1 e)
theorem d_AB_putStringAt_0 : decode b_AB_putStringAt 0 = .ok (.aload_n 0, 1) := by decide +kernel
theorem d_AB_putStringAt_1 : decode b_AB_putStringAt 1 = .ok (.aload_n 2, 1) := by decide +kernel
theorem d_AB_putStringAt_2 : decode b_AB_putStringAt 2 = .ok (.invokevirtual 397, 3) := by decide +kernel
theorem d_AB_putStringAt_5 : decode b_AB_putStringAt 5 = .ok (.aload_n 2, 1) := by decide +kernel
theorem d_AB_putStringAt_6 : decode b_AB_putStringAt 6 = .ok (.aload_n 0, 1) := by decide +kernel
theorem d_AB_putStringAt_7 : decode b_AB_putStringAt 7 = .ok (.getfield 15, 3) := by decide +kernel
theorem d_AB_putStringAt_10 : decode b_AB_putStringAt 10 = .ok (.iload_n 1, 1) := by decide +kernel
theorem d_AB_putStringAt_11 : decode b_AB_putStringAt 11 = .ok (.aload_n 0, 1) := by decide +kernel
theorem d_AB_putStringAt_12 : decode b_AB_putStringAt 12 = .ok (.getfield 22, 3) := by decide +kernel
theorem d_AB_putStringAt_15 : decode b_AB_putStringAt 15 = .ok (.invokevirtual 399, 3) := by decide +kernel
theorem d_AB_putStringAt_18 : decode b_AB_putStringAt 18 = .ok (.return_, 1) := by decide +kernel
theorem w_AB_putStringAt (d : Nat) (a0 : Option Nat) (a1 : Int32) (a2 : Option Nat) (h : gk_H) : gk_P gw_V (d + 2) y_AB_putStringAt b_AB_putStringAt 3 none [] (f_AB_putStringAt a0 a1 a2 h) 0 [(0, va_rf a0), (1, .int a1), (2, va_rf a2)] [] h := by
  unfold f_AB_putStringAt
  refine gk_aload_n (pc := 0) 0 d_AB_putStringAt_0 rfl ?_
  refine gk_aload_n (pc := 1) 2 d_AB_putStringAt_1 rfl ?_
  refine gk_callU (pc := 2) (d := (d + 1)) (w' := gv_V) (as := [va_rf a2]) (n := 1) 1 d_AB_putStringAt_2 rfl rfl rfl (Nat.le_of_ble_eq_true rfl) tw_625 tw_2192 tw_627 tw_3 tw_92 cw_AB_inflateIfNeededFor hy_AB_inflateIfNeededFor (Nat.le_of_ble_eq_true rfl) (p_AB_inflateIfNeededFor d a0 a2 h) fun _ h1 => ?_
  refine gk_aload_n (pc := 5) 2 d_AB_putStringAt_5 rfl ?_
  refine gk_aload_n (pc := 6) 0 d_AB_putStringAt_6 rfl ?_
  refine gk_getR (pc := 7) 1 0 d_AB_putStringAt_7 rfl (Nat.le_of_ble_eq_true rfl) tw_153 fun x1 => ?_
  refine gk_iload_n (pc := 10) 1 d_AB_putStringAt_10 rfl ?_
  refine gk_aload_n (pc := 11) 0 d_AB_putStringAt_11 rfl ?_
  refine gk_getI (pc := 12) 1 1 d_AB_putStringAt_12 rfl (Nat.le_of_ble_eq_true rfl) tw_154 fun x2 => ?_
  refine gk_callV (pc := 15) (d := (d + 1)) (w' := gv_V) (as := [va_rf x1, .int a1, .int x2]) (n := 3) 0 d_AB_putStringAt_15 rfl rfl rfl rfl (Nat.le_of_ble_eq_true rfl) tw_630 tw_631 tw_632 tw_94 cw_St_getBytes hy_St_getBytes (Nat.le_of_ble_eq_true rfl) (p_St_getBytes d a2 x1 a1 x2 h1) fun _ h2 => ?_
  exact gk_vret (pc := 18) rfl d_AB_putStringAt_18 rfl
theorem p_AB_putStringAt (d : Nat) (a0 : Option Nat) (a1 : Int32) (a2 : Option Nat) (h : gk_H) : ∀ r h1, f_AB_putStringAt a0 a1 a2 h = some (r, h1) → gk_M (d + 2) y_AB_putStringAt b_AB_putStringAt 3 none [va_rf a0, .int a1, va_rf a2] h (.inl (gv_V r)) h1 :=
  fun r h1 e => gk_M_of2 (by decide +kernel) (by simp [lv_args, gk_cat_rf, gk_catI, gk_catJ, gk_catD, gv_V, gv_I, gv_J, gv_D, gv_R]) (by simp [lg_sl, gk_cat_rf, gk_catI, gk_catJ, gk_catD, gv_V, gv_I, gv_J, gv_D, gv_R]) (w_AB_putStringAt d a0 a1 a2 h r h1 e)
theorem d_AB_append_String_0 : decode b_AB_append_String 0 = .ok (.aload_n 1, 1) := by decide +kernel
theorem d_AB_append_String_1 : decode b_AB_append_String 1 = .ok (.ifnonnull 8, 3) := by decide +kernel
theorem d_AB_append_String_9 : decode b_AB_append_String 9 = .ok (.aload_n 1, 1) := by decide +kernel
theorem d_AB_append_String_10 : decode b_AB_append_String 10 = .ok (.invokevirtual 32, 3) := by decide +kernel
theorem d_AB_append_String_13 : decode b_AB_append_String 13 = .ok (.istore_n 2, 1) := by decide +kernel
theorem d_AB_append_String_14 : decode b_AB_append_String 14 = .ok (.aload_n 0, 1) := by decide +kernel
theorem d_AB_append_String_15 : decode b_AB_append_String 15 = .ok (.aload_n 0, 1) := by decide +kernel
theorem d_AB_append_String_16 : decode b_AB_append_String 16 = .ok (.getfield 79, 3) := by decide +kernel
theorem d_AB_append_String_19 : decode b_AB_append_String 19 = .ok (.iload_n 2, 1) := by decide +kernel
theorem d_AB_append_String_20 : decode b_AB_append_String 20 = .ok (.iadd, 1) := by decide +kernel
theorem d_AB_append_String_21 : decode b_AB_append_String 21 = .ok (.invokevirtual 100, 3) := by decide +kernel
theorem d_AB_append_String_24 : decode b_AB_append_String 24 = .ok (.aload_n 0, 1) := by decide +kernel
theorem d_AB_append_String_25 : decode b_AB_append_String 25 = .ok (.aload_n 0, 1) := by decide +kernel
theorem d_AB_append_String_26 : decode b_AB_append_String 26 = .ok (.getfield 79, 3) := by decide +kernel
theorem d_AB_append_String_29 : decode b_AB_append_String 29 = .ok (.aload_n 1, 1) := by decide +kernel
theorem d_AB_append_String_30 : decode b_AB_append_String 30 = .ok (.invokevirtual 208, 3) := by decide +kernel
theorem d_AB_append_String_33 : decode b_AB_append_String 33 = .ok (.aload_n 0, 1) := by decide +kernel
theorem d_AB_append_String_34 : decode b_AB_append_String 34 = .ok (.dup, 1) := by decide +kernel
theorem d_AB_append_String_35 : decode b_AB_append_String 35 = .ok (.getfield 79, 3) := by decide +kernel
theorem d_AB_append_String_38 : decode b_AB_append_String 38 = .ok (.iload_n 2, 1) := by decide +kernel
theorem d_AB_append_String_39 : decode b_AB_append_String 39 = .ok (.iadd, 1) := by decide +kernel
theorem d_AB_append_String_40 : decode b_AB_append_String 40 = .ok (.putfield 79, 3) := by decide +kernel
theorem d_AB_append_String_43 : decode b_AB_append_String 43 = .ok (.aload_n 0, 1) := by decide +kernel
theorem d_AB_append_String_44 : decode b_AB_append_String 44 = .ok (.areturn, 1) := by decide +kernel
theorem w_AB_append_String (d : Nat) (a0 : Option Nat) (a1 : Option Nat) (h : gk_H) : gk_P gw_R (d + 4) y_AB_append_String b_AB_append_String 3 (some (.object "java/lang/AbstractStringBuilder")) [] (f_AB_append_String a0 a1 h) 0 [(0, va_rf a0), (1, va_rf a1)] [] h := by
  unfold f_AB_append_String
  refine gk_aload_n (pc := 0) 1 d_AB_append_String_0 rfl ?_
  refine gk_ifnonnull (pc := 1) 9 d_AB_append_String_1 rfl (fun _ => ?_) (fun _ => ?_)
  · refine gk_aload_n (pc := 9) 1 d_AB_append_String_9 rfl ?_
    refine gk_callV (pc := 10) (d := (d + 3)) (w' := gv_I) (as := []) (n := 0) 0 d_AB_append_String_10 rfl rfl rfl rfl (Nat.le_of_ble_eq_true rfl) tw_612 tw_613 tw_614 tw_94 cw_St_length hy_St_length (Nat.le_of_ble_eq_true rfl) (p_St_length (d + 2) a1 h) fun x1 h1 => ?_
    refine gk_istore_n (pc := 13) (L' := [(2, .int x1), (0, va_rf a0), (1, va_rf a1)]) d_AB_append_String_13 (Nat.le_of_ble_eq_true rfl) (by simp [gk_s1, gk_s2, gk_cat_rf, gk_catI, gk_catJ, gk_catD] <;> decide) ?_
    refine gk_aload_n (pc := 14) 1 d_AB_append_String_14 rfl ?_
    refine gk_aload_n (pc := 15) 1 d_AB_append_String_15 rfl ?_
    refine gk_getI (pc := 16) 1 3 d_AB_append_String_16 rfl (Nat.le_of_ble_eq_true rfl) tw_157 fun x2 => ?_
    refine gk_iload_n (pc := 19) 0 d_AB_append_String_19 rfl ?_
    refine gk_iadd (pc := 20) d_AB_append_String_20 ?_
    refine gk_callU (pc := 21) (d := (d + 3)) (w' := gv_V) (as := [.int (x2 + x1)]) (n := 1) 1 d_AB_append_String_21 rfl rfl rfl (Nat.le_of_ble_eq_true rfl) tw_436 tw_2184 tw_438 tw_0 tw_92 cw_AB_ensureCapacityInternal hy_AB_ensureCapacityInternal (Nat.le_of_ble_eq_true rfl) (p_AB_ensureCapacityInternal d a0 (x2 + x1) h1) fun _ h2 => ?_
    refine gk_aload_n (pc := 24) 1 d_AB_append_String_24 rfl ?_
    refine gk_aload_n (pc := 25) 1 d_AB_append_String_25 rfl ?_
    refine gk_getI (pc := 26) 1 3 d_AB_append_String_26 rfl (Nat.le_of_ble_eq_true rfl) tw_157 fun x3 => ?_
    refine gk_aload_n (pc := 29) 2 d_AB_append_String_29 rfl ?_
    refine gk_callU (pc := 30) (d := (d + 3)) (w' := gv_V) (as := [.int x3, va_rf a1]) (n := 2) 1 d_AB_append_String_30 rfl rfl rfl (Nat.le_of_ble_eq_true rfl) tw_621 tw_2191 tw_623 tw_2 tw_92 cw_AB_putStringAt hy_AB_putStringAt (Nat.le_of_ble_eq_true rfl) (p_AB_putStringAt (d + 1) a0 x3 a1 h2) fun _ h3 => ?_
    refine gk_aload_n (pc := 33) 1 d_AB_append_String_33 rfl ?_
    refine gk_dup (pc := 34) d_AB_append_String_34 (gk_cat_rf _) ?_
    refine gk_getI (pc := 35) 1 3 d_AB_append_String_35 rfl (Nat.le_of_ble_eq_true rfl) tw_157 fun x4 => ?_
    refine gk_iload_n (pc := 38) 0 d_AB_append_String_38 rfl ?_
    refine gk_iadd (pc := 39) d_AB_append_String_39 ?_
    refine gk_putfield (pc := 40) 1 3 d_AB_append_String_40 rfl (Nat.le_of_ble_eq_true rfl) tw_157 (Or.inl rfl) fun h4 => ?_
    refine gk_aload_n (pc := 43) 1 d_AB_append_String_43 rfl ?_
    exact gk_aret (pc := 44) rfl d_AB_append_String_44 rfl (Or.inl ⟨_, rfl⟩)
  · exact gk_none
theorem p_AB_append_String (d : Nat) (a0 : Option Nat) (a1 : Option Nat) (h : gk_H) : ∀ r h1, f_AB_append_String a0 a1 h = some (r, h1) → gk_M (d + 4) y_AB_append_String b_AB_append_String 3 (some (.object "java/lang/AbstractStringBuilder")) [va_rf a0, va_rf a1] h (.inl (gv_R r)) h1 :=
  fun r h1 e => gk_M_of2 (by decide +kernel) (by simp [lv_args, gk_cat_rf, gk_catI, gk_catJ, gk_catD, gv_V, gv_I, gv_J, gv_D, gv_R]) (by simp [lg_sl, gk_cat_rf, gk_catI, gk_catJ, gk_catD, gv_V, gv_I, gv_J, gv_D, gv_R]) (w_AB_append_String d a0 a1 h r h1 e)
theorem d_SB_append_String_0 : decode b_SB_append_String 0 = .ok (.aload_n 0, 1) := by decide +kernel
theorem d_SB_append_String_1 : decode b_SB_append_String 1 = .ok (.aload_n 1, 1) := by decide +kernel
theorem d_SB_append_String_2 : decode b_SB_append_String 2 = .ok (.invokespecial 29, 3) := by decide +kernel
theorem d_SB_append_String_5 : decode b_SB_append_String 5 = .ok (.pop, 1) := by decide +kernel
theorem d_SB_append_String_6 : decode b_SB_append_String 6 = .ok (.aload_n 0, 1) := by decide +kernel
theorem d_SB_append_String_7 : decode b_SB_append_String 7 = .ok (.areturn, 1) := by decide +kernel
theorem w_SB_append_String (d : Nat) (a0 : Option Nat) (a1 : Option Nat) (h : gk_H) : gk_P gw_R (d + 5) y_SB_append_String b_SB_append_String 2 (some (.object "java/lang/StringBuilder")) [] (f_SB_append_String a0 a1 h) 0 [(0, va_rf a0), (1, va_rf a1)] [] h := by
  unfold f_SB_append_String
  refine gk_aload_n (pc := 0) 0 d_SB_append_String_0 rfl ?_
  refine gk_aload_n (pc := 1) 1 d_SB_append_String_1 rfl ?_
  refine gk_callSU (pc := 2) (d := (d + 4)) (w' := gv_R) (as := [va_rf a1]) (n := 1) 1 d_SB_append_String_2 rfl rfl rfl (Nat.le_of_ble_eq_true rfl) tw_602 tw_2189 tw_166 tw_603 tw_92 cw_AB_append_String hs_AB_append_String (Nat.le_of_ble_eq_true rfl) (p_AB_append_String d a0 a1 h) fun x1 h1 => ?_
  refine gk_pop (pc := 5) d_SB_append_String_5 (gk_cat_rf _) ?_
  refine gk_aload_n (pc := 6) 0 d_SB_append_String_6 rfl ?_
  exact gk_aret (pc := 7) rfl d_SB_append_String_7 rfl (Or.inl ⟨_, rfl⟩)
theorem p_SB_append_String (d : Nat) (a0 : Option Nat) (a1 : Option Nat) (h : gk_H) : ∀ r h1, f_SB_append_String a0 a1 h = some (r, h1) → gk_M (d + 5) y_SB_append_String b_SB_append_String 2 (some (.object "java/lang/StringBuilder")) [va_rf a0, va_rf a1] h (.inl (gv_R r)) h1 :=
  fun r h1 e => gk_M_of2 (by decide +kernel) (by simp [lv_args, gk_cat_rf, gk_catI, gk_catJ, gk_catD, gv_V, gv_I, gv_J, gv_D, gv_R]) (by simp [lg_sl, gk_cat_rf, gk_catI, gk_catJ, gk_catD, gv_V, gv_I, gv_J, gv_D, gv_R]) (w_SB_append_String d a0 a1 h r h1 e)
theorem d_St_isEmpty_0 : decode b_St_isEmpty 0 = .ok (.aload_n 0, 1) := by decide +kernel
theorem d_St_isEmpty_1 : decode b_St_isEmpty 1 = .ok (.getfield 9, 3) := by decide +kernel
theorem d_St_isEmpty_4 : decode b_St_isEmpty 4 = .ok (.arraylength, 1) := by decide +kernel
theorem d_St_isEmpty_5 : decode b_St_isEmpty 5 = .ok (.ifCond .ne 7, 3) := by decide +kernel
theorem d_St_isEmpty_8 : decode b_St_isEmpty 8 = .ok (.iconst 1, 1) := by decide +kernel
theorem d_St_isEmpty_9 : decode b_St_isEmpty 9 = .ok (.goto 4, 3) := by decide +kernel
theorem d_St_isEmpty_12 : decode b_St_isEmpty 12 = .ok (.iconst 0, 1) := by decide +kernel
theorem d_St_isEmpty_13 : decode b_St_isEmpty 13 = .ok (.ireturn, 1) := by decide +kernel
theorem p_St_isEmpty_b13 (d : Nat)  (s0 : Int32) (h : gk_H) : gk_P gw_I d y_St_isEmpty b_St_isEmpty 1 (some .boolean) [] (f_St_isEmpty_b13  s0 h) 13 [] [.int s0] h := by
  unfold f_St_isEmpty_b13
  exact gk_zret (pc := 13) rfl d_St_isEmpty_13 rfl
theorem w_St_isEmpty (d : Nat) (a0 : Option Nat) (h : gk_H) : gk_P gw_I d y_St_isEmpty b_St_isEmpty 1 (some .boolean) [] (f_St_isEmpty a0 h) 0 [(0, va_rf a0)] [] h := by
  unfold f_St_isEmpty
  refine gk_aload_n (pc := 0) 0 d_St_isEmpty_0 rfl ?_
  refine gk_getR (pc := 1) 0 0 d_St_isEmpty_1 rfl (Nat.le_of_ble_eq_true rfl) tw_651 fun x1 => ?_
  refine gk_alen (pc := 4) d_St_isEmpty_4 fun x2 => ?_
  refine gk_if_ne (pc := 5) 12 d_St_isEmpty_5 rfl (fun _ => ?_) (fun _ => ?_)
  · refine gk_iconst (pc := 8) (1 : Int32) d_St_isEmpty_8 rfl ?_
    refine gk_goto (pc := 9) 13 d_St_isEmpty_9 rfl ?_
    refine gk_weak [] (L' := []) rfl ?_
    exact p_St_isEmpty_b13 d (1 : Int32) h
  · refine gk_iconst (pc := 12) (0 : Int32) d_St_isEmpty_12 rfl ?_
    refine gk_weak [] (L' := []) rfl ?_
    exact p_St_isEmpty_b13 d (0 : Int32) h
theorem p_St_isEmpty (d : Nat) (a0 : Option Nat) (h : gk_H) : ∀ r h1, f_St_isEmpty a0 h = some (r, h1) → gk_M d y_St_isEmpty b_St_isEmpty 1 (some .boolean) [va_rf a0] h (.inl (gv_I r)) h1 :=
  fun r h1 e => gk_M_of2 (by decide +kernel) (by simp [lv_args, gk_cat_rf, gk_catI, gk_catJ, gk_catD, gv_V, gv_I, gv_J, gv_D, gv_R]) (by simp [lg_sl, gk_cat_rf, gk_catI, gk_catJ, gk_catD, gv_V, gv_I, gv_J, gv_D, gv_R]) (w_St_isEmpty d a0 h r h1 e)
theorem d_Pr_checkFromToIndex_0 : decode b_Pr_checkFromToIndex 0 = .ok (.iload_n 0, 1) := by decide +kernel
theorem d_Pr_checkFromToIndex_1 : decode b_Pr_checkFromToIndex 1 = .ok (.ifCond .lt 13, 3) := by decide +kernel
theorem d_Pr_checkFromToIndex_4 : decode b_Pr_checkFromToIndex 4 = .ok (.iload_n 0, 1) := by decide +kernel
theorem d_Pr_checkFromToIndex_5 : decode b_Pr_checkFromToIndex 5 = .ok (.iload_n 1, 1) := by decide +kernel
theorem d_Pr_checkFromToIndex_6 : decode b_Pr_checkFromToIndex 6 = .ok (.if_icmp .gt 8, 3) := by decide +kernel
theorem d_Pr_checkFromToIndex_9 : decode b_Pr_checkFromToIndex 9 = .ok (.iload_n 1, 1) := by decide +kernel
theorem d_Pr_checkFromToIndex_10 : decode b_Pr_checkFromToIndex 10 = .ok (.iload_n 2, 1) := by decide +kernel
theorem d_Pr_checkFromToIndex_11 : decode b_Pr_checkFromToIndex 11 = .ok (.if_icmp .le 11, 3) := by decide +kernel
theorem d_Pr_checkFromToIndex_22 : decode b_Pr_checkFromToIndex 22 = .ok (.iload_n 0, 1) := by decide +kernel
theorem d_Pr_checkFromToIndex_23 : decode b_Pr_checkFromToIndex 23 = .ok (.ireturn, 1) := by decide +kernel
theorem w_Pr_checkFromToIndex (d : Nat) (a0 : Int32) (a1 : Int32) (a2 : Int32) (a3 : Option Nat) (h : gk_H) : gk_P gw_I d y_Pr_checkFromToIndex b_Pr_checkFromToIndex 4 (some .int) [] (f_Pr_checkFromToIndex a0 a1 a2 a3 h) 0 [(0, .int a0), (1, .int a1), (2, .int a2), (3, va_rf a3)] [] h := by
  unfold f_Pr_checkFromToIndex
  refine gk_iload_n (pc := 0) 0 d_Pr_checkFromToIndex_0 rfl ?_
  refine gk_if_lt (pc := 1) 14 d_Pr_checkFromToIndex_1 rfl (fun _ => ?_) (fun _ => ?_)
  · exact gk_none
  · refine gk_iload_n (pc := 4) 0 d_Pr_checkFromToIndex_4 rfl ?_
    refine gk_iload_n (pc := 5) 1 d_Pr_checkFromToIndex_5 rfl ?_
    refine gk_icmp_gt (pc := 6) 14 d_Pr_checkFromToIndex_6 rfl (fun _ => ?_) (fun _ => ?_)
    · exact gk_none
    · refine gk_iload_n (pc := 9) 1 d_Pr_checkFromToIndex_9 rfl ?_
      refine gk_iload_n (pc := 10) 2 d_Pr_checkFromToIndex_10 rfl ?_
      refine gk_icmp_le (pc := 11) 22 d_Pr_checkFromToIndex_11 rfl (fun _ => ?_) (fun _ => ?_)
      · refine gk_iload_n (pc := 22) 0 d_Pr_checkFromToIndex_22 rfl ?_
        exact gk_iret (pc := 23) rfl d_Pr_checkFromToIndex_23 rfl
      · exact gk_none
theorem p_Pr_checkFromToIndex (d : Nat) (a0 : Int32) (a1 : Int32) (a2 : Int32) (a3 : Option Nat) (h : gk_H) : ∀ r h1, f_Pr_checkFromToIndex a0 a1 a2 a3 h = some (r, h1) → gk_M d y_Pr_checkFromToIndex b_Pr_checkFromToIndex 4 (some .int) [.int a0, .int a1, .int a2, va_rf a3] h (.inl (gv_I r)) h1 :=
  fun r h1 e => gk_M_of2 (by decide +kernel) (by simp [lv_args, gk_cat_rf, gk_catI, gk_catJ, gk_catD, gv_V, gv_I, gv_J, gv_D, gv_R]) (by simp [lg_sl, gk_cat_rf, gk_catI, gk_catJ, gk_catD, gv_V, gv_I, gv_J, gv_D, gv_R]) (w_Pr_checkFromToIndex d a0 a1 a2 a3 h r h1 e)
theorem d_St_checkBoundsBeginEnd_0 : decode b_St_checkBoundsBeginEnd 0 = .ok (.iload_n 0, 1) := by decide +kernel
theorem d_St_checkBoundsBeginEnd_1 : decode b_St_checkBoundsBeginEnd 1 = .ok (.iload_n 1, 1) := by decide +kernel
theorem d_St_checkBoundsBeginEnd_2 : decode b_St_checkBoundsBeginEnd 2 = .ok (.iload_n 2, 1) := by decide +kernel
theorem d_St_checkBoundsBeginEnd_3 : decode b_St_checkBoundsBeginEnd 3 = .ok (.getstatic 1053, 3) := by decide +kernel
theorem d_St_checkBoundsBeginEnd_6 : decode b_St_checkBoundsBeginEnd 6 = .ok (.invokestatic 1062, 3) := by decide +kernel
theorem d_St_checkBoundsBeginEnd_9 : decode b_St_checkBoundsBeginEnd 9 = .ok (.pop, 1) := by decide +kernel
theorem d_St_checkBoundsBeginEnd_10 : decode b_St_checkBoundsBeginEnd 10 = .ok (.return_, 1) := by decide +kernel
theorem w_St_checkBoundsBeginEnd (d : Nat) (a0 : Int32) (a1 : Int32) (a2 : Int32) (h : gk_H) : gk_P gw_V (d + 1) y_St_checkBoundsBeginEnd b_St_checkBoundsBeginEnd 3 none [] (f_St_checkBoundsBeginEnd a0 a1 a2 h) 0 [(0, .int a0), (1, .int a1), (2, .int a2)] [] h := by
  unfold f_St_checkBoundsBeginEnd
  refine gk_iload_n (pc := 0) 0 d_St_checkBoundsBeginEnd_0 rfl ?_
  refine gk_iload_n (pc := 1) 1 d_St_checkBoundsBeginEnd_1 rfl ?_
  refine gk_iload_n (pc := 2) 2 d_St_checkBoundsBeginEnd_2 rfl ?_
  refine gk_gsR (pc := 3) 1 d_St_checkBoundsBeginEnd_3 rfl tw_498 fun x1 => ?_
  refine gk_callS (pc := 6) (d := d) (w' := gv_I) (as := [.int a0, .int a1, .int a2, va_rf x1]) (n := 4) d_St_checkBoundsBeginEnd_6 rfl rfl (Nat.le_of_ble_eq_true rfl) tw_589 tw_590 tw_110 cw_Pr_checkFromToIndex hy_Pr_checkFromToIndex (Nat.le_of_ble_eq_true rfl) (p_Pr_checkFromToIndex d a0 a1 a2 x1 h) fun x2 h1 => ?_
  refine gk_pop (pc := 9) d_St_checkBoundsBeginEnd_9 rfl ?_
  exact gk_vret (pc := 10) rfl d_St_checkBoundsBeginEnd_10 rfl
theorem p_St_checkBoundsBeginEnd (d : Nat) (a0 : Int32) (a1 : Int32) (a2 : Int32) (h : gk_H) : ∀ r h1, f_St_checkBoundsBeginEnd a0 a1 a2 h = some (r, h1) → gk_M (d + 1) y_St_checkBoundsBeginEnd b_St_checkBoundsBeginEnd 3 none [.int a0, .int a1, .int a2] h (.inl (gv_V r)) h1 :=
  fun r h1 e => gk_M_of2 (by decide +kernel) (by simp [lv_args, gk_cat_rf, gk_catI, gk_catJ, gk_catD, gv_V, gv_I, gv_J, gv_D, gv_R]) (by simp [lg_sl, gk_cat_rf, gk_catI, gk_catJ, gk_catD, gv_V, gv_I, gv_J, gv_D, gv_R]) (w_St_checkBoundsBeginEnd d a0 a1 a2 h r h1 e)
theorem d_St_init_aBB_0 : decode b_St_init_aBB 0 = .ok (.aload_n 0, 1) := by decide +kernel
theorem d_St_init_aBB_1 : decode b_St_init_aBB 1 = .ok (.invokespecial 1, 3) := by decide +kernel
theorem d_St_init_aBB_4 : decode b_St_init_aBB 4 = .ok (.aload_n 0, 1) := by decide +kernel
theorem d_St_init_aBB_5 : decode b_St_init_aBB 5 = .ok (.aload_n 1, 1) := by decide +kernel
theorem d_St_init_aBB_6 : decode b_St_init_aBB 6 = .ok (.putfield 9, 3) := by decide +kernel
theorem d_St_init_aBB_9 : decode b_St_init_aBB 9 = .ok (.aload_n 0, 1) := by decide +kernel
theorem d_St_init_aBB_10 : decode b_St_init_aBB 10 = .ok (.iload_n 2, 1) := by decide +kernel
theorem d_St_init_aBB_11 : decode b_St_init_aBB 11 = .ok (.putfield 15, 3) := by decide +kernel
theorem d_St_init_aBB_14 : decode b_St_init_aBB 14 = .ok (.return_, 1) := by decide +kernel
theorem w_St_init_aBB (d : Nat) (a0 : Option Nat) (a1 : Option Nat) (a2 : Int32) (h : gk_H) : gk_P gw_V (d + 1) y_St_init_aBB b_St_init_aBB 3 none [] (f_St_init_aBB a0 a1 a2 h) 0 [(0, va_rf a0), (1, va_rf a1), (2, .int a2)] [] h := by
  unfold f_St_init_aBB
  refine gk_aload_n (pc := 0) 0 d_St_init_aBB_0 rfl ?_
  refine gk_objI (pc := 1) (d := d) d_St_init_aBB_1 tw_543 (Nat.le_of_ble_eq_true rfl) ?_
  refine gk_aload_n (pc := 4) 0 d_St_init_aBB_4 rfl ?_
  refine gk_aload_n (pc := 5) 1 d_St_init_aBB_5 rfl ?_
  refine gk_putfield (pc := 6) 0 0 d_St_init_aBB_6 rfl (Nat.le_of_ble_eq_true rfl) tw_651 (Or.inr ⟨rfl, rfl⟩) fun h1 => ?_
  refine gk_aload_n (pc := 9) 0 d_St_init_aBB_9 rfl ?_
  refine gk_iload_n (pc := 10) 2 d_St_init_aBB_10 rfl ?_
  refine gk_putfield (pc := 11) 0 1 d_St_init_aBB_11 rfl (Nat.le_of_ble_eq_true rfl) tw_652 (Or.inr ⟨rfl, rfl⟩) fun h2 => ?_
  exact gk_vret (pc := 14) rfl d_St_init_aBB_14 rfl
theorem p_St_init_aBB (d : Nat) (a0 : Option Nat) (a1 : Option Nat) (a2 : Int32) (h : gk_H) : ∀ r h1, f_St_init_aBB a0 a1 a2 h = some (r, h1) → gk_M (d + 1) y_St_init_aBB b_St_init_aBB 3 none [va_rf a0, va_rf a1, .int a2] h (.inl (gv_V r)) h1 :=
  fun r h1 e => gk_M_of2 (by decide +kernel) (by simp [lv_args, gk_cat_rf, gk_catI, gk_catJ, gk_catD, gv_V, gv_I, gv_J, gv_D, gv_R]) (by simp [lg_sl, gk_cat_rf, gk_catI, gk_catJ, gk_catD, gv_V, gv_I, gv_J, gv_D, gv_R]) (w_St_init_aBB d a0 a1 a2 h r h1 e)
theorem d_S1_newString_0 : decode b_S1_newString 0 = .ok (.iload_n 2, 1) := by decide +kernel
theorem d_S1_newString_1 : decode b_S1_newString 1 = .ok (.ifCond .ne 6, 3) := by decide +kernel
theorem d_S1_newString_4 : decode b_S1_newString 4 = .ok (.ldc 151, 2) := by decide +kernel
theorem d_S1_newString_6 : decode b_S1_newString 6 = .ok (.areturn, 1) := by decide +kernel
theorem d_S1_newString_7 : decode b_S1_newString 7 = .ok (.new 1, 3) := by decide +kernel
theorem d_S1_newString_10 : decode b_S1_newString 10 = .ok (.dup, 1) := by decide +kernel
theorem d_S1_newString_11 : decode b_S1_newString 11 = .ok (.aload_n 0, 1) := by decide +kernel
theorem d_S1_newString_12 : decode b_S1_newString 12 = .ok (.iload_n 1, 1) := by decide +kernel
theorem d_S1_newString_13 : decode b_S1_newString 13 = .ok (.iload_n 1, 1) := by decide +kernel
theorem d_S1_newString_14 : decode b_S1_newString 14 = .ok (.iload_n 2, 1) := by decide +kernel
theorem d_S1_newString_15 : decode b_S1_newString 15 = .ok (.iadd, 1) := by decide +kernel
theorem d_S1_newString_16 : decode b_S1_newString 16 = .ok (.invokestatic 232, 3) := by decide +kernel
theorem d_S1_newString_19 : decode b_S1_newString 19 = .ok (.iconst 0, 1) := by decide +kernel
theorem d_S1_newString_20 : decode b_S1_newString 20 = .ok (.invokespecial 112, 3) := by decide +kernel
theorem d_S1_newString_23 : decode b_S1_newString 23 = .ok (.areturn, 1) := by decide +kernel
theorem w_S1_newString (d : Nat) (a0 : Option Nat) (a1 : Int32) (a2 : Int32) (h : gk_H) : gk_P gw_R (d + 3) y_S1_newString b_S1_newString 3 (some (.object "java/lang/String")) [] (f_S1_newString a0 a1 a2 h) 0 [(0, va_rf a0), (1, .int a1), (2, .int a2)] [] h := by
  unfold f_S1_newString
  refine gk_iload_n (pc := 0) 2 d_S1_newString_0 rfl ?_
  refine gk_if_ne (pc := 1) 7 d_S1_newString_1 rfl (fun _ => ?_) (fun _ => ?_)
  · refine gk_ldcS (pc := 4) "" 12 d_S1_newString_4 (by decide +kernel) ?_
    exact gk_aret (pc := 6) rfl d_S1_newString_6 rfl (Or.inl ⟨_, rfl⟩)
  · refine gk_newO (pc := 7) 0 4 d_S1_newString_7 rfl tw_1132 tw_536 tw_94 fun x1 h1 => ?_
    refine gk_dup (pc := 10) d_S1_newString_10 (gk_cat_rf _) ?_
    refine gk_aload_n (pc := 11) 0 d_S1_newString_11 rfl ?_
    refine gk_iload_n (pc := 12) 1 d_S1_newString_12 rfl ?_
    refine gk_iload_n (pc := 13) 1 d_S1_newString_13 rfl ?_
    refine gk_iload_n (pc := 14) 2 d_S1_newString_14 rfl ?_
    refine gk_iadd (pc := 15) d_S1_newString_15 ?_
    refine gk_callS (pc := 16) (d := (d + 2)) (w' := gv_R) (as := [va_rf a0, .int a1, .int (a1 + a2)]) (n := 3) d_S1_newString_16 rfl rfl (by simp [gk_cat_rf, gk_catI, gk_catJ, gk_catD, gv_V, gv_I, gv_J, gv_D, gv_R]) tw_1133 tw_552 tw_107 cw_Ya_copyOfRange hy_Ya_copyOfRange (Nat.le_of_ble_eq_true rfl) (p_Ya_copyOfRange d a0 a1 (a1 + a2) h1) fun x2 h2 => ?_
    refine gk_iconst (pc := 19) (0 : Int32) d_S1_newString_19 rfl ?_
    refine gk_callI (pc := 20) (d := (d + 2)) (w' := gv_V) (as := [va_rf x2, .int (0 : Int32)]) (n := 2) 0 d_S1_newString_20 rfl rfl (by simp [gk_cat_rf, gk_catI, gk_catJ, gk_catD, gv_V, gv_I, gv_J, gv_D, gv_R]) tw_1134 tw_1135 tw_94 cw_St_init_aBB rfl hy_St_init_aBB (Nat.le_of_ble_eq_true rfl) (p_St_init_aBB (d + 1) x1 x2 (0 : Int32) h2) fun _ h3 => ?_
    exact gk_aret (pc := 23) rfl d_S1_newString_23 rfl (Or.inl ⟨_, rfl⟩)
theorem p_S1_newString (d : Nat) (a0 : Option Nat) (a1 : Int32) (a2 : Int32) (h : gk_H) : ∀ r h1, f_S1_newString a0 a1 a2 h = some (r, h1) → gk_M (d + 3) y_S1_newString b_S1_newString 3 (some (.object "java/lang/String")) [va_rf a0, .int a1, .int a2] h (.inl (gv_R r)) h1 :=
  fun r h1 e => gk_M_of2 (by decide +kernel) (by simp [lv_args, gk_cat_rf, gk_catI, gk_catJ, gk_catD, gv_V, gv_I, gv_J, gv_D, gv_R]) (by simp [lg_sl, gk_cat_rf, gk_catI, gk_catJ, gk_catD, gv_V, gv_I, gv_J, gv_D, gv_R]) (w_S1_newString d a0 a1 a2 h r h1 e)
theorem d_St_substring_II_0 : decode b_St_substring_II 0 = .ok (.aload_n 0, 1) := by decide +kernel
theorem d_St_substring_II_1 : decode b_St_substring_II 1 = .ok (.invokevirtual 505, 3) := by decide +kernel
theorem d_St_substring_II_4 : decode b_St_substring_II 4 = .ok (.istore_n 3, 1) := by decide +kernel
theorem d_St_substring_II_5 : decode b_St_substring_II 5 = .ok (.iload_n 1, 1) := by decide +kernel
theorem d_St_substring_II_6 : decode b_St_substring_II 6 = .ok (.iload_n 2, 1) := by decide +kernel
theorem d_St_substring_II_7 : decode b_St_substring_II 7 = .ok (.iload_n 3, 1) := by decide +kernel
theorem d_St_substring_II_8 : decode b_St_substring_II 8 = .ok (.invokestatic 521, 3) := by decide +kernel
theorem d_St_substring_II_11 : decode b_St_substring_II 11 = .ok (.iload_n 1, 1) := by decide +kernel
theorem d_St_substring_II_12 : decode b_St_substring_II 12 = .ok (.ifCond .ne 10, 3) := by decide +kernel
theorem d_St_substring_II_15 : decode b_St_substring_II 15 = .ok (.iload_n 2, 1) := by decide +kernel
theorem d_St_substring_II_16 : decode b_St_substring_II 16 = .ok (.iload_n 3, 1) := by decide +kernel
theorem d_St_substring_II_17 : decode b_St_substring_II 17 = .ok (.if_icmp .ne 5, 3) := by decide +kernel
theorem d_St_substring_II_20 : decode b_St_substring_II 20 = .ok (.aload_n 0, 1) := by decide +kernel
theorem d_St_substring_II_21 : decode b_St_substring_II 21 = .ok (.areturn, 1) := by decide +kernel
theorem d_St_substring_II_22 : decode b_St_substring_II 22 = .ok (.iload_n 2, 1) := by decide +kernel
theorem d_St_substring_II_23 : decode b_St_substring_II 23 = .ok (.iload_n 1, 1) := by decide +kernel
theorem d_St_substring_II_24 : decode b_St_substring_II 24 = .ok (.isub, 1) := by decide +kernel
theorem d_St_substring_II_25 : decode b_St_substring_II 25 = .ok (.istore 4, 2) := by decide +kernel
theorem d_St_substring_II_27 : decode b_St_substring_II 27 = .ok (.aload_n 0, 1) := by decide +kernel
theorem d_St_substring_II_28 : decode b_St_substring_II 28 = .ok (.invokevirtual 492, 3) := by decide +kernel
theorem d_St_substring_II_31 : decode b_St_substring_II 31 = .ok (.ifCond .eq 16, 3) := by decide +kernel
theorem d_St_substring_II_34 : decode b_St_substring_II 34 = .ok (.aload_n 0, 1) := by decide +kernel
theorem d_St_substring_II_35 : decode b_St_substring_II 35 = .ok (.getfield 9, 3) := by decide +kernel
theorem d_St_substring_II_38 : decode b_St_substring_II 38 = .ok (.iload_n 1, 1) := by decide +kernel
theorem d_St_substring_II_39 : decode b_St_substring_II 39 = .ok (.iload 4, 2) := by decide +kernel
theorem d_St_substring_II_41 : decode b_St_substring_II 41 = .ok (.invokestatic 685, 3) := by decide +kernel
theorem d_St_substring_II_44 : decode b_St_substring_II 44 = .ok (.goto 13, 3) := by decide +kernel
theorem d_St_substring_II_57 : decode b_St_substring_II 57 = .ok (.areturn, 1) := by decide +kernel
theorem p_St_substring_II_b22 (d : Nat)  (v0 : Option Nat) (v1 : Int32) (v2 : Int32) (h : gk_H) : gk_P gw_R (d + 4) y_St_substring_II b_St_substring_II 5 (some (.object "java/lang/String")) [] (f_St_substring_II_b22  v0 v1 v2 h) 22 [(0, va_rf v0), (1, .int v1), (2, .int v2)] [] h := by
  unfold f_St_substring_II_b22
  refine gk_iload_n (pc := 22) 2 d_St_substring_II_22 rfl ?_
  refine gk_iload_n (pc := 23) 1 d_St_substring_II_23 rfl ?_
  refine gk_isub (pc := 24) d_St_substring_II_24 ?_
  refine gk_topI (pc := 25) fun x1 => ?_
  refine gk_istore (pc := 25) (L' := [(4, .int x1), (0, va_rf v0), (1, .int v1), (2, .int v2)]) d_St_substring_II_25 (Nat.le_of_ble_eq_true rfl) rfl ?_
  refine gk_aload_n (pc := 27) 1 d_St_substring_II_27 rfl ?_
  refine gk_callV (pc := 28) (d := (d + 3)) (w' := gv_I) (as := []) (n := 0) 0 d_St_substring_II_28 rfl rfl rfl rfl (Nat.le_of_ble_eq_true rfl) tw_814 tw_815 tw_816 tw_94 cw_St_isLatin1 hy_St_isLatin1 (Nat.le_of_ble_eq_true rfl) (p_St_isLatin1 (d + 3) v0 h) fun x2 h1 => ?_
  refine gk_if_eq (pc := 31) 47 d_St_substring_II_31 rfl (fun _ => ?_) (fun _ => ?_)
  · exact gk_none
  · refine gk_aload_n (pc := 34) 1 d_St_substring_II_34 rfl ?_
    refine gk_getR (pc := 35) 0 0 d_St_substring_II_35 rfl (Nat.le_of_ble_eq_true rfl) tw_651 fun x3 => ?_
    refine gk_iload_n (pc := 38) 2 d_St_substring_II_38 rfl ?_
    refine gk_iload (pc := 39) 0 d_St_substring_II_39 rfl ?_
    refine gk_callS (pc := 41) (d := (d + 3)) (w' := gv_R) (as := [va_rf x3, .int v1, .int x1]) (n := 3) d_St_substring_II_41 rfl rfl (Nat.le_of_ble_eq_true rfl) tw_1128 tw_1129 tw_109 cw_S1_newString hy_S1_newString (Nat.le_of_ble_eq_true rfl) (p_S1_newString d x3 v1 x1 h1) fun x4 h2 => ?_
    refine gk_goto (pc := 44) 57 d_St_substring_II_44 rfl ?_
    exact gk_aret (pc := 57) rfl d_St_substring_II_57 rfl (Or.inl ⟨_, rfl⟩)
theorem w_St_substring_II (d : Nat) (a0 : Option Nat) (a1 : Int32) (a2 : Int32) (h : gk_H) : gk_P gw_R (d + 4) y_St_substring_II b_St_substring_II 5 (some (.object "java/lang/String")) [] (f_St_substring_II a0 a1 a2 h) 0 [(0, va_rf a0), (1, .int a1), (2, .int a2)] [] h := by
  unfold f_St_substring_II
  refine gk_aload_n (pc := 0) 0 d_St_substring_II_0 rfl ?_
  refine gk_callV (pc := 1) (d := (d + 3)) (w' := gv_I) (as := []) (n := 0) 0 d_St_substring_II_1 rfl rfl rfl rfl (Nat.le_of_ble_eq_true rfl) tw_844 tw_613 tw_614 tw_94 cw_St_length hy_St_length (Nat.le_of_ble_eq_true rfl) (p_St_length (d + 2) a0 h) fun x1 h1 => ?_
  refine gk_istore_n (pc := 4) (L' := [(3, .int x1), (0, va_rf a0), (1, .int a1), (2, .int a2)]) d_St_substring_II_4 (Nat.le_of_ble_eq_true rfl) rfl ?_
  refine gk_iload_n (pc := 5) 2 d_St_substring_II_5 rfl ?_
  refine gk_iload_n (pc := 6) 3 d_St_substring_II_6 rfl ?_
  refine gk_iload_n (pc := 7) 0 d_St_substring_II_7 rfl ?_
  refine gk_callS (pc := 8) (d := (d + 3)) (w' := gv_V) (as := [.int a1, .int a2, .int x1]) (n := 3) d_St_substring_II_8 rfl rfl (Nat.le_of_ble_eq_true rfl) tw_1127 tw_587 tw_94 cw_St_checkBoundsBeginEnd hy_St_checkBoundsBeginEnd (Nat.le_of_ble_eq_true rfl) (p_St_checkBoundsBeginEnd (d + 2) a1 a2 x1 h1) fun _ h2 => ?_
  refine gk_iload_n (pc := 11) 2 d_St_substring_II_11 rfl ?_
  refine gk_if_ne (pc := 12) 22 d_St_substring_II_12 rfl (fun _ => ?_) (fun _ => ?_)
  · refine gk_iload_n (pc := 15) 3 d_St_substring_II_15 rfl ?_
    refine gk_iload_n (pc := 16) 0 d_St_substring_II_16 rfl ?_
    refine gk_icmp_ne (pc := 17) 22 d_St_substring_II_17 rfl (fun _ => ?_) (fun _ => ?_)
    · refine gk_aload_n (pc := 20) 1 d_St_substring_II_20 rfl ?_
      exact gk_aret (pc := 21) rfl d_St_substring_II_21 rfl (Or.inl ⟨_, rfl⟩)
    · refine gk_weak [1, 2, 3] (L' := [(0, va_rf a0), (1, .int a1), (2, .int a2)]) rfl ?_
      exact p_St_substring_II_b22 d a0 a1 a2 h2
  · refine gk_weak [1, 2, 3] (L' := [(0, va_rf a0), (1, .int a1), (2, .int a2)]) rfl ?_
    exact p_St_substring_II_b22 d a0 a1 a2 h2
theorem p_St_substring_II (d : Nat) (a0 : Option Nat) (a1 : Int32) (a2 : Int32) (h : gk_H) : ∀ r h1, f_St_substring_II a0 a1 a2 h = some (r, h1) → gk_M (d + 4) y_St_substring_II b_St_substring_II 5 (some (.object "java/lang/String")) [va_rf a0, .int a1, .int a2] h (.inl (gv_R r)) h1 :=
  fun r h1 e => gk_M_of2 (by decide +kernel) (by simp [lv_args, gk_cat_rf, gk_catI, gk_catJ, gk_catD, gv_V, gv_I, gv_J, gv_D, gv_R]) (by simp [lg_sl, gk_cat_rf, gk_catI, gk_catJ, gk_catD, gv_V, gv_I, gv_J, gv_D, gv_R]) (w_St_substring_II d a0 a1 a2 h r h1 e)
theorem d_St_substring_I_0 : decode b_St_substring_I 0 = .ok (.aload_n 0, 1) := by decide +kernel
theorem d_St_substring_I_1 : decode b_St_substring_I 1 = .ok (.iload_n 1, 1) := by decide +kernel
theorem d_St_substring_I_2 : decode b_St_substring_I 2 = .ok (.aload_n 0, 1) := by decide +kernel
theorem d_St_substring_I_3 : decode b_St_substring_I 3 = .ok (.invokevirtual 505, 3) := by decide +kernel
theorem d_St_substring_I_6 : decode b_St_substring_I 6 = .ok (.invokevirtual 681, 3) := by decide +kernel
theorem d_St_substring_I_9 : decode b_St_substring_I 9 = .ok (.areturn, 1) := by decide +kernel
theorem w_St_substring_I (d : Nat) (a0 : Option Nat) (a1 : Int32) (h : gk_H) : gk_P gw_R (d + 5) y_St_substring_I b_St_substring_I 2 (some (.object "java/lang/String")) [] (f_St_substring_I a0 a1 h) 0 [(0, va_rf a0), (1, .int a1)] [] h := by
  unfold f_St_substring_I
  refine gk_aload_n (pc := 0) 0 d_St_substring_I_0 rfl ?_
  refine gk_iload_n (pc := 1) 1 d_St_substring_I_1 rfl ?_
  refine gk_aload_n (pc := 2) 0 d_St_substring_I_2 rfl ?_
  refine gk_callV (pc := 3) (d := (d + 4)) (w' := gv_I) (as := []) (n := 0) 0 d_St_substring_I_3 rfl rfl rfl rfl (by simp [gk_cat_rf, gk_catI, gk_catJ, gk_catD, gv_V, gv_I, gv_J, gv_D, gv_R]) tw_844 tw_613 tw_614 tw_94 cw_St_length hy_St_length (Nat.le_of_ble_eq_true rfl) (p_St_length (d + 3) a0 h) fun x1 h1 => ?_
  refine gk_callV (pc := 6) (d := (d + 4)) (w' := gv_R) (as := [.int a1, .int x1]) (n := 2) 0 d_St_substring_I_6 rfl rfl rfl rfl (Nat.le_of_ble_eq_true rfl) tw_1123 tw_1124 tw_1125 tw_94 cw_St_substring_II hy_St_substring_II (Nat.le_of_ble_eq_true rfl) (p_St_substring_II d a0 a1 x1 h1) fun x2 h2 => ?_
  exact gk_aret (pc := 9) rfl d_St_substring_I_9 rfl (Or.inl ⟨_, rfl⟩)
theorem p_St_substring_I (d : Nat) (a0 : Option Nat) (a1 : Int32) (h : gk_H) : ∀ r h1, f_St_substring_I a0 a1 h = some (r, h1) → gk_M (d + 5) y_St_substring_I b_St_substring_I 2 (some (.object "java/lang/String")) [va_rf a0, .int a1] h (.inl (gv_R r)) h1 :=
  fun r h1 e => gk_M_of2 (by decide +kernel) (by simp [lv_args, gk_cat_rf, gk_catI, gk_catJ, gk_catD, gv_V, gv_I, gv_J, gv_D, gv_R]) (by simp [lg_sl, gk_cat_rf, gk_catI, gk_catJ, gk_catD, gv_V, gv_I, gv_J, gv_D, gv_R]) (w_St_substring_I d a0 a1 h r h1 e)
theorem d_S1_equals_0 : decode b_S1_equals 0 = .ok (.aload_n 0, 1) := by decide +kernel
theorem d_S1_equals_1 : decode b_S1_equals 1 = .ok (.arraylength, 1) := by decide +kernel
theorem d_S1_equals_2 : decode b_S1_equals 2 = .ok (.aload_n 1, 1) := by decide +kernel
theorem d_S1_equals_3 : decode b_S1_equals 3 = .ok (.arraylength, 1) := by decide +kernel
theorem d_S1_equals_4 : decode b_S1_equals 4 = .ok (.if_icmp .ne 30, 3) := by decide +kernel
theorem d_S1_equals_7 : decode b_S1_equals 7 = .ok (.iconst 0, 1) := by decide +kernel
theorem d_S1_equals_8 : decode b_S1_equals 8 = .ok (.istore_n 2, 1) := by decide +kernel
theorem d_S1_equals_9 : decode b_S1_equals 9 = .ok (.iload_n 2, 1) := by decide +kernel
theorem d_S1_equals_10 : decode b_S1_equals 10 = .ok (.aload_n 0, 1) := by decide +kernel
theorem d_S1_equals_11 : decode b_S1_equals 11 = .ok (.arraylength, 1) := by decide +kernel
theorem d_S1_equals_12 : decode b_S1_equals 12 = .ok (.if_icmp .ge 20, 3) := by decide +kernel
theorem d_S1_equals_15 : decode b_S1_equals 15 = .ok (.aload_n 0, 1) := by decide +kernel
theorem d_S1_equals_16 : decode b_S1_equals 16 = .ok (.iload_n 2, 1) := by decide +kernel
theorem d_S1_equals_17 : decode b_S1_equals 17 = .ok (.baload, 1) := by decide +kernel
theorem d_S1_equals_18 : decode b_S1_equals 18 = .ok (.aload_n 1, 1) := by decide +kernel
theorem d_S1_equals_19 : decode b_S1_equals 19 = .ok (.iload_n 2, 1) := by decide +kernel
theorem d_S1_equals_20 : decode b_S1_equals 20 = .ok (.baload, 1) := by decide +kernel
theorem d_S1_equals_21 : decode b_S1_equals 21 = .ok (.if_icmp .eq 5, 3) := by decide +kernel
theorem d_S1_equals_24 : decode b_S1_equals 24 = .ok (.iconst 0, 1) := by decide +kernel
theorem d_S1_equals_25 : decode b_S1_equals 25 = .ok (.ireturn, 1) := by decide +kernel
theorem d_S1_equals_26 : decode b_S1_equals 26 = .ok (.iinc 2 1, 3) := by decide +kernel
theorem d_S1_equals_29 : decode b_S1_equals 29 = .ok (.goto (-20), 3) := by decide +kernel
theorem d_S1_equals_32 : decode b_S1_equals 32 = .ok (.iconst 1, 1) := by decide +kernel
theorem d_S1_equals_33 : decode b_S1_equals 33 = .ok (.ireturn, 1) := by decide +kernel
theorem d_S1_equals_34 : decode b_S1_equals 34 = .ok (.iconst 0, 1) := by decide +kernel
theorem d_S1_equals_35 : decode b_S1_equals 35 = .ok (.ireturn, 1) := by decide +kernel
theorem p_S1_equals_b9 (d : Nat)  : ∀ (fu : Nat) (v0 : Option Nat) (v1 : Option Nat) (v2 : Int32) (h : gk_H), gk_P gw_I d y_S1_equals b_S1_equals 3 (some .boolean) [] (f_S1_equals_b9  fu v0 v1 v2 h) 9 [(0, va_rf v0), (1, va_rf v1), (2, .int v2)] [] h := by
  intro fu
  induction fu with
  | zero => intros; exact gk_none
  | succ fu q9 =>
    intro v0 v1 v2 h
    rw [f_S1_equals_b9]
    refine gk_iload_n (pc := 9) 2 d_S1_equals_9 rfl ?_
    refine gk_aload_n (pc := 10) 0 d_S1_equals_10 rfl ?_
    refine gk_alen (pc := 11) d_S1_equals_11 fun x1 => ?_
    refine gk_icmp_ge (pc := 12) 32 d_S1_equals_12 rfl (fun _ => ?_) (fun _ => ?_)
    · refine gk_iconst (pc := 32) (1 : Int32) d_S1_equals_32 rfl ?_
      exact gk_zret (pc := 33) rfl d_S1_equals_33 rfl
    · refine gk_aload_n (pc := 15) 0 d_S1_equals_15 rfl ?_
      refine gk_iload_n (pc := 16) 2 d_S1_equals_16 rfl ?_
      refine gk_bald (pc := 17) d_S1_equals_17 fun x2 => ?_
      refine gk_aload_n (pc := 18) 1 d_S1_equals_18 rfl ?_
      refine gk_iload_n (pc := 19) 2 d_S1_equals_19 rfl ?_
      refine gk_bald (pc := 20) d_S1_equals_20 fun x3 => ?_
      refine gk_icmp_eq (pc := 21) 26 d_S1_equals_21 rfl (fun _ => ?_) (fun _ => ?_)
      · refine gk_iincN (pc := 26) 2 (1 : Int32) (L' := fun x4 => [(2, .int x4), (0, va_rf v0), (1, va_rf v1)]) d_S1_equals_26 rfl rfl (Nat.le_of_ble_eq_true rfl) (fun _ => by simp [gk_s1, gk_cat_rf, gk_catI, gk_catJ, gk_catD] <;> decide) fun x4 => ?_
        refine gk_goto (pc := 29) 9 d_S1_equals_29 rfl ?_
        refine gk_weak [1, 2, 0] (L' := [(0, va_rf v0), (1, va_rf v1), (2, .int x4)]) rfl ?_
        exact q9 v0 v1 x4 h
      · refine gk_iconst (pc := 24) (0 : Int32) d_S1_equals_24 rfl ?_
        exact gk_zret (pc := 25) rfl d_S1_equals_25 rfl
theorem w_S1_equals (d : Nat) (a0 : Option Nat) (a1 : Option Nat) (h : gk_H) : gk_P gw_I d y_S1_equals b_S1_equals 3 (some .boolean) [] (f_S1_equals a0 a1 h) 0 [(0, va_rf a0), (1, va_rf a1)] [] h := by
  unfold f_S1_equals
  refine gk_aload_n (pc := 0) 0 d_S1_equals_0 rfl ?_
  refine gk_alen (pc := 1) d_S1_equals_1 fun x1 => ?_
  refine gk_aload_n (pc := 2) 1 d_S1_equals_2 rfl ?_
  refine gk_alen (pc := 3) d_S1_equals_3 fun x2 => ?_
  refine gk_icmp_ne (pc := 4) 34 d_S1_equals_4 rfl (fun _ => ?_) (fun _ => ?_)
  · refine gk_iconst (pc := 7) (0 : Int32) d_S1_equals_7 rfl ?_
    refine gk_istore_n (pc := 8) (L' := [(2, .int (0 : Int32)), (0, va_rf a0), (1, va_rf a1)]) d_S1_equals_8 (Nat.le_of_ble_eq_true rfl) (by simp [gk_s1, gk_s2, gk_cat_rf, gk_catI, gk_catJ, gk_catD] <;> decide) ?_
    refine gk_weak [1, 2, 0] (L' := [(0, va_rf a0), (1, va_rf a1), (2, .int (0 : Int32))]) rfl ?_
    exact p_S1_equals_b9 d gk_F a0 a1 (0 : Int32) h
  · refine gk_iconst (pc := 34) (0 : Int32) d_S1_equals_34 rfl ?_
    exact gk_zret (pc := 35) rfl d_S1_equals_35 rfl
theorem p_S1_equals (d : Nat) (a0 : Option Nat) (a1 : Option Nat) (h : gk_H) : ∀ r h1, f_S1_equals a0 a1 h = some (r, h1) → gk_M d y_S1_equals b_S1_equals 3 (some .boolean) [va_rf a0, va_rf a1] h (.inl (gv_I r)) h1 :=
  fun r h1 e => gk_M_of2 (by decide +kernel) (by simp [lv_args, gk_cat_rf, gk_catI, gk_catJ, gk_catD, gv_V, gv_I, gv_J, gv_D, gv_R]) (by simp [lg_sl, gk_cat_rf, gk_catI, gk_catJ, gk_catD, gv_V, gv_I, gv_J, gv_D, gv_R]) (w_S1_equals d a0 a1 h r h1 e)
theorem d_St_equals_0 : decode b_St_equals 0 = .ok (.aload_n 0, 1) := by decide +kernel
theorem d_St_equals_1 : decode b_St_equals 1 = .ok (.aload_n 1, 1) := by decide +kernel
theorem d_St_equals_2 : decode b_St_equals 2 = .ok (.if_acmp .ne 5, 3) := by decide +kernel
theorem d_St_equals_5 : decode b_St_equals 5 = .ok (.iconst 1, 1) := by decide +kernel
theorem d_St_equals_6 : decode b_St_equals 6 = .ok (.ireturn, 1) := by decide +kernel
theorem d_St_equals_7 : decode b_St_equals 7 = .ok (.aload_n 1, 1) := by decide +kernel
theorem d_St_equals_8 : decode b_St_equals 8 = .ok (.instanceof 10, 3) := by decide +kernel
theorem d_St_equals_11 : decode b_St_equals 11 = .ok (.ifCond .eq 43, 3) := by decide +kernel
theorem d_St_equals_14 : decode b_St_equals 14 = .ok (.aload_n 1, 1) := by decide +kernel
theorem d_St_equals_15 : decode b_St_equals 15 = .ok (.checkcast 10, 3) := by decide +kernel
theorem d_St_equals_18 : decode b_St_equals 18 = .ok (.astore_n 2, 1) := by decide +kernel
theorem d_St_equals_19 : decode b_St_equals 19 = .ok (.getstatic 38, 3) := by decide +kernel
theorem d_St_equals_22 : decode b_St_equals 22 = .ok (.ifCond .eq 14, 3) := by decide +kernel
theorem d_St_equals_25 : decode b_St_equals 25 = .ok (.aload_n 0, 1) := by decide +kernel
theorem d_St_equals_26 : decode b_St_equals 26 = .ok (.getfield 15, 3) := by decide +kernel
theorem d_St_equals_29 : decode b_St_equals 29 = .ok (.aload_n 2, 1) := by decide +kernel
theorem d_St_equals_30 : decode b_St_equals 30 = .ok (.getfield 15, 3) := by decide +kernel
theorem d_St_equals_33 : decode b_St_equals 33 = .ok (.if_icmp .ne 21, 3) := by decide +kernel
theorem d_St_equals_36 : decode b_St_equals 36 = .ok (.aload_n 0, 1) := by decide +kernel
theorem d_St_equals_37 : decode b_St_equals 37 = .ok (.getfield 9, 3) := by decide +kernel
theorem d_St_equals_40 : decode b_St_equals 40 = .ok (.aload_n 2, 1) := by decide +kernel
theorem d_St_equals_41 : decode b_St_equals 41 = .ok (.getfield 9, 3) := by decide +kernel
theorem d_St_equals_44 : decode b_St_equals 44 = .ok (.invokestatic 541, 3) := by decide +kernel
theorem d_St_equals_47 : decode b_St_equals 47 = .ok (.ifCond .eq 7, 3) := by decide +kernel
theorem d_St_equals_50 : decode b_St_equals 50 = .ok (.iconst 1, 1) := by decide +kernel
theorem d_St_equals_51 : decode b_St_equals 51 = .ok (.goto 4, 3) := by decide +kernel
theorem d_St_equals_54 : decode b_St_equals 54 = .ok (.iconst 0, 1) := by decide +kernel
theorem d_St_equals_55 : decode b_St_equals 55 = .ok (.ireturn, 1) := by decide +kernel
theorem p_St_equals_b55 (d : Nat)  (s0 : Int32) (h : gk_H) : gk_P gw_I (d + 1) y_St_equals b_St_equals 3 (some .boolean) [] (f_St_equals_b55  s0 h) 55 [] [.int s0] h := by
  unfold f_St_equals_b55
  exact gk_zret (pc := 55) rfl d_St_equals_55 rfl
theorem p_St_equals_b54 (d : Nat)   (h : gk_H) : gk_P gw_I (d + 1) y_St_equals b_St_equals 3 (some .boolean) [] (f_St_equals_b54   h) 54 [] [] h := by
  unfold f_St_equals_b54
  refine gk_iconst (pc := 54) (0 : Int32) d_St_equals_54 rfl ?_
  exact p_St_equals_b55 d (0 : Int32) h
theorem p_St_equals_b36 (d : Nat)  (v0 : Option Nat) (v2 : Option Nat) (h : gk_H) : gk_P gw_I (d + 1) y_St_equals b_St_equals 3 (some .boolean) [] (f_St_equals_b36  v0 v2 h) 36 [(0, va_rf v0), (2, va_rf v2)] [] h := by
  unfold f_St_equals_b36
  refine gk_aload_n (pc := 36) 0 d_St_equals_36 rfl ?_
  refine gk_getR (pc := 37) 0 0 d_St_equals_37 rfl (Nat.le_of_ble_eq_true rfl) tw_651 fun x1 => ?_
  refine gk_aload_n (pc := 40) 1 d_St_equals_40 rfl ?_
  refine gk_getR (pc := 41) 0 0 d_St_equals_41 rfl (Nat.le_of_ble_eq_true rfl) tw_651 fun x2 => ?_
  refine gk_callS (pc := 44) (d := d) (w' := gv_I) (as := [va_rf x1, va_rf x2]) (n := 2) d_St_equals_44 rfl rfl (Nat.le_of_ble_eq_true rfl) tw_1425 tw_1426 tw_109 cw_S1_equals hy_S1_equals (Nat.le_of_ble_eq_true rfl) (p_S1_equals d x1 x2 h) fun x3 h1 => ?_
  refine gk_if_eq (pc := 47) 54 d_St_equals_47 rfl (fun _ => ?_) (fun _ => ?_)
  · refine gk_weak [] (L' := []) rfl ?_
    exact p_St_equals_b54 d h1
  · refine gk_iconst (pc := 50) (1 : Int32) d_St_equals_50 rfl ?_
    refine gk_goto (pc := 51) 55 d_St_equals_51 rfl ?_
    refine gk_weak [] (L' := []) rfl ?_
    exact p_St_equals_b55 d (1 : Int32) h1
theorem w_St_equals (d : Nat) (a0 : Option Nat) (a1 : Option Nat) (h : gk_H) : gk_P gw_I (d + 1) y_St_equals b_St_equals 3 (some .boolean) [] (f_St_equals a0 a1 h) 0 [(0, va_rf a0), (1, va_rf a1)] [] h := by
  unfold f_St_equals
  refine gk_aload_n (pc := 0) 0 d_St_equals_0 rfl ?_
  refine gk_aload_n (pc := 1) 1 d_St_equals_1 rfl ?_
  refine gk_acmpN (pc := 2) 7 d_St_equals_2 rfl (r0 := (1 : Int32)) (fun r h1 hx D ad B s H hr he => gk_St_same hx hr he) (gk_iconst (pc := 5) (1 : Int32) d_St_equals_5 rfl (gk_iretZ1 (pc := 6) rfl d_St_equals_6 rfl)) ?_
  refine gk_aload_n (pc := 7) 1 d_St_equals_7 rfl ?_
  refine gk_inst (pc := 8) 0 d_St_equals_8 rfl tw_1424 fun x1 => ?_
  refine gk_if_eq (pc := 11) 54 d_St_equals_11 rfl (fun _ => ?_) (fun _ => ?_)
  · refine gk_weak [] (L' := []) rfl ?_
    exact p_St_equals_b54 d h
  · refine gk_aload_n (pc := 14) 1 d_St_equals_14 rfl ?_
    refine gk_ccast (pc := 15) 0 d_St_equals_15 rfl tw_1424 ?_
    refine gk_astore_n (pc := 18) (L' := [(2, va_rf a1), (0, va_rf a0), (1, va_rf a1)]) d_St_equals_18 (Nat.le_of_ble_eq_true rfl) (by simp [gk_s1, gk_s2, gk_cat_rf, gk_catI, gk_catJ, gk_catD] <;> decide) ?_
    refine gk_gsI (pc := 19) 0 d_St_equals_19 rfl tw_620 fun x2 => ?_
    refine gk_if_eq (pc := 22) 36 d_St_equals_22 rfl (fun _ => ?_) (fun _ => ?_)
    · refine gk_weak [1, 0] (L' := [(0, va_rf a0), (2, va_rf a1)]) rfl ?_
      exact p_St_equals_b36 d a0 a1 h
    · refine gk_aload_n (pc := 25) 1 d_St_equals_25 rfl ?_
      refine gk_getI (pc := 26) 0 1 d_St_equals_26 rfl (Nat.le_of_ble_eq_true rfl) tw_652 fun x3 => ?_
      refine gk_aload_n (pc := 29) 0 d_St_equals_29 rfl ?_
      refine gk_getI (pc := 30) 0 1 d_St_equals_30 rfl (Nat.le_of_ble_eq_true rfl) tw_652 fun x4 => ?_
      refine gk_icmp_ne (pc := 33) 54 d_St_equals_33 rfl (fun _ => ?_) (fun _ => ?_)
      · refine gk_weak [1, 0] (L' := [(0, va_rf a0), (2, va_rf a1)]) rfl ?_
        exact p_St_equals_b36 d a0 a1 h
      · refine gk_weak [] (L' := []) rfl ?_
        exact p_St_equals_b54 d h
theorem p_St_equals (d : Nat) (a0 : Option Nat) (a1 : Option Nat) (h : gk_H) : ∀ r h1, f_St_equals a0 a1 h = some (r, h1) → gk_M (d + 1) y_St_equals b_St_equals 3 (some .boolean) [va_rf a0, va_rf a1] h (.inl (gv_I r)) h1 :=
  fun r h1 e => gk_M_of2 (by decide +kernel) (by simp [lv_args, gk_cat_rf, gk_catI, gk_catJ, gk_catD, gv_V, gv_I, gv_J, gv_D, gv_R]) (by simp [lg_sl, gk_cat_rf, gk_catI, gk_catJ, gk_catD, gv_V, gv_I, gv_J, gv_D, gv_R]) (w_St_equals d a0 a1 h r h1 e)
theorem d_Ma_min_JJ_0 : decode b_Ma_min_JJ 0 = .ok (.lload_n 0, 1) := by decide +kernel
theorem d_Ma_min_JJ_1 : decode b_Ma_min_JJ 1 = .ok (.lload_n 2, 1) := by decide +kernel
theorem d_Ma_min_JJ_2 : decode b_Ma_min_JJ 2 = .ok (.lcmp, 1) := by decide +kernel
theorem d_Ma_min_JJ_3 : decode b_Ma_min_JJ 3 = .ok (.ifCond .gt 7, 3) := by decide +kernel
theorem d_Ma_min_JJ_6 : decode b_Ma_min_JJ 6 = .ok (.lload_n 0, 1) := by decide +kernel
theorem d_Ma_min_JJ_7 : decode b_Ma_min_JJ 7 = .ok (.goto 4, 3) := by decide +kernel
theorem d_Ma_min_JJ_10 : decode b_Ma_min_JJ 10 = .ok (.lload_n 2, 1) := by decide +kernel
theorem d_Ma_min_JJ_11 : decode b_Ma_min_JJ 11 = .ok (.lreturn, 1) := by decide +kernel
theorem p_Ma_min_JJ_b11 (d : Nat)  (s0 : Int64) (h : gk_H) : gk_P gw_J d y_Ma_min_JJ b_Ma_min_JJ 4 (some .long) [] (f_Ma_min_JJ_b11  s0 h) 11 [] [.long s0] h := by
  unfold f_Ma_min_JJ_b11
  exact gk_lret (pc := 11) rfl d_Ma_min_JJ_11 rfl
theorem w_Ma_min_JJ (d : Nat) (a0 : Int64) (a1 : Int64) (h : gk_H) : gk_P gw_J d y_Ma_min_JJ b_Ma_min_JJ 4 (some .long) [] (f_Ma_min_JJ a0 a1 h) 0 [(0, .long a0), (2, .long a1)] [] h := by
  unfold f_Ma_min_JJ
  refine gk_lload_n (pc := 0) 0 d_Ma_min_JJ_0 rfl ?_
  refine gk_lload_n (pc := 1) 1 d_Ma_min_JJ_1 rfl ?_
  refine gk_lcmp (pc := 2) d_Ma_min_JJ_2 ?_
  refine gk_if_gt (pc := 3) 10 d_Ma_min_JJ_3 rfl (fun _ => ?_) (fun _ => ?_)
  · refine gk_lload_n (pc := 10) 1 d_Ma_min_JJ_10 rfl ?_
    refine gk_weak [] (L' := []) rfl ?_
    exact p_Ma_min_JJ_b11 d a1 h
  · refine gk_lload_n (pc := 6) 0 d_Ma_min_JJ_6 rfl ?_
    refine gk_goto (pc := 7) 11 d_Ma_min_JJ_7 rfl ?_
    refine gk_weak [] (L' := []) rfl ?_
    exact p_Ma_min_JJ_b11 d a0 h
theorem p_Ma_min_JJ (d : Nat) (a0 : Int64) (a1 : Int64) (h : gk_H) : ∀ r h1, f_Ma_min_JJ a0 a1 h = some (r, h1) → gk_M d y_Ma_min_JJ b_Ma_min_JJ 4 (some .long) [.long a0, .long a1] h (.inl (gv_J r)) h1 :=
  fun r h1 e => gk_M_of2 (by decide +kernel) (by simp [lv_args, gk_cat_rf, gk_catI, gk_catJ, gk_catD, gv_V, gv_I, gv_J, gv_D, gv_R]) (by simp [lg_sl, gk_cat_rf, gk_catI, gk_catJ, gk_catD, gv_V, gv_I, gv_J, gv_D, gv_R]) (w_Ma_min_JJ d a0 a1 h r h1 e)
theorem d_Ma_max_JJ_0 : decode b_Ma_max_JJ 0 = .ok (.lload_n 0, 1) := by decide +kernel
theorem d_Ma_max_JJ_1 : decode b_Ma_max_JJ 1 = .ok (.lload_n 2, 1) := by decide +kernel
theorem d_Ma_max_JJ_2 : decode b_Ma_max_JJ 2 = .ok (.lcmp, 1) := by decide +kernel
theorem d_Ma_max_JJ_3 : decode b_Ma_max_JJ 3 = .ok (.ifCond .lt 7, 3) := by decide +kernel
theorem d_Ma_max_JJ_6 : decode b_Ma_max_JJ 6 = .ok (.lload_n 0, 1) := by decide +kernel
theorem d_Ma_max_JJ_7 : decode b_Ma_max_JJ 7 = .ok (.goto 4, 3) := by decide +kernel
theorem d_Ma_max_JJ_10 : decode b_Ma_max_JJ 10 = .ok (.lload_n 2, 1) := by decide +kernel
theorem d_Ma_max_JJ_11 : decode b_Ma_max_JJ 11 = .ok (.lreturn, 1) := by decide +kernel
theorem p_Ma_max_JJ_b11 (d : Nat)  (s0 : Int64) (h : gk_H) : gk_P gw_J d y_Ma_max_JJ b_Ma_max_JJ 4 (some .long) [] (f_Ma_max_JJ_b11  s0 h) 11 [] [.long s0] h := by
  unfold f_Ma_max_JJ_b11
  exact gk_lret (pc := 11) rfl d_Ma_max_JJ_11 rfl
theorem w_Ma_max_JJ (d : Nat) (a0 : Int64) (a1 : Int64) (h : gk_H) : gk_P gw_J d y_Ma_max_JJ b_Ma_max_JJ 4 (some .long) [] (f_Ma_max_JJ a0 a1 h) 0 [(0, .long a0), (2, .long a1)] [] h := by
  unfold f_Ma_max_JJ
  refine gk_lload_n (pc := 0) 0 d_Ma_max_JJ_0 rfl ?_
  refine gk_lload_n (pc := 1) 1 d_Ma_max_JJ_1 rfl ?_
  refine gk_lcmp (pc := 2) d_Ma_max_JJ_2 ?_
  refine gk_if_lt (pc := 3) 10 d_Ma_max_JJ_3 rfl (fun _ => ?_) (fun _ => ?_)
  · refine gk_lload_n (pc := 10) 1 d_Ma_max_JJ_10 rfl ?_
    refine gk_weak [] (L' := []) rfl ?_
    exact p_Ma_max_JJ_b11 d a1 h
  · refine gk_lload_n (pc := 6) 0 d_Ma_max_JJ_6 rfl ?_
    refine gk_goto (pc := 7) 11 d_Ma_max_JJ_7 rfl ?_
    refine gk_weak [] (L' := []) rfl ?_
    exact p_Ma_max_JJ_b11 d a0 h
theorem p_Ma_max_JJ (d : Nat) (a0 : Int64) (a1 : Int64) (h : gk_H) : ∀ r h1, f_Ma_max_JJ a0 a1 h = some (r, h1) → gk_M d y_Ma_max_JJ b_Ma_max_JJ 4 (some .long) [.long a0, .long a1] h (.inl (gv_J r)) h1 :=
  fun r h1 e => gk_M_of2 (by decide +kernel) (by simp [lv_args, gk_cat_rf, gk_catI, gk_catJ, gk_catD, gv_V, gv_I, gv_J, gv_D, gv_R]) (by simp [lg_sl, gk_cat_rf, gk_catI, gk_catJ, gk_catD, gv_V, gv_I, gv_J, gv_D, gv_R]) (w_Ma_max_JJ d a0 a1 h r h1 e)
theorem d_Ma_floorMod_0 : decode b_Ma_floorMod 0 = .ok (.iload_n 0, 1) := by decide +kernel
theorem d_Ma_floorMod_1 : decode b_Ma_floorMod 1 = .ok (.iload_n 1, 1) := by decide +kernel
theorem d_Ma_floorMod_2 : decode b_Ma_floorMod 2 = .ok (.irem, 1) := by decide +kernel
theorem d_Ma_floorMod_3 : decode b_Ma_floorMod 3 = .ok (.istore_n 2, 1) := by decide +kernel
theorem d_Ma_floorMod_4 : decode b_Ma_floorMod 4 = .ok (.iload_n 0, 1) := by decide +kernel
theorem d_Ma_floorMod_5 : decode b_Ma_floorMod 5 = .ok (.iload_n 1, 1) := by decide +kernel
theorem d_Ma_floorMod_6 : decode b_Ma_floorMod 6 = .ok (.ixor, 1) := by decide +kernel
theorem d_Ma_floorMod_7 : decode b_Ma_floorMod 7 = .ok (.ifCond .ge 11, 3) := by decide +kernel
theorem d_Ma_floorMod_10 : decode b_Ma_floorMod 10 = .ok (.iload_n 2, 1) := by decide +kernel
theorem d_Ma_floorMod_11 : decode b_Ma_floorMod 11 = .ok (.ifCond .eq 7, 3) := by decide +kernel
theorem d_Ma_floorMod_14 : decode b_Ma_floorMod 14 = .ok (.iload_n 2, 1) := by decide +kernel
theorem d_Ma_floorMod_15 : decode b_Ma_floorMod 15 = .ok (.iload_n 1, 1) := by decide +kernel
theorem d_Ma_floorMod_16 : decode b_Ma_floorMod 16 = .ok (.iadd, 1) := by decide +kernel
theorem d_Ma_floorMod_17 : decode b_Ma_floorMod 17 = .ok (.ireturn, 1) := by decide +kernel
theorem d_Ma_floorMod_18 : decode b_Ma_floorMod 18 = .ok (.iload_n 2, 1) := by decide +kernel
theorem d_Ma_floorMod_19 : decode b_Ma_floorMod 19 = .ok (.ireturn, 1) := by decide +kernel
theorem p_Ma_floorMod_b18 (d : Nat)  (v2 : Int32) (h : gk_H) : gk_P gw_I d y_Ma_floorMod b_Ma_floorMod 3 (some .int) [] (f_Ma_floorMod_b18  v2 h) 18 [(2, .int v2)] [] h := by
  unfold f_Ma_floorMod_b18
  refine gk_iload_n (pc := 18) 0 d_Ma_floorMod_18 rfl ?_
  exact gk_iret (pc := 19) rfl d_Ma_floorMod_19 rfl
theorem w_Ma_floorMod (d : Nat) (a0 : Int32) (a1 : Int32) (h : gk_H) : gk_P gw_I d y_Ma_floorMod b_Ma_floorMod 3 (some .int) [] (f_Ma_floorMod a0 a1 h) 0 [(0, .int a0), (1, .int a1)] [] h := by
  unfold f_Ma_floorMod
  refine gk_iload_n (pc := 0) 0 d_Ma_floorMod_0 rfl ?_
  refine gk_iload_n (pc := 1) 1 d_Ma_floorMod_1 rfl ?_
  refine gk_ite (fun _ => gk_none) fun hz2 => ?_
  refine gk_irem (pc := 2) hz2 d_Ma_floorMod_2 ?_
  refine gk_topI (pc := 3) fun x1 => ?_
  refine gk_istore_n (pc := 3) (L' := [(2, .int x1), (0, .int a0), (1, .int a1)]) d_Ma_floorMod_3 (Nat.le_of_ble_eq_true rfl) rfl ?_
  refine gk_iload_n (pc := 4) 1 d_Ma_floorMod_4 rfl ?_
  refine gk_iload_n (pc := 5) 2 d_Ma_floorMod_5 rfl ?_
  refine gk_ixor (pc := 6) d_Ma_floorMod_6 ?_
  refine gk_if_ge (pc := 7) 18 d_Ma_floorMod_7 rfl (fun _ => ?_) (fun _ => ?_)
  · refine gk_weak [0] (L' := [(2, .int x1)]) rfl ?_
    exact p_Ma_floorMod_b18 d x1 h
  · refine gk_iload_n (pc := 10) 0 d_Ma_floorMod_10 rfl ?_
    refine gk_if_eq (pc := 11) 18 d_Ma_floorMod_11 rfl (fun _ => ?_) (fun _ => ?_)
    · refine gk_weak [0] (L' := [(2, .int x1)]) rfl ?_
      exact p_Ma_floorMod_b18 d x1 h
    · refine gk_iload_n (pc := 14) 0 d_Ma_floorMod_14 rfl ?_
      refine gk_iload_n (pc := 15) 2 d_Ma_floorMod_15 rfl ?_
      refine gk_iadd (pc := 16) d_Ma_floorMod_16 ?_
      exact gk_iret (pc := 17) rfl d_Ma_floorMod_17 rfl
theorem p_Ma_floorMod (d : Nat) (a0 : Int32) (a1 : Int32) (h : gk_H) : ∀ r h1, f_Ma_floorMod a0 a1 h = some (r, h1) → gk_M d y_Ma_floorMod b_Ma_floorMod 3 (some .int) [.int a0, .int a1] h (.inl (gv_I r)) h1 :=
  fun r h1 e => gk_M_of2 (by decide +kernel) (by simp [lv_args, gk_cat_rf, gk_catI, gk_catJ, gk_catD, gv_V, gv_I, gv_J, gv_D, gv_R]) (by simp [lg_sl, gk_cat_rf, gk_catI, gk_catJ, gk_catD, gv_V, gv_I, gv_J, gv_D, gv_R]) (w_Ma_floorMod d a0 a1 h r h1 e)
