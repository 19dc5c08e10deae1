theorem d_Va_init_0 : decode b_Va_init 0 = .ok (.aload_n 0, 1) := by decide +kernel
theorem d_Va_init_1 : decode b_Va_init 1 = .ok (.invokespecial 3, 3) := by decide +kernel
theorem d_Va_init_4 : decode b_Va_init 4 = .ok (.aload_n 0, 1) := by decide +kernel
theorem d_Va_init_5 : decode b_Va_init 5 = .ok (.iload_n 1, 1) := by decide +kernel
theorem d_Va_init_6 : decode b_Va_init 6 = .ok (.putfield 9, 3) := by decide +kernel
theorem d_Va_init_9 : decode b_Va_init 9 = .ok (.aload_n 0, 1) := by decide +kernel
theorem d_Va_init_10 : decode b_Va_init 10 = .ok (.iload_n 2, 1) := by decide +kernel
theorem d_Va_init_11 : decode b_Va_init 11 = .ok (.putfield 15, 3) := by decide +kernel
theorem d_Va_init_14 : decode b_Va_init 14 = .ok (.aload_n 0, 1) := by decide +kernel
theorem d_Va_init_15 : decode b_Va_init 15 = .ok (.dload_n 3, 1) := by decide +kernel
theorem d_Va_init_16 : decode b_Va_init 16 = .ok (.putfield 18, 3) := by decide +kernel
theorem d_Va_init_19 : decode b_Va_init 19 = .ok (.aload_n 0, 1) := by decide +kernel
theorem d_Va_init_20 : decode b_Va_init 20 = .ok (.aload 5, 2) := by decide +kernel
theorem d_Va_init_22 : decode b_Va_init 22 = .ok (.putfield 22, 3) := by decide +kernel
theorem d_Va_init_25 : decode b_Va_init 25 = .ok (.aload_n 0, 1) := by decide +kernel
theorem d_Va_init_26 : decode b_Va_init 26 = .ok (.iload 6, 2) := by decide +kernel
theorem d_Va_init_28 : decode b_Va_init 28 = .ok (.putfield 26, 3) := by decide +kernel
theorem d_Va_init_31 : decode b_Va_init 31 = .ok (.aload_n 0, 1) := by decide +kernel
theorem d_Va_init_32 : decode b_Va_init 32 = .ok (.iload 7, 2) := by decide +kernel
theorem d_Va_init_34 : decode b_Va_init 34 = .ok (.putfield 29, 3) := by decide +kernel
theorem d_Va_init_37 : decode b_Va_init 37 = .ok (.aload_n 0, 1) := by decide +kernel
theorem d_Va_init_38 : decode b_Va_init 38 = .ok (.aload 8, 2) := by decide +kernel
theorem d_Va_init_40 : decode b_Va_init 40 = .ok (.putfield 32, 3) := by decide +kernel
theorem d_Va_init_43 : decode b_Va_init 43 = .ok (.return_, 1) := by decide +kernel
theorem w_Va_init (d : Nat) (a0 : Option Nat) (a1 : Int32) (a2 : Int32) (a3 : UInt64) (a4 : Option Nat) (a5 : Int32) (a6 : Int32) (a7 : Option Nat) (h : gk_H) : gk_P gw_V (d + 1) y_Va_init b_Va_init 9 none [] (f_Va_init a0 a1 a2 a3 a4 a5 a6 a7 h) 0 [(0, va_rf a0), (1, .int a1), (2, .int a2), (3, .double a3), (5, va_rf a4), (6, .int a5), (7, .int a6), (8, va_rf a7)] [] h := by
  unfold f_Va_init
  refine gk_aload_n (pc := 0) 0 d_Va_init_0 rfl ?_
  refine gk_objI (pc := 1) (d := d) d_Va_init_1 tw_184 (Nat.le_of_ble_eq_true rfl) ?_
  refine gk_aload_n (pc := 4) 0 d_Va_init_4 rfl ?_
  refine gk_iload_n (pc := 5) 1 d_Va_init_5 rfl ?_
  refine gk_putfield (pc := 6) 2 0 d_Va_init_6 rfl (Nat.le_of_ble_eq_true rfl) tw_185 (Or.inr ⟨rfl, rfl⟩) fun h1 => ?_
  refine gk_aload_n (pc := 9) 0 d_Va_init_9 rfl ?_
  refine gk_iload_n (pc := 10) 2 d_Va_init_10 rfl ?_
  refine gk_putfield (pc := 11) 2 1 d_Va_init_11 rfl (Nat.le_of_ble_eq_true rfl) tw_193 (Or.inr ⟨rfl, rfl⟩) fun h2 => ?_
  refine gk_aload_n (pc := 14) 0 d_Va_init_14 rfl ?_
  refine gk_dload_n (pc := 15) 3 d_Va_init_15 rfl ?_
  refine gk_putfield (pc := 16) 2 2 d_Va_init_16 rfl (Nat.le_of_ble_eq_true rfl) tw_198 (Or.inr ⟨rfl, rfl⟩) fun h3 => ?_
  refine gk_aload_n (pc := 19) 0 d_Va_init_19 rfl ?_
  refine gk_aload (pc := 20) 4 d_Va_init_20 rfl ?_
  refine gk_putfield (pc := 22) 2 3 d_Va_init_22 rfl (Nat.le_of_ble_eq_true rfl) tw_204 (Or.inr ⟨rfl, rfl⟩) fun h4 => ?_
  refine gk_aload_n (pc := 25) 0 d_Va_init_25 rfl ?_
  refine gk_iload (pc := 26) 5 d_Va_init_26 rfl ?_
  refine gk_putfield (pc := 28) 2 4 d_Va_init_28 rfl (Nat.le_of_ble_eq_true rfl) tw_212 (Or.inr ⟨rfl, rfl⟩) fun h5 => ?_
  refine gk_aload_n (pc := 31) 0 d_Va_init_31 rfl ?_
  refine gk_iload (pc := 32) 6 d_Va_init_32 rfl ?_
  refine gk_putfield (pc := 34) 2 5 d_Va_init_34 rfl (Nat.le_of_ble_eq_true rfl) tw_215 (Or.inr ⟨rfl, rfl⟩) fun h6 => ?_
  refine gk_aload_n (pc := 37) 0 d_Va_init_37 rfl ?_
  refine gk_aload (pc := 38) 7 d_Va_init_38 rfl ?_
  refine gk_putfield (pc := 40) 2 6 d_Va_init_40 rfl (Nat.le_of_ble_eq_true rfl) tw_218 (Or.inr ⟨rfl, rfl⟩) fun h7 => ?_
  exact gk_vret (pc := 43) rfl d_Va_init_43 rfl
theorem p_Va_init (d : Nat) (a0 : Option Nat) (a1 : Int32) (a2 : Int32) (a3 : UInt64) (a4 : Option Nat) (a5 : Int32) (a6 : Int32) (a7 : Option Nat) (h : gk_H) : ∀ r h1, f_Va_init a0 a1 a2 a3 a4 a5 a6 a7 h = some (r, h1) → gk_M (d + 1) y_Va_init b_Va_init 9 none [va_rf a0, .int a1, .int a2, .double a3, va_rf a4, .int a5, .int a6, va_rf a7] h (.inl (gv_V r)) h1 :=
  fun r h1 e => gk_M_of2 (by decide +kernel) (by simp [lv_args, gk_cat_rf, gk_catI, gk_catJ, gk_catD, gv_V, gv_I, gv_J, gv_D, gv_R]) (by simp [lg_sl, gk_cat_rf, gk_catI, gk_catJ, gk_catD, gv_V, gv_I, gv_J, gv_D, gv_R]) (w_Va_init d a0 a1 a2 a3 a4 a5 a6 a7 h r h1 e)
theorem d_Va_ofNothing_0 : decode b_Va_ofNothing 0 = .ok (.new 10, 3) := by decide +kernel
theorem d_Va_ofNothing_3 : decode b_Va_ofNothing 3 = .ok (.dup, 1) := by decide +kernel
theorem d_Va_ofNothing_4 : decode b_Va_ofNothing 4 = .ok (.iconst 0, 1) := by decide +kernel
theorem d_Va_ofNothing_5 : decode b_Va_ofNothing 5 = .ok (.iconst 0, 1) := by decide +kernel
theorem d_Va_ofNothing_6 : decode b_Va_ofNothing 6 = .ok (.dconst 0, 1) := by decide +kernel
theorem d_Va_ofNothing_7 : decode b_Va_ofNothing 7 = .ok (.ldc 36, 2) := by decide +kernel
theorem d_Va_ofNothing_9 : decode b_Va_ofNothing 9 = .ok (.iconst 1, 1) := by decide +kernel
theorem d_Va_ofNothing_10 : decode b_Va_ofNothing 10 = .ok (.iconst 1, 1) := by decide +kernel
theorem d_Va_ofNothing_11 : decode b_Va_ofNothing 11 = .ok (.aconst_null, 1) := by decide +kernel
theorem d_Va_ofNothing_12 : decode b_Va_ofNothing 12 = .ok (.invokespecial 38, 3) := by decide +kernel
theorem d_Va_ofNothing_15 : decode b_Va_ofNothing 15 = .ok (.areturn, 1) := by decide +kernel
theorem w_Va_ofNothing (d : Nat)  (h : gk_H) : gk_P gw_R (d + 2) y_Va_ofNothing b_Va_ofNothing 0 (some (.object "ValueAlgebra$Value")) [] (f_Va_ofNothing  h) 0 [] [] h := by
  unfold f_Va_ofNothing
  refine gk_newO (pc := 0) 2 7 d_Va_ofNothing_0 rfl tw_178 tw_179 tw_97 fun x1 h1 => ?_
  refine gk_dup (pc := 3) d_Va_ofNothing_3 (gk_cat_rf _) ?_
  refine gk_iconst (pc := 4) (0 : Int32) d_Va_ofNothing_4 rfl ?_
  refine gk_iconst (pc := 5) (0 : Int32) d_Va_ofNothing_5 rfl ?_
  refine gk_dconst0 (pc := 6) d_Va_ofNothing_6 ?_
  refine gk_ldcS (pc := 7) "" 4 d_Va_ofNothing_7 (by decide +kernel) ?_
  refine gk_iconst (pc := 9) (1 : Int32) d_Va_ofNothing_9 rfl ?_
  refine gk_iconst (pc := 10) (1 : Int32) d_Va_ofNothing_10 rfl ?_
  refine gk_anull (pc := 11) d_Va_ofNothing_11 ?_
  refine gk_callI (pc := 12) (d := (d + 1)) (w' := gv_V) (as := [.int (0 : Int32), .int (0 : Int32), .double (0x0000000000000000), va_rf (some 4), .int (1 : Int32), .int (1 : Int32), va_rf none]) (n := 7) 2 d_Va_ofNothing_12 rfl rfl (by simp [gk_cat_rf, gk_catI, gk_catJ, gk_catD, gv_V, gv_I, gv_J, gv_D, gv_R]) tw_181 tw_182 tw_97 cw_Va_init rfl hy_Va_init (Nat.le_of_ble_eq_true rfl) (p_Va_init d x1 (0 : Int32) (0 : Int32) (0x0000000000000000) (some 4) (1 : Int32) (1 : Int32) none h1) fun _ h2 => ?_
  exact gk_aret (pc := 15) rfl d_Va_ofNothing_15 rfl (Or.inl ⟨_, rfl⟩)
theorem p_Va_ofNothing (d : Nat)  (h : gk_H) : ∀ r h1, f_Va_ofNothing  h = some (r, h1) → gk_M (d + 2) y_Va_ofNothing b_Va_ofNothing 0 (some (.object "ValueAlgebra$Value")) [] h (.inl (gv_R r)) h1 :=
  fun r h1 e => gk_M_of2 (by decide +kernel) (by simp [lv_args, gk_cat_rf, gk_catI, gk_catJ, gk_catD, gv_V, gv_I, gv_J, gv_D, gv_R]) (by simp [lg_sl, gk_cat_rf, gk_catI, gk_catJ, gk_catD, gv_V, gv_I, gv_J, gv_D, gv_R]) (w_Va_ofNothing d  h r h1 e)
theorem d_Va_ofError_0 : decode b_Va_ofError 0 = .ok (.new 10, 3) := by decide +kernel
theorem d_Va_ofError_3 : decode b_Va_ofError 3 = .ok (.dup, 1) := by decide +kernel
theorem d_Va_ofError_4 : decode b_Va_ofError 4 = .ok (.iconst 4, 1) := by decide +kernel
theorem d_Va_ofError_5 : decode b_Va_ofError 5 = .ok (.iload_n 0, 1) := by decide +kernel
theorem d_Va_ofError_6 : decode b_Va_ofError 6 = .ok (.dconst 0, 1) := by decide +kernel
theorem d_Va_ofError_7 : decode b_Va_ofError 7 = .ok (.ldc 36, 2) := by decide +kernel
theorem d_Va_ofError_9 : decode b_Va_ofError 9 = .ok (.iconst 1, 1) := by decide +kernel
theorem d_Va_ofError_10 : decode b_Va_ofError 10 = .ok (.iconst 1, 1) := by decide +kernel
theorem d_Va_ofError_11 : decode b_Va_ofError 11 = .ok (.aconst_null, 1) := by decide +kernel
theorem d_Va_ofError_12 : decode b_Va_ofError 12 = .ok (.invokespecial 38, 3) := by decide +kernel
theorem d_Va_ofError_15 : decode b_Va_ofError 15 = .ok (.areturn, 1) := by decide +kernel
theorem w_Va_ofError (d : Nat) (a0 : Int32) (h : gk_H) : gk_P gw_R (d + 2) y_Va_ofError b_Va_ofError 1 (some (.object "ValueAlgebra$Value")) [] (f_Va_ofError a0 h) 0 [(0, .int a0)] [] h := by
  unfold f_Va_ofError
  refine gk_newO (pc := 0) 2 7 d_Va_ofError_0 rfl tw_178 tw_179 tw_97 fun x1 h1 => ?_
  refine gk_dup (pc := 3) d_Va_ofError_3 (gk_cat_rf _) ?_
  refine gk_iconst (pc := 4) (4 : Int32) d_Va_ofError_4 rfl ?_
  refine gk_iload_n (pc := 5) 0 d_Va_ofError_5 rfl ?_
  refine gk_dconst0 (pc := 6) d_Va_ofError_6 ?_
  refine gk_ldcS (pc := 7) "" 4 d_Va_ofError_7 (by decide +kernel) ?_
  refine gk_iconst (pc := 9) (1 : Int32) d_Va_ofError_9 rfl ?_
  refine gk_iconst (pc := 10) (1 : Int32) d_Va_ofError_10 rfl ?_
  refine gk_anull (pc := 11) d_Va_ofError_11 ?_
  refine gk_callI (pc := 12) (d := (d + 1)) (w' := gv_V) (as := [.int (4 : Int32), .int a0, .double (0x0000000000000000), va_rf (some 4), .int (1 : Int32), .int (1 : Int32), va_rf none]) (n := 7) 2 d_Va_ofError_12 rfl rfl (by simp [gk_cat_rf, gk_catI, gk_catJ, gk_catD, gv_V, gv_I, gv_J, gv_D, gv_R]) tw_181 tw_182 tw_97 cw_Va_init rfl hy_Va_init (Nat.le_of_ble_eq_true rfl) (p_Va_init d x1 (4 : Int32) a0 (0x0000000000000000) (some 4) (1 : Int32) (1 : Int32) none h1) fun _ h2 => ?_
  exact gk_aret (pc := 15) rfl d_Va_ofError_15 rfl (Or.inl ⟨_, rfl⟩)
theorem p_Va_ofError (d : Nat) (a0 : Int32) (h : gk_H) : ∀ r h1, f_Va_ofError a0 h = some (r, h1) → gk_M (d + 2) y_Va_ofError b_Va_ofError 1 (some (.object "ValueAlgebra$Value")) [.int a0] h (.inl (gv_R r)) h1 :=
  fun r h1 e => gk_M_of2 (by decide +kernel) (by simp [lv_args, gk_cat_rf, gk_catI, gk_catJ, gk_catD, gv_V, gv_I, gv_J, gv_D, gv_R]) (by simp [lg_sl, gk_cat_rf, gk_catI, gk_catJ, gk_catD, gv_V, gv_I, gv_J, gv_D, gv_R]) (w_Va_ofError d a0 h r h1 e)
theorem d_Li_init_0 : decode b_Li_init 0 = .ok (.aload_n 0, 1) := by decide +kernel
theorem d_Li_init_1 : decode b_Li_init 1 = .ok (.invokespecial 3, 3) := by decide +kernel
theorem d_Li_init_4 : decode b_Li_init 4 = .ok (.aload_n 0, 1) := by decide +kernel
theorem d_Li_init_5 : decode b_Li_init 5 = .ok (.sipush 255, 3) := by decide +kernel
theorem d_Li_init_8 : decode b_Li_init 8 = .ok (.newarray .int, 2) := by decide +kernel
theorem d_Li_init_10 : decode b_Li_init 10 = .ok (.putfield 9, 3) := by decide +kernel
theorem d_Li_init_13 : decode b_Li_init 13 = .ok (.aload_n 0, 1) := by decide +kernel
theorem d_Li_init_14 : decode b_Li_init 14 = .ok (.sipush 255, 3) := by decide +kernel
theorem d_Li_init_17 : decode b_Li_init 17 = .ok (.newarray .char, 2) := by decide +kernel
theorem d_Li_init_19 : decode b_Li_init 19 = .ok (.putfield 15, 3) := by decide +kernel
theorem d_Li_init_22 : decode b_Li_init 22 = .ok (.aload_n 0, 1) := by decide +kernel
theorem d_Li_init_23 : decode b_Li_init 23 = .ok (.sipush 256, 3) := by decide +kernel
theorem d_Li_init_26 : decode b_Li_init 26 = .ok (.newarray .boolean, 2) := by decide +kernel
theorem d_Li_init_28 : decode b_Li_init 28 = .ok (.putfield 19, 3) := by decide +kernel
theorem d_Li_init_31 : decode b_Li_init 31 = .ok (.return_, 1) := by decide +kernel
theorem w_Li_init (d : Nat) (a0 : Option Nat) (h : gk_H) : gk_P gw_V (d + 1) y_Li_init b_Li_init 1 none [] (f_Li_init a0 h) 0 [(0, va_rf a0)] [] h := by
  unfold f_Li_init
  refine gk_aload_n (pc := 0) 0 d_Li_init_0 rfl ?_
  refine gk_objI (pc := 1) (d := d) d_Li_init_1 tw_243 (Nat.le_of_ble_eq_true rfl) ?_
  refine gk_aload_n (pc := 4) 0 d_Li_init_4 rfl ?_
  refine gk_sipush (pc := 5) (255 : Int32) d_Li_init_5 rfl ?_
  refine gk_newA (pc := 8) 1 d_Li_init_8 rfl tw_257 (Nat.le_of_ble_eq_true rfl) fun x1 h1 => ?_
  refine gk_putfield (pc := 10) 3 0 d_Li_init_10 rfl (Nat.le_of_ble_eq_true rfl) tw_244 (Or.inr ⟨rfl, rfl⟩) fun h2 => ?_
  refine gk_aload_n (pc := 13) 0 d_Li_init_13 rfl ?_
  refine gk_sipush (pc := 14) (255 : Int32) d_Li_init_14 rfl ?_
  refine gk_newA (pc := 17) 5 d_Li_init_17 rfl tw_258 (Nat.le_of_ble_eq_true rfl) fun x2 h3 => ?_
  refine gk_putfield (pc := 19) 3 2 d_Li_init_19 rfl (Nat.le_of_ble_eq_true rfl) tw_246 (Or.inr ⟨rfl, rfl⟩) fun h4 => ?_
  refine gk_aload_n (pc := 22) 0 d_Li_init_22 rfl ?_
  refine gk_sipush (pc := 23) (256 : Int32) d_Li_init_23 rfl ?_
  refine gk_newA (pc := 26) 4 d_Li_init_26 rfl tw_259 (Nat.le_of_ble_eq_true rfl) fun x3 h5 => ?_
  refine gk_putfield (pc := 28) 3 3 d_Li_init_28 rfl (Nat.le_of_ble_eq_true rfl) tw_247 (Or.inr ⟨rfl, rfl⟩) fun h6 => ?_
  exact gk_vret (pc := 31) rfl d_Li_init_31 rfl
theorem p_Li_init (d : Nat) (a0 : Option Nat) (h : gk_H) : ∀ r h1, f_Li_init a0 h = some (r, h1) → gk_M (d + 1) y_Li_init b_Li_init 1 none [va_rf a0] h (.inl (gv_V r)) h1 :=
  fun r h1 e => gk_M_of2 (by decide +kernel) (by simp [lv_args, gk_cat_rf, gk_catI, gk_catJ, gk_catD, gv_V, gv_I, gv_J, gv_D, gv_R]) (by simp [lg_sl, gk_cat_rf, gk_catI, gk_catJ, gk_catD, gv_V, gv_I, gv_J, gv_D, gv_R]) (w_Li_init d a0 h r h1 e)
theorem d_Ar_init_0 : decode b_Ar_init 0 = .ok (.aload_n 0, 1) := by decide +kernel
theorem d_Ar_init_1 : decode b_Ar_init 1 = .ok (.invokespecial 3, 3) := by decide +kernel
theorem d_Ar_init_4 : decode b_Ar_init 4 = .ok (.aload_n 0, 1) := by decide +kernel
theorem d_Ar_init_5 : decode b_Ar_init 5 = .ok (.bipush 8, 2) := by decide +kernel
theorem d_Ar_init_7 : decode b_Ar_init 7 = .ok (.anewarray 11, 3) := by decide +kernel
theorem d_Ar_init_10 : decode b_Ar_init 10 = .ok (.putfield 13, 3) := by decide +kernel
theorem d_Ar_init_13 : decode b_Ar_init 13 = .ok (.aload_n 0, 1) := by decide +kernel
theorem d_Ar_init_14 : decode b_Ar_init 14 = .ok (.bipush 8, 2) := by decide +kernel
theorem d_Ar_init_16 : decode b_Ar_init 16 = .ok (.anewarray 11, 3) := by decide +kernel
theorem d_Ar_init_19 : decode b_Ar_init 19 = .ok (.putfield 17, 3) := by decide +kernel
theorem d_Ar_init_22 : decode b_Ar_init 22 = .ok (.aload_n 0, 1) := by decide +kernel
theorem d_Ar_init_23 : decode b_Ar_init 23 = .ok (.sipush 128, 3) := by decide +kernel
theorem d_Ar_init_26 : decode b_Ar_init 26 = .ok (.newarray .double, 2) := by decide +kernel
theorem d_Ar_init_28 : decode b_Ar_init 28 = .ok (.putfield 20, 3) := by decide +kernel
theorem d_Ar_init_31 : decode b_Ar_init 31 = .ok (.aload_n 0, 1) := by decide +kernel
theorem d_Ar_init_32 : decode b_Ar_init 32 = .ok (.invokestatic 24, 3) := by decide +kernel
theorem d_Ar_init_35 : decode b_Ar_init 35 = .ok (.putfield 28, 3) := by decide +kernel
theorem d_Ar_init_38 : decode b_Ar_init 38 = .ok (.aload_n 0, 1) := by decide +kernel
theorem d_Ar_init_39 : decode b_Ar_init 39 = .ok (.iconst 3, 1) := by decide +kernel
theorem d_Ar_init_40 : decode b_Ar_init 40 = .ok (.invokestatic 32, 3) := by decide +kernel
theorem d_Ar_init_43 : decode b_Ar_init 43 = .ok (.putfield 36, 3) := by decide +kernel
theorem d_Ar_init_46 : decode b_Ar_init 46 = .ok (.aload_n 0, 1) := by decide +kernel
theorem d_Ar_init_47 : decode b_Ar_init 47 = .ok (.new 39, 3) := by decide +kernel
theorem d_Ar_init_50 : decode b_Ar_init 50 = .ok (.dup, 1) := by decide +kernel
theorem d_Ar_init_51 : decode b_Ar_init 51 = .ok (.invokespecial 41, 3) := by decide +kernel
theorem d_Ar_init_54 : decode b_Ar_init 54 = .ok (.putfield 42, 3) := by decide +kernel
theorem d_Ar_init_57 : decode b_Ar_init 57 = .ok (.return_, 1) := by decide +kernel
theorem w_Ar_init (d : Nat) (a0 : Option Nat) (h : gk_H) : gk_P gw_V (d + 3) y_Ar_init b_Ar_init 1 none [] (f_Ar_init a0 h) 0 [(0, va_rf a0)] [] h := by
  unfold f_Ar_init
  refine gk_aload_n (pc := 0) 0 d_Ar_init_0 rfl ?_
  refine gk_objI (pc := 1) (d := (d + 2)) d_Ar_init_1 tw_173 (Nat.le_of_ble_eq_true rfl) ?_
  refine gk_aload_n (pc := 4) 0 d_Ar_init_4 rfl ?_
  refine gk_bipush (pc := 5) (8 : Int32) d_Ar_init_5 rfl ?_
  refine gk_newQ (pc := 7) d_Ar_init_7 tw_174 fun x1 h1 => ?_
  refine gk_putfield (pc := 10) 4 0 d_Ar_init_10 rfl (Nat.le_of_ble_eq_true rfl) tw_260 (Or.inr ⟨rfl, rfl⟩) fun h2 => ?_
  refine gk_aload_n (pc := 13) 0 d_Ar_init_13 rfl ?_
  refine gk_bipush (pc := 14) (8 : Int32) d_Ar_init_14 rfl ?_
  refine gk_newQ (pc := 16) d_Ar_init_16 tw_174 fun x2 h3 => ?_
  refine gk_putfield (pc := 19) 4 1 d_Ar_init_19 rfl (Nat.le_of_ble_eq_true rfl) tw_261 (Or.inr ⟨rfl, rfl⟩) fun h4 => ?_
  refine gk_aload_n (pc := 22) 0 d_Ar_init_22 rfl ?_
  refine gk_sipush (pc := 23) (128 : Int32) d_Ar_init_23 rfl ?_
  refine gk_newA (pc := 26) 6 d_Ar_init_26 rfl tw_234 (Nat.le_of_ble_eq_true rfl) fun x3 h5 => ?_
  refine gk_putfield (pc := 28) 4 4 d_Ar_init_28 rfl (Nat.le_of_ble_eq_true rfl) tw_264 (Or.inr ⟨rfl, rfl⟩) fun h6 => ?_
  refine gk_aload_n (pc := 31) 0 d_Ar_init_31 rfl ?_
  refine gk_callS (pc := 32) (d := (d + 2)) (w' := gv_R) (as := []) (n := 0) d_Ar_init_32 rfl rfl (by simp [gk_cat_rf, gk_catI, gk_catJ, gk_catD, gv_V, gv_I, gv_J, gv_D, gv_R]) tw_175 tw_176 tw_97 cw_Va_ofNothing hy_Va_ofNothing (Nat.le_of_ble_eq_true rfl) (p_Va_ofNothing d  h6) fun x4 h7 => ?_
  refine gk_putfield (pc := 35) 4 6 d_Ar_init_35 rfl (Nat.le_of_ble_eq_true rfl) tw_266 (Or.inr ⟨rfl, rfl⟩) fun h8 => ?_
  refine gk_aload_n (pc := 38) 0 d_Ar_init_38 rfl ?_
  refine gk_iconst (pc := 39) (3 : Int32) d_Ar_init_39 rfl ?_
  refine gk_callS (pc := 40) (d := (d + 2)) (w' := gv_R) (as := [.int (3 : Int32)]) (n := 1) d_Ar_init_40 rfl rfl (by simp [gk_cat_rf, gk_catI, gk_catJ, gk_catD, gv_V, gv_I, gv_J, gv_D, gv_R]) tw_235 tw_236 tw_97 cw_Va_ofError hy_Va_ofError (Nat.le_of_ble_eq_true rfl) (p_Va_ofError d (3 : Int32) h8) fun x5 h9 => ?_
  refine gk_putfield (pc := 43) 4 7 d_Ar_init_43 rfl (Nat.le_of_ble_eq_true rfl) tw_267 (Or.inr ⟨rfl, rfl⟩) fun h10 => ?_
  refine gk_aload_n (pc := 46) 0 d_Ar_init_46 rfl ?_
  refine gk_newO (pc := 47) 3 4 d_Ar_init_47 rfl tw_238 tw_239 tw_98 fun x6 h11 => ?_
  refine gk_dup (pc := 50) d_Ar_init_50 (gk_cat_rf _) ?_
  refine gk_callIN (host := "ValueAlgebra") (pc := 51) (d := (d + 2)) (w' := gv_V) (as := []) (n := 0) 3 d_Ar_init_51 rfl rfl (by simp [gk_cat_rf, gk_catI, gk_catJ, gk_catD, gv_V, gv_I, gv_J, gv_D, gv_R]) (by decide +kernel) tw_241 tw_98 cw_Li_init rfl hy_Li_init (Nat.le_of_ble_eq_true rfl) (p_Li_init (d + 1) x6 h11) fun _ h12 => ?_
  refine gk_putfield (pc := 54) 4 8 d_Ar_init_54 rfl (Nat.le_of_ble_eq_true rfl) tw_268 (Or.inr ⟨rfl, rfl⟩) fun h13 => ?_
  exact gk_vret (pc := 57) rfl d_Ar_init_57 rfl
theorem p_Ar_init (d : Nat) (a0 : Option Nat) (h : gk_H) : ∀ r h1, f_Ar_init a0 h = some (r, h1) → gk_M (d + 3) y_Ar_init b_Ar_init 1 none [va_rf a0] h (.inl (gv_V r)) h1 :=
  fun r h1 e => gk_M_of2 (by decide +kernel) (by simp [lv_args, gk_cat_rf, gk_catI, gk_catJ, gk_catD, gv_V, gv_I, gv_J, gv_D, gv_R]) (by simp [lg_sl, gk_cat_rf, gk_catI, gk_catJ, gk_catD, gv_V, gv_I, gv_J, gv_D, gv_R]) (w_Ar_init d a0 h r h1 e)
theorem d_A_init_0 : decode b_A_init 0 = .ok (.aload_n 0, 1) := by decide +kernel
theorem d_A_init_1 : decode b_A_init 1 = .ok (.invokespecial 1, 3) := by decide +kernel
theorem d_A_init_4 : decode b_A_init 4 = .ok (.aload_n 0, 1) := by decide +kernel
theorem d_A_init_5 : decode b_A_init 5 = .ok (.bipush 16, 2) := by decide +kernel
theorem d_A_init_7 : decode b_A_init 7 = .ok (.anewarray 9, 3) := by decide +kernel
theorem d_A_init_10 : decode b_A_init 10 = .ok (.putfield 11, 3) := by decide +kernel
theorem d_A_init_13 : decode b_A_init 13 = .ok (.aload_n 0, 1) := by decide +kernel
theorem d_A_init_14 : decode b_A_init 14 = .ok (.new 15, 3) := by decide +kernel
theorem d_A_init_17 : decode b_A_init 17 = .ok (.dup, 1) := by decide +kernel
theorem d_A_init_18 : decode b_A_init 18 = .ok (.invokespecial 17, 3) := by decide +kernel
theorem d_A_init_21 : decode b_A_init 21 = .ok (.putfield 18, 3) := by decide +kernel
theorem d_A_init_24 : decode b_A_init 24 = .ok (.aload_n 0, 1) := by decide +kernel
theorem d_A_init_25 : decode b_A_init 25 = .ok (.new 22, 3) := by decide +kernel
theorem d_A_init_28 : decode b_A_init 28 = .ok (.dup, 1) := by decide +kernel
theorem d_A_init_29 : decode b_A_init 29 = .ok (.invokespecial 24, 3) := by decide +kernel
theorem d_A_init_32 : decode b_A_init 32 = .ok (.putfield 25, 3) := by decide +kernel
theorem d_A_init_35 : decode b_A_init 35 = .ok (.aload_n 0, 1) := by decide +kernel
theorem d_A_init_36 : decode b_A_init 36 = .ok (.iconst 0, 1) := by decide +kernel
theorem d_A_init_37 : decode b_A_init 37 = .ok (.putfield 29, 3) := by decide +kernel
theorem d_A_init_40 : decode b_A_init 40 = .ok (.return_, 1) := by decide +kernel
theorem w_A_init (d : Nat) (a0 : Option Nat) (h : gk_H) : gk_P gw_V (d + 4) y_A_init b_A_init 1 none [] (f_A_init a0 h) 0 [(0, va_rf a0)] [] h := by
  unfold f_A_init
  refine gk_aload_n (pc := 0) 0 d_A_init_0 rfl ?_
  refine gk_objI (pc := 1) (d := (d + 3)) d_A_init_1 tw_130 (Nat.le_of_ble_eq_true rfl) ?_
  refine gk_aload_n (pc := 4) 0 d_A_init_4 rfl ?_
  refine gk_bipush (pc := 5) (16 : Int32) d_A_init_5 rfl ?_
  refine gk_newQ (pc := 7) d_A_init_7 tw_133 fun x1 h1 => ?_
  refine gk_putfield (pc := 10) 5 0 d_A_init_10 rfl (Nat.le_of_ble_eq_true rfl) tw_291 (Or.inr ⟨rfl, rfl⟩) fun h2 => ?_
  refine gk_aload_n (pc := 13) 0 d_A_init_13 rfl ?_
  refine gk_newO (pc := 14) 1 4 d_A_init_14 rfl tw_135 tw_136 tw_93 fun x2 h3 => ?_
  refine gk_dup (pc := 17) d_A_init_17 (gk_cat_rf _) ?_
  refine gk_callI (pc := 18) (d := (d + 3)) (w' := gv_V) (as := []) (n := 0) 1 d_A_init_18 rfl rfl (by simp [gk_cat_rf, gk_catI, gk_catJ, gk_catD, gv_V, gv_I, gv_J, gv_D, gv_R]) tw_137 tw_138 tw_93 cw_SB_init rfl hy_SB_init (Nat.le_of_ble_eq_true rfl) (p_SB_init (d + 1) x2 h3) fun _ h4 => ?_
  refine gk_putfield (pc := 21) 5 2 d_A_init_21 rfl (Nat.le_of_ble_eq_true rfl) tw_293 (Or.inr ⟨rfl, rfl⟩) fun h5 => ?_
  refine gk_aload_n (pc := 24) 0 d_A_init_24 rfl ?_
  refine gk_newO (pc := 25) 4 9 d_A_init_25 rfl tw_168 tw_169 tw_96 fun x3 h6 => ?_
  refine gk_dup (pc := 28) d_A_init_28 (gk_cat_rf _) ?_
  refine gk_callIN (host := "ValueAlgebra") (pc := 29) (d := (d + 3)) (w' := gv_V) (as := []) (n := 0) 4 d_A_init_29 rfl rfl (by simp [gk_cat_rf, gk_catI, gk_catJ, gk_catD, gv_V, gv_I, gv_J, gv_D, gv_R]) (by decide +kernel) tw_171 tw_96 cw_Ar_init rfl hy_Ar_init (Nat.le_of_ble_eq_true rfl) (p_Ar_init d x3 h6) fun _ h7 => ?_
  refine gk_putfield (pc := 32) 5 3 d_A_init_32 rfl (Nat.le_of_ble_eq_true rfl) tw_294 (Or.inr ⟨rfl, rfl⟩) fun h8 => ?_
  refine gk_aload_n (pc := 35) 0 d_A_init_35 rfl ?_
  refine gk_iconst (pc := 36) (0 : Int32) d_A_init_36 rfl ?_
  refine gk_putfield (pc := 37) 5 1 d_A_init_37 rfl (Nat.le_of_ble_eq_true rfl) tw_292 (Or.inl rfl) fun h9 => ?_
  exact gk_vret (pc := 40) rfl d_A_init_40 rfl
theorem p_A_init (d : Nat) (a0 : Option Nat) (h : gk_H) : ∀ r h1, f_A_init a0 h = some (r, h1) → gk_M (d + 4) y_A_init b_A_init 1 none [va_rf a0] h (.inl (gv_V r)) h1 :=
  fun r h1 e => gk_M_of2 (by decide +kernel) (by simp [lv_args, gk_cat_rf, gk_catI, gk_catJ, gk_catD, gv_V, gv_I, gv_J, gv_D, gv_R]) (by simp [lg_sl, gk_cat_rf, gk_catI, gk_catJ, gk_catD, gv_V, gv_I, gv_J, gv_D, gv_R]) (w_A_init d a0 h r h1 e)
theorem d_A_size_0 : decode b_A_size 0 = .ok (.aload_n 0, 1) := by decide +kernel
theorem d_A_size_1 : decode b_A_size 1 = .ok (.getfield 29, 3) := by decide +kernel
theorem d_A_size_4 : decode b_A_size 4 = .ok (.ireturn, 1) := by decide +kernel
theorem w_A_size (d : Nat) (a0 : Option Nat) (h : gk_H) : gk_P gw_I d y_A_size b_A_size 1 (some .int) [] (f_A_size a0 h) 0 [(0, va_rf a0)] [] h := by
  unfold f_A_size
  refine gk_aload_n (pc := 0) 0 d_A_size_0 rfl ?_
  refine gk_getI (pc := 1) 5 1 d_A_size_1 rfl (Nat.le_of_ble_eq_true rfl) tw_292 fun x1 => ?_
  exact gk_iret (pc := 4) rfl d_A_size_4 rfl
theorem p_A_size (d : Nat) (a0 : Option Nat) (h : gk_H) : ∀ r h1, f_A_size a0 h = some (r, h1) → gk_M d y_A_size b_A_size 1 (some .int) [va_rf a0] h (.inl (gv_I r)) h1 :=
  fun r h1 e => gk_M_of2 (by decide +kernel) (by simp [lv_args, gk_cat_rf, gk_catI, gk_catJ, gk_catD, gv_V, gv_I, gv_J, gv_D, gv_R]) (by simp [lg_sl, gk_cat_rf, gk_catI, gk_catJ, gk_catD, gv_V, gv_I, gv_J, gv_D, gv_R]) (w_A_size d a0 h r h1 e)
theorem d_Va_isFinite_0 : decode b_Va_isFinite 0 = .ok (.dload_n 0, 1) := by decide +kernel
theorem d_Va_isFinite_1 : decode b_Va_isFinite 1 = .ok (.ldc2_w 51, 3) := by decide +kernel
theorem d_Va_isFinite_4 : decode b_Va_isFinite 4 = .ok (.dcmp .l, 1) := by decide +kernel
theorem d_Va_isFinite_5 : decode b_Va_isFinite 5 = .ok (.ifCond .lt 15, 3) := by decide +kernel
theorem d_Va_isFinite_8 : decode b_Va_isFinite 8 = .ok (.dload_n 0, 1) := by decide +kernel
theorem d_Va_isFinite_9 : decode b_Va_isFinite 9 = .ok (.ldc2_w 53, 3) := by decide +kernel
theorem d_Va_isFinite_12 : decode b_Va_isFinite 12 = .ok (.dcmp .g, 1) := by decide +kernel
theorem d_Va_isFinite_13 : decode b_Va_isFinite 13 = .ok (.ifCond .gt 7, 3) := by decide +kernel
theorem d_Va_isFinite_16 : decode b_Va_isFinite 16 = .ok (.iconst 1, 1) := by decide +kernel
theorem d_Va_isFinite_17 : decode b_Va_isFinite 17 = .ok (.goto 4, 3) := by decide +kernel
theorem d_Va_isFinite_20 : decode b_Va_isFinite 20 = .ok (.iconst 0, 1) := by decide +kernel
theorem d_Va_isFinite_21 : decode b_Va_isFinite 21 = .ok (.ireturn, 1) := by decide +kernel
theorem p_Va_isFinite_b21 (d : Nat)  (s0 : Int32) (h : gk_H) : gk_P gw_I d y_Va_isFinite b_Va_isFinite 2 (some .boolean) [] (f_Va_isFinite_b21  s0 h) 21 [] [.int s0] h := by
  unfold f_Va_isFinite_b21
  exact gk_zret (pc := 21) rfl d_Va_isFinite_21 rfl
theorem p_Va_isFinite_b20 (d : Nat)   (h : gk_H) : gk_P gw_I d y_Va_isFinite b_Va_isFinite 2 (some .boolean) [] (f_Va_isFinite_b20   h) 20 [] [] h := by
  unfold f_Va_isFinite_b20
  refine gk_iconst (pc := 20) (0 : Int32) d_Va_isFinite_20 rfl ?_
  exact p_Va_isFinite_b21 d (0 : Int32) h
theorem w_Va_isFinite (d : Nat) (a0 : UInt64) (h : gk_H) : gk_P gw_I d y_Va_isFinite b_Va_isFinite 2 (some .boolean) [] (f_Va_isFinite a0 h) 0 [(0, .double a0)] [] h := by
  unfold f_Va_isFinite
  refine gk_dload_n (pc := 0) 0 d_Va_isFinite_0 rfl ?_
  refine gk_ldc2d (pc := 1) tw_322 d_Va_isFinite_1 ?_
  refine gk_dcmp (pc := 4) d_Va_isFinite_4 ?_
  refine gk_if_lt (pc := 5) 20 d_Va_isFinite_5 rfl (fun _ => ?_) (fun _ => ?_)
  · refine gk_weak [] (L' := []) rfl ?_
    exact p_Va_isFinite_b20 d h
  · refine gk_dload_n (pc := 8) 0 d_Va_isFinite_8 rfl ?_
    refine gk_ldc2d (pc := 9) tw_323 d_Va_isFinite_9 ?_
    refine gk_dcmp (pc := 12) d_Va_isFinite_12 ?_
    refine gk_if_gt (pc := 13) 20 d_Va_isFinite_13 rfl (fun _ => ?_) (fun _ => ?_)
    · refine gk_weak [] (L' := []) rfl ?_
      exact p_Va_isFinite_b20 d h
    · refine gk_iconst (pc := 16) (1 : Int32) d_Va_isFinite_16 rfl ?_
      refine gk_goto (pc := 17) 21 d_Va_isFinite_17 rfl ?_
      refine gk_weak [] (L' := []) rfl ?_
      exact p_Va_isFinite_b21 d (1 : Int32) h
theorem p_Va_isFinite (d : Nat) (a0 : UInt64) (h : gk_H) : ∀ r h1, f_Va_isFinite a0 h = some (r, h1) → gk_M d y_Va_isFinite b_Va_isFinite 2 (some .boolean) [.double a0] h (.inl (gv_I r)) h1 :=
  fun r h1 e => gk_M_of2 (by decide +kernel) (by simp [lv_args, gk_cat_rf, gk_catI, gk_catJ, gk_catD, gv_V, gv_I, gv_J, gv_D, gv_R]) (by simp [lg_sl, gk_cat_rf, gk_catI, gk_catJ, gk_catD, gv_V, gv_I, gv_J, gv_D, gv_R]) (w_Va_isFinite d a0 h r h1 e)
theorem d_Va_ofNumber_0 : decode b_Va_ofNumber 0 = .ok (.dload_n 0, 1) := by decide +kernel
theorem d_Va_ofNumber_1 : decode b_Va_ofNumber 1 = .ok (.invokestatic 41, 3) := by decide +kernel
theorem d_Va_ofNumber_4 : decode b_Va_ofNumber 4 = .ok (.ifCond .ne 20, 3) := by decide +kernel
theorem d_Va_ofNumber_7 : decode b_Va_ofNumber 7 = .ok (.new 10, 3) := by decide +kernel
theorem d_Va_ofNumber_10 : decode b_Va_ofNumber 10 = .ok (.dup, 1) := by decide +kernel
theorem d_Va_ofNumber_11 : decode b_Va_ofNumber 11 = .ok (.iconst 4, 1) := by decide +kernel
theorem d_Va_ofNumber_12 : decode b_Va_ofNumber 12 = .ok (.bipush 6, 2) := by decide +kernel
theorem d_Va_ofNumber_14 : decode b_Va_ofNumber 14 = .ok (.dconst 0, 1) := by decide +kernel
theorem d_Va_ofNumber_15 : decode b_Va_ofNumber 15 = .ok (.ldc 36, 2) := by decide +kernel
theorem d_Va_ofNumber_17 : decode b_Va_ofNumber 17 = .ok (.iconst 1, 1) := by decide +kernel
theorem d_Va_ofNumber_18 : decode b_Va_ofNumber 18 = .ok (.iconst 1, 1) := by decide +kernel
theorem d_Va_ofNumber_19 : decode b_Va_ofNumber 19 = .ok (.aconst_null, 1) := by decide +kernel
theorem d_Va_ofNumber_20 : decode b_Va_ofNumber 20 = .ok (.invokespecial 38, 3) := by decide +kernel
theorem d_Va_ofNumber_23 : decode b_Va_ofNumber 23 = .ok (.areturn, 1) := by decide +kernel
theorem d_Va_ofNumber_24 : decode b_Va_ofNumber 24 = .ok (.new 10, 3) := by decide +kernel
theorem d_Va_ofNumber_27 : decode b_Va_ofNumber 27 = .ok (.dup, 1) := by decide +kernel
theorem d_Va_ofNumber_28 : decode b_Va_ofNumber 28 = .ok (.iconst 1, 1) := by decide +kernel
theorem d_Va_ofNumber_29 : decode b_Va_ofNumber 29 = .ok (.iconst 0, 1) := by decide +kernel
theorem d_Va_ofNumber_30 : decode b_Va_ofNumber 30 = .ok (.dload_n 0, 1) := by decide +kernel
theorem d_Va_ofNumber_31 : decode b_Va_ofNumber 31 = .ok (.dconst 0, 1) := by decide +kernel
theorem d_Va_ofNumber_32 : decode b_Va_ofNumber 32 = .ok (.dcmp .l, 1) := by decide +kernel
theorem d_Va_ofNumber_33 : decode b_Va_ofNumber 33 = .ok (.ifCond .ne 7, 3) := by decide +kernel
theorem d_Va_ofNumber_36 : decode b_Va_ofNumber 36 = .ok (.dconst 0, 1) := by decide +kernel
theorem d_Va_ofNumber_37 : decode b_Va_ofNumber 37 = .ok (.goto 4, 3) := by decide +kernel
theorem d_Va_ofNumber_40 : decode b_Va_ofNumber 40 = .ok (.dload_n 0, 1) := by decide +kernel
theorem d_Va_ofNumber_41 : decode b_Va_ofNumber 41 = .ok (.ldc 36, 2) := by decide +kernel
theorem d_Va_ofNumber_43 : decode b_Va_ofNumber 43 = .ok (.iconst 1, 1) := by decide +kernel
theorem d_Va_ofNumber_44 : decode b_Va_ofNumber 44 = .ok (.iconst 1, 1) := by decide +kernel
theorem d_Va_ofNumber_45 : decode b_Va_ofNumber 45 = .ok (.aconst_null, 1) := by decide +kernel
theorem d_Va_ofNumber_46 : decode b_Va_ofNumber 46 = .ok (.invokespecial 38, 3) := by decide +kernel
theorem d_Va_ofNumber_49 : decode b_Va_ofNumber 49 = .ok (.areturn, 1) := by decide +kernel
theorem p_Va_ofNumber_b41 (d : Nat)  (s0 : Option Nat) (s1 : Option Nat) (s2 : Int32) (s3 : Int32) (s4 : UInt64) (h : gk_H) : gk_P gw_R (d + 2) y_Va_ofNumber b_Va_ofNumber 2 (some (.object "ValueAlgebra$Value")) [] (f_Va_ofNumber_b41  s0 s1 s2 s3 s4 h) 41 [] [.double s4, .int s3, .int s2, va_rf s1, va_rf s0] h := by
  unfold f_Va_ofNumber_b41
  refine gk_ldcS (pc := 41) "" 4 d_Va_ofNumber_41 (by decide +kernel) ?_
  refine gk_iconst (pc := 43) (1 : Int32) d_Va_ofNumber_43 rfl ?_
  refine gk_iconst (pc := 44) (1 : Int32) d_Va_ofNumber_44 rfl ?_
  refine gk_anull (pc := 45) d_Va_ofNumber_45 ?_
  refine gk_callI (pc := 46) (d := (d + 1)) (w' := gv_V) (as := [.int s2, .int s3, .double s4, va_rf (some 4), .int (1 : Int32), .int (1 : Int32), va_rf none]) (n := 7) 2 d_Va_ofNumber_46 rfl rfl (by simp [gk_cat_rf, gk_catI, gk_catJ, gk_catD, gv_V, gv_I, gv_J, gv_D, gv_R]) tw_181 tw_182 tw_97 cw_Va_init rfl hy_Va_init (Nat.le_of_ble_eq_true rfl) (p_Va_init d s1 s2 s3 s4 (some 4) (1 : Int32) (1 : Int32) none h) fun _ h1 => ?_
  exact gk_aret (pc := 49) rfl d_Va_ofNumber_49 rfl (Or.inl ⟨_, rfl⟩)
theorem w_Va_ofNumber (d : Nat) (a0 : UInt64) (h : gk_H) : gk_P gw_R (d + 2) y_Va_ofNumber b_Va_ofNumber 2 (some (.object "ValueAlgebra$Value")) [] (f_Va_ofNumber a0 h) 0 [(0, .double a0)] [] h := by
  unfold f_Va_ofNumber
  refine gk_dload_n (pc := 0) 0 d_Va_ofNumber_0 rfl ?_
  refine gk_callS (pc := 1) (d := (d + 1)) (w' := gv_I) (as := [.double a0]) (n := 1) d_Va_ofNumber_1 rfl rfl (Nat.le_of_ble_eq_true rfl) tw_319 tw_320 tw_97 cw_Va_isFinite hy_Va_isFinite (Nat.le_of_ble_eq_true rfl) (p_Va_isFinite (d + 1) a0 h) fun x1 h1 => ?_
  refine gk_if_ne (pc := 4) 24 d_Va_ofNumber_4 rfl (fun _ => ?_) (fun _ => ?_)
  · refine gk_newO (pc := 7) 2 7 d_Va_ofNumber_7 rfl tw_178 tw_179 tw_97 fun x2 h2 => ?_
    refine gk_dup (pc := 10) d_Va_ofNumber_10 (gk_cat_rf _) ?_
    refine gk_iconst (pc := 11) (4 : Int32) d_Va_ofNumber_11 rfl ?_
    refine gk_bipush (pc := 12) (6 : Int32) d_Va_ofNumber_12 rfl ?_
    refine gk_dconst0 (pc := 14) d_Va_ofNumber_14 ?_
    refine gk_ldcS (pc := 15) "" 4 d_Va_ofNumber_15 (by decide +kernel) ?_
    refine gk_iconst (pc := 17) (1 : Int32) d_Va_ofNumber_17 rfl ?_
    refine gk_iconst (pc := 18) (1 : Int32) d_Va_ofNumber_18 rfl ?_
    refine gk_anull (pc := 19) d_Va_ofNumber_19 ?_
    refine gk_callI (pc := 20) (d := (d + 1)) (w' := gv_V) (as := [.int (4 : Int32), .int (6 : Int32), .double (0x0000000000000000), va_rf (some 4), .int (1 : Int32), .int (1 : Int32), va_rf none]) (n := 7) 2 d_Va_ofNumber_20 rfl rfl (by simp [gk_cat_rf, gk_catI, gk_catJ, gk_catD, gv_V, gv_I, gv_J, gv_D, gv_R]) tw_181 tw_182 tw_97 cw_Va_init rfl hy_Va_init (Nat.le_of_ble_eq_true rfl) (p_Va_init d x2 (4 : Int32) (6 : Int32) (0x0000000000000000) (some 4) (1 : Int32) (1 : Int32) none h2) fun _ h3 => ?_
    exact gk_aret (pc := 23) rfl d_Va_ofNumber_23 rfl (Or.inl ⟨_, rfl⟩)
  · refine gk_newO (pc := 24) 2 7 d_Va_ofNumber_24 rfl tw_178 tw_179 tw_97 fun x3 h4 => ?_
    refine gk_dup (pc := 27) d_Va_ofNumber_27 (gk_cat_rf _) ?_
    refine gk_iconst (pc := 28) (1 : Int32) d_Va_ofNumber_28 rfl ?_
    refine gk_iconst (pc := 29) (0 : Int32) d_Va_ofNumber_29 rfl ?_
    refine gk_dload_n (pc := 30) 0 d_Va_ofNumber_30 rfl ?_
    refine gk_dconst0 (pc := 31) d_Va_ofNumber_31 ?_
    refine gk_dcmp (pc := 32) d_Va_ofNumber_32 ?_
    refine gk_if_ne (pc := 33) 40 d_Va_ofNumber_33 rfl (fun _ => ?_) (fun _ => ?_)
    · refine gk_dconst0 (pc := 36) d_Va_ofNumber_36 ?_
      refine gk_goto (pc := 37) 41 d_Va_ofNumber_37 rfl ?_
      refine gk_weak [] (L' := []) rfl ?_
      exact p_Va_ofNumber_b41 d x3 x3 (1 : Int32) (0 : Int32) (0x0000000000000000) h4
    · refine gk_dload_n (pc := 40) 0 d_Va_ofNumber_40 rfl ?_
      refine gk_weak [] (L' := []) rfl ?_
      exact p_Va_ofNumber_b41 d x3 x3 (1 : Int32) (0 : Int32) a0 h4
theorem p_Va_ofNumber (d : Nat) (a0 : UInt64) (h : gk_H) : ∀ r h1, f_Va_ofNumber a0 h = some (r, h1) → gk_M (d + 2) y_Va_ofNumber b_Va_ofNumber 2 (some (.object "ValueAlgebra$Value")) [.double a0] h (.inl (gv_R r)) h1 :=
  fun r h1 e => gk_M_of2 (by decide +kernel) (by simp [lv_args, gk_cat_rf, gk_catI, gk_catJ, gk_catD, gv_V, gv_I, gv_J, gv_D, gv_R]) (by simp [lg_sl, gk_cat_rf, gk_catI, gk_catJ, gk_catD, gv_V, gv_I, gv_J, gv_D, gv_R]) (w_Va_ofNumber d a0 h r h1 e)
theorem d_A_push_0 : decode b_A_push 0 = .ok (.aload_n 0, 1) := by decide +kernel
theorem d_A_push_1 : decode b_A_push 1 = .ok (.getfield 29, 3) := by decide +kernel
theorem d_A_push_4 : decode b_A_push 4 = .ok (.bipush 16, 2) := by decide +kernel
theorem d_A_push_6 : decode b_A_push 6 = .ok (.if_icmp .lt 13, 3) := by decide +kernel
theorem d_A_push_9 : decode b_A_push 9 = .ok (.new 52, 3) := by decide +kernel
theorem d_A_push_12 : decode b_A_push 12 = .ok (.dup, 1) := by decide +kernel
theorem d_A_push_13 : decode b_A_push 13 = .ok (.ldc 135, 2) := by decide +kernel
theorem d_A_push_15 : decode b_A_push 15 = .ok (.invokespecial 56, 3) := by decide +kernel
theorem d_A_push_18 : decode b_A_push 18 = .ok (.athrow, 1) := by decide +kernel
theorem d_A_push_19 : decode b_A_push 19 = .ok (.aload_n 0, 1) := by decide +kernel
theorem d_A_push_20 : decode b_A_push 20 = .ok (.getfield 11, 3) := by decide +kernel
theorem d_A_push_23 : decode b_A_push 23 = .ok (.aload_n 0, 1) := by decide +kernel
theorem d_A_push_24 : decode b_A_push 24 = .ok (.getfield 29, 3) := by decide +kernel
theorem d_A_push_27 : decode b_A_push 27 = .ok (.aload_n 1, 1) := by decide +kernel
theorem d_A_push_28 : decode b_A_push 28 = .ok (.aastore, 1) := by decide +kernel
theorem d_A_push_29 : decode b_A_push 29 = .ok (.aload_n 0, 1) := by decide +kernel
theorem d_A_push_30 : decode b_A_push 30 = .ok (.dup, 1) := by decide +kernel
theorem d_A_push_31 : decode b_A_push 31 = .ok (.getfield 29, 3) := by decide +kernel
theorem d_A_push_34 : decode b_A_push 34 = .ok (.iconst 1, 1) := by decide +kernel
theorem d_A_push_35 : decode b_A_push 35 = .ok (.iadd, 1) := by decide +kernel
theorem d_A_push_36 : decode b_A_push 36 = .ok (.putfield 29, 3) := by decide +kernel
theorem d_A_push_39 : decode b_A_push 39 = .ok (.return_, 1) := by decide +kernel
theorem w_A_push (d : Nat) (a0 : Option Nat) (a1 : Option Nat) (h : gk_H) : gk_P gx_V (d + 8) y_A_push b_A_push 2 none [] (f_A_push a0 a1 h) 0 [(0, va_rf a0), (1, va_rf a1)] [] h := by
  unfold f_A_push
  refine gk_aload_n (pc := 0) 0 d_A_push_0 rfl ?_
  refine gk_getI (pc := 1) 5 1 d_A_push_1 rfl (Nat.le_of_ble_eq_true rfl) tw_292 fun x1 => ?_
  refine gk_bipush (pc := 4) (16 : Int32) d_A_push_4 rfl ?_
  refine gk_icmp_lt (pc := 6) 19 d_A_push_6 rfl (fun _ => ?_) (fun _ => ?_)
  · refine gk_aload_n (pc := 19) 0 d_A_push_19 rfl ?_
    refine gk_getR (pc := 20) 5 0 d_A_push_20 rfl (Nat.le_of_ble_eq_true rfl) tw_291 fun x2 => ?_
    refine gk_aload_n (pc := 23) 0 d_A_push_23 rfl ?_
    refine gk_getI (pc := 24) 5 1 d_A_push_24 rfl (Nat.le_of_ble_eq_true rfl) tw_292 fun x3 => ?_
    refine gk_aload_n (pc := 27) 1 d_A_push_27 rfl ?_
    refine gk_aast (pc := 28) d_A_push_28 fun h1 => ?_
    refine gk_aload_n (pc := 29) 0 d_A_push_29 rfl ?_
    refine gk_dup (pc := 30) d_A_push_30 (gk_cat_rf _) ?_
    refine gk_getI (pc := 31) 5 1 d_A_push_31 rfl (Nat.le_of_ble_eq_true rfl) tw_292 fun x4 => ?_
    refine gk_iconst (pc := 34) (1 : Int32) d_A_push_34 rfl ?_
    refine gk_iadd (pc := 35) d_A_push_35 ?_
    refine gk_putfield (pc := 36) 5 1 d_A_push_36 rfl (Nat.le_of_ble_eq_true rfl) tw_292 (Or.inl rfl) fun h2 => ?_
    exact gk_vret (pc := 39) rfl d_A_push_39 rfl
  · exact gk_throw (pc := 9) (text := "there is no room on the stack") (is := 135) rfl (by omega) (by decide +kernel) (by decide +kernel) tw_328 tw_103 (by decide +kernel) ex_IllegalStateException_56 eg_IllegalStateException_56 d_A_push_9 d_A_push_12 d_A_push_13 d_A_push_15 d_A_push_18 (Nat.le_of_ble_eq_true rfl)
theorem p_A_push (d : Nat) (a0 : Option Nat) (a1 : Option Nat) (h : gk_H) : ∀ r h1, f_A_push a0 a1 h = some (r, h1) → gk_M (d + 8) y_A_push b_A_push 2 none [va_rf a0, va_rf a1] h (gx_V r) h1 :=
  fun r h1 e => gk_M_of2 (by decide +kernel) (by simp [lv_args, gk_cat_rf, gk_catI, gk_catJ, gk_catD, gv_V, gv_I, gv_J, gv_D, gv_R]) (by simp [lg_sl, gk_cat_rf, gk_catI, gk_catJ, gk_catD, gv_V, gv_I, gv_J, gv_D, gv_R]) (w_A_push d a0 a1 h r h1 e)
theorem d_A_number_0 : decode b_A_number 0 = .ok (.aload_n 0, 1) := by decide +kernel
theorem d_A_number_1 : decode b_A_number 1 = .ok (.dload_n 1, 1) := by decide +kernel
theorem d_A_number_2 : decode b_A_number 2 = .ok (.invokestatic 33, 3) := by decide +kernel
theorem d_A_number_5 : decode b_A_number 5 = .ok (.invokevirtual 37, 3) := by decide +kernel
theorem d_A_number_8 : decode b_A_number 8 = .ok (.return_, 1) := by decide +kernel
theorem w_A_number (d : Nat) (a0 : Option Nat) (a1 : UInt64) (h : gk_H) : gk_P gx_V (d + 9) y_A_number b_A_number 3 none [] (f_A_number a0 a1 h) 0 [(0, va_rf a0), (1, .double a1)] [] h := by
  unfold f_A_number
  refine gk_aload_n (pc := 0) 0 d_A_number_0 rfl ?_
  refine gk_dload_n (pc := 1) 1 d_A_number_1 rfl ?_
  refine gk_callS (pc := 2) (d := (d + 8)) (w' := gv_R) (as := [.double a1]) (n := 1) d_A_number_2 rfl rfl (by simp [gk_cat_rf, gk_catI, gk_catJ, gk_catD, gv_V, gv_I, gv_J, gv_D, gv_R]) tw_316 tw_317 tw_97 cw_Va_ofNumber hy_Va_ofNumber (Nat.le_of_ble_eq_true rfl) (p_Va_ofNumber (d + 6) a1 h) fun x1 h1 => ?_
  refine gk_callVXV (pc := 5) (d := (d + 8)) (as := [va_rf x1]) (n := 1) 5 d_A_number_5 rfl rfl rfl rfl (Nat.le_of_ble_eq_true rfl) tw_324 tw_326 tw_4 tw_91 cw_A_push hy_A_push (Nat.le_of_ble_eq_true rfl) (p_A_push d a0 x1 h1) (fun _ => rfl) fun _ h2 => ?_
  exact gk_vret (pc := 8) rfl d_A_number_8 rfl
theorem p_A_number (d : Nat) (a0 : Option Nat) (a1 : UInt64) (h : gk_H) : ∀ r h1, f_A_number a0 a1 h = some (r, h1) → gk_M (d + 9) y_A_number b_A_number 3 none [va_rf a0, .double a1] h (gx_V r) h1 :=
  fun r h1 e => gk_M_of2 (by decide +kernel) (by simp [lv_args, gk_cat_rf, gk_catI, gk_catJ, gk_catD, gv_V, gv_I, gv_J, gv_D, gv_R]) (by simp [lg_sl, gk_cat_rf, gk_catI, gk_catJ, gk_catD, gv_V, gv_I, gv_J, gv_D, gv_R]) (w_A_number d a0 a1 h r h1 e)
theorem d_A_type_0 : decode b_A_type 0 = .ok (.iconst 0, 1) := by decide +kernel
theorem d_A_type_1 : decode b_A_type 1 = .ok (.istore_n 2, 1) := by decide +kernel
theorem d_A_type_2 : decode b_A_type 2 = .ok (.bipush 24, 2) := by decide +kernel
theorem d_A_type_4 : decode b_A_type 4 = .ok (.istore_n 3, 1) := by decide +kernel
theorem d_A_type_5 : decode b_A_type 5 = .ok (.iload_n 3, 1) := by decide +kernel
theorem d_A_type_6 : decode b_A_type 6 = .ok (.ifCond .lt 50, 3) := by decide +kernel
theorem d_A_type_9 : decode b_A_type 9 = .ok (.iload_n 1, 1) := by decide +kernel
theorem d_A_type_10 : decode b_A_type 10 = .ok (.iload_n 3, 1) := by decide +kernel
theorem d_A_type_11 : decode b_A_type 11 = .ok (.iushr, 1) := by decide +kernel
theorem d_A_type_12 : decode b_A_type 12 = .ok (.sipush 255, 3) := by decide +kernel
theorem d_A_type_15 : decode b_A_type 15 = .ok (.iand, 1) := by decide +kernel
theorem d_A_type_16 : decode b_A_type 16 = .ok (.istore 4, 2) := by decide +kernel
theorem d_A_type_18 : decode b_A_type 18 = .ok (.iload 4, 2) := by decide +kernel
theorem d_A_type_20 : decode b_A_type 20 = .ok (.ifCond .eq 30, 3) := by decide +kernel
theorem d_A_type_23 : decode b_A_type 23 = .ok (.iload 4, 2) := by decide +kernel
theorem d_A_type_25 : decode b_A_type 25 = .ok (.bipush 32, 2) := by decide +kernel
theorem d_A_type_27 : decode b_A_type 27 = .ok (.if_icmp .lt 10, 3) := by decide +kernel
theorem d_A_type_30 : decode b_A_type 30 = .ok (.iload 4, 2) := by decide +kernel
theorem d_A_type_32 : decode b_A_type 32 = .ok (.bipush 126, 2) := by decide +kernel
theorem d_A_type_34 : decode b_A_type 34 = .ok (.if_icmp .le 13, 3) := by decide +kernel
theorem d_A_type_37 : decode b_A_type 37 = .ok (.new 41, 3) := by decide +kernel
theorem d_A_type_40 : decode b_A_type 40 = .ok (.dup, 1) := by decide +kernel
theorem d_A_type_41 : decode b_A_type 41 = .ok (.ldc 43, 2) := by decide +kernel
theorem d_A_type_43 : decode b_A_type 43 = .ok (.invokespecial 45, 3) := by decide +kernel
theorem d_A_type_46 : decode b_A_type 46 = .ok (.athrow, 1) := by decide +kernel
theorem d_A_type_47 : decode b_A_type 47 = .ok (.iinc 2 1, 3) := by decide +kernel
theorem d_A_type_50 : decode b_A_type 50 = .ok (.iinc 3 (-8), 3) := by decide +kernel
theorem d_A_type_53 : decode b_A_type 53 = .ok (.goto (-48), 3) := by decide +kernel
theorem d_A_type_56 : decode b_A_type 56 = .ok (.aload_n 0, 1) := by decide +kernel
theorem d_A_type_57 : decode b_A_type 57 = .ok (.getfield 18, 3) := by decide +kernel
theorem d_A_type_60 : decode b_A_type 60 = .ok (.invokevirtual 48, 3) := by decide +kernel
theorem d_A_type_63 : decode b_A_type 63 = .ok (.iload_n 2, 1) := by decide +kernel
theorem d_A_type_64 : decode b_A_type 64 = .ok (.iadd, 1) := by decide +kernel
theorem d_A_type_65 : decode b_A_type 65 = .ok (.sipush 255, 3) := by decide +kernel
theorem d_A_type_68 : decode b_A_type 68 = .ok (.if_icmp .le 13, 3) := by decide +kernel
theorem d_A_type_71 : decode b_A_type 71 = .ok (.new 52, 3) := by decide +kernel
theorem d_A_type_74 : decode b_A_type 74 = .ok (.dup, 1) := by decide +kernel
theorem d_A_type_75 : decode b_A_type 75 = .ok (.ldc 54, 2) := by decide +kernel
theorem d_A_type_77 : decode b_A_type 77 = .ok (.invokespecial 56, 3) := by decide +kernel
theorem d_A_type_80 : decode b_A_type 80 = .ok (.athrow, 1) := by decide +kernel
theorem d_A_type_81 : decode b_A_type 81 = .ok (.bipush 24, 2) := by decide +kernel
theorem d_A_type_83 : decode b_A_type 83 = .ok (.istore_n 3, 1) := by decide +kernel
theorem d_A_type_84 : decode b_A_type 84 = .ok (.iload_n 3, 1) := by decide +kernel
theorem d_A_type_85 : decode b_A_type 85 = .ok (.ifCond .lt 34, 3) := by decide +kernel
theorem d_A_type_88 : decode b_A_type 88 = .ok (.iload_n 1, 1) := by decide +kernel
theorem d_A_type_89 : decode b_A_type 89 = .ok (.iload_n 3, 1) := by decide +kernel
theorem d_A_type_90 : decode b_A_type 90 = .ok (.iushr, 1) := by decide +kernel
theorem d_A_type_91 : decode b_A_type 91 = .ok (.sipush 255, 3) := by decide +kernel
theorem d_A_type_94 : decode b_A_type 94 = .ok (.iand, 1) := by decide +kernel
theorem d_A_type_95 : decode b_A_type 95 = .ok (.istore 4, 2) := by decide +kernel
theorem d_A_type_97 : decode b_A_type 97 = .ok (.iload 4, 2) := by decide +kernel
theorem d_A_type_99 : decode b_A_type 99 = .ok (.ifCond .eq 14, 3) := by decide +kernel
theorem d_A_type_102 : decode b_A_type 102 = .ok (.aload_n 0, 1) := by decide +kernel
theorem d_A_type_103 : decode b_A_type 103 = .ok (.getfield 18, 3) := by decide +kernel
theorem d_A_type_106 : decode b_A_type 106 = .ok (.iload 4, 2) := by decide +kernel
theorem d_A_type_108 : decode b_A_type 108 = .ok (.i2c, 1) := by decide +kernel
theorem d_A_type_109 : decode b_A_type 109 = .ok (.invokevirtual 57, 3) := by decide +kernel
theorem d_A_type_112 : decode b_A_type 112 = .ok (.pop, 1) := by decide +kernel
theorem d_A_type_113 : decode b_A_type 113 = .ok (.iinc 3 (-8), 3) := by decide +kernel
theorem d_A_type_116 : decode b_A_type 116 = .ok (.goto (-32), 3) := by decide +kernel
theorem d_A_type_119 : decode b_A_type 119 = .ok (.aload_n 0, 1) := by decide +kernel
theorem d_A_type_120 : decode b_A_type 120 = .ok (.getfield 18, 3) := by decide +kernel
theorem d_A_type_123 : decode b_A_type 123 = .ok (.invokevirtual 48, 3) := by decide +kernel
theorem d_A_type_126 : decode b_A_type 126 = .ok (.ireturn, 1) := by decide +kernel
theorem p_A_type_b113 (d : Nat) (b84 : Option Nat → Int32 → Int32 → gk_H → Option ((Sum (Int32) String) × gk_H)) (q84 : ∀ (v0 : Option Nat) (v1 : Int32) (v3 : Int32) (h : gk_H), gk_P gx_I (d + 8) y_A_type b_A_type 5 (some .int) [] (b84 v0 v1 v3 h) 84 [(0, va_rf v0), (1, .int v1), (3, .int v3)] [] h) (v0 : Option Nat) (v1 : Int32) (v3 : Int32) (h : gk_H) : gk_P gx_I (d + 8) y_A_type b_A_type 5 (some .int) [] (f_A_type_b113 b84 v0 v1 v3 h) 113 [(0, va_rf v0), (1, .int v1), (3, .int v3)] [] h := by
  unfold f_A_type_b113
  refine gk_iincN (pc := 113) 2 (-8 : Int32) (L' := fun x1 => [(3, .int x1), (0, va_rf v0), (1, .int v1)]) d_A_type_113 rfl rfl (Nat.le_of_ble_eq_true rfl) (fun _ => rfl) fun x1 => ?_
  refine gk_goto (pc := 116) 84 d_A_type_116 rfl ?_
  refine gk_weak [1, 2, 0] (L' := [(0, va_rf v0), (1, .int v1), (3, .int x1)]) rfl ?_
  exact q84 v0 v1 x1 h
theorem p_A_type_b84 (d : Nat)  : ∀ (fu : Nat) (v0 : Option Nat) (v1 : Int32) (v3 : Int32) (h : gk_H), gk_P gx_I (d + 8) y_A_type b_A_type 5 (some .int) [] (f_A_type_b84  fu v0 v1 v3 h) 84 [(0, va_rf v0), (1, .int v1), (3, .int v3)] [] h := by
  intro fu
  induction fu with
  | zero => intros; exact gk_none
  | succ fu q84 =>
    intro v0 v1 v3 h
    rw [f_A_type_b84]
    refine gk_iload_n (pc := 84) 2 d_A_type_84 rfl ?_
    refine gk_if_lt (pc := 85) 119 d_A_type_85 rfl (fun _ => ?_) (fun _ => ?_)
    · refine gk_aload_n (pc := 119) 0 d_A_type_119 rfl ?_
      refine gk_getR (pc := 120) 5 2 d_A_type_120 rfl (Nat.le_of_ble_eq_true rfl) tw_293 fun x1 => ?_
      refine gk_callV (pc := 123) (d := (d + 7)) (w' := gv_I) (as := []) (n := 0) 1 d_A_type_123 rfl rfl rfl rfl (Nat.le_of_ble_eq_true rfl) tw_421 tw_422 tw_423 tw_93 cw_SB_length hy_SB_length (Nat.le_of_ble_eq_true rfl) (p_SB_length (d + 6) x1 h) fun x2 h1 => ?_
      exact gk_iret (pc := 126) rfl d_A_type_126 rfl
    · refine gk_iload_n (pc := 88) 1 d_A_type_88 rfl ?_
      refine gk_iload_n (pc := 89) 2 d_A_type_89 rfl ?_
      refine gk_iushr (pc := 90) d_A_type_90 ?_
      refine gk_sipush (pc := 91) (255 : Int32) d_A_type_91 rfl ?_
      refine gk_iand (pc := 94) d_A_type_94 ?_
      refine gk_topI (pc := 95) fun x3 => ?_
      refine gk_istore (pc := 95) (L' := [(4, .int x3), (0, va_rf v0), (1, .int v1), (3, .int v3)]) d_A_type_95 (Nat.le_of_ble_eq_true rfl) rfl ?_
      refine gk_iload (pc := 97) 0 d_A_type_97 rfl ?_
      refine gk_if_eq (pc := 99) 113 d_A_type_99 rfl (fun _ => ?_) (fun _ => ?_)
      · refine gk_weak [1, 2, 3] (L' := [(0, va_rf v0), (1, .int v1), (3, .int v3)]) rfl ?_
        exact p_A_type_b113 d (f_A_type_b84 fu) q84 v0 v1 v3 h
      · refine gk_aload_n (pc := 102) 1 d_A_type_102 rfl ?_
        refine gk_getR (pc := 103) 5 2 d_A_type_103 rfl (Nat.le_of_ble_eq_true rfl) tw_293 fun x4 => ?_
        refine gk_iload (pc := 106) 0 d_A_type_106 rfl ?_
        refine gk_i2c (pc := 108) d_A_type_108 ?_
        refine gk_callV (pc := 109) (d := (d + 7)) (w' := gv_R) (as := [.int (UInt32.toInt32 (Int32.toUInt32 x3 % 65536))]) (n := 1) 1 d_A_type_109 rfl rfl rfl rfl (Nat.le_of_ble_eq_true rfl) tw_429 tw_430 tw_431 tw_93 cw_SB_append_C hy_SB_append_C (Nat.le_of_ble_eq_true rfl) (p_SB_append_C (d + 2) x4 (UInt32.toInt32 (Int32.toUInt32 x3 % 65536)) h) fun x5 h2 => ?_
        refine gk_pop (pc := 112) d_A_type_112 (gk_cat_rf _) ?_
        refine gk_weak [1, 2, 3] (L' := [(0, va_rf v0), (1, .int v1), (3, .int v3)]) rfl ?_
        exact p_A_type_b113 d (f_A_type_b84 fu) q84 v0 v1 v3 h2
theorem p_A_type_b50 (d : Nat) (b5 : Option Nat → Int32 → Int32 → Int32 → gk_H → Option ((Sum (Int32) String) × gk_H)) (q5 : ∀ (v0 : Option Nat) (v1 : Int32) (v2 : Int32) (v3 : Int32) (h : gk_H), gk_P gx_I (d + 8) y_A_type b_A_type 5 (some .int) [] (b5 v0 v1 v2 v3 h) 5 [(0, va_rf v0), (1, .int v1), (2, .int v2), (3, .int v3)] [] h) (v0 : Option Nat) (v1 : Int32) (v2 : Int32) (v3 : Int32) (h : gk_H) : gk_P gx_I (d + 8) y_A_type b_A_type 5 (some .int) [] (f_A_type_b50 b5 v0 v1 v2 v3 h) 50 [(0, va_rf v0), (1, .int v1), (2, .int v2), (3, .int v3)] [] h := by
  unfold f_A_type_b50
  refine gk_iincN (pc := 50) 3 (-8 : Int32) (L' := fun x1 => [(3, .int x1), (0, va_rf v0), (1, .int v1), (2, .int v2)]) d_A_type_50 rfl rfl (Nat.le_of_ble_eq_true rfl) (fun _ => rfl) fun x1 => ?_
  refine gk_goto (pc := 53) 5 d_A_type_53 rfl ?_
  refine gk_weak [1, 2, 3, 0] (L' := [(0, va_rf v0), (1, .int v1), (2, .int v2), (3, .int x1)]) rfl ?_
  exact q5 v0 v1 v2 x1 h
theorem p_A_type_b37 (d : Nat)   (h : gk_H) : gk_P gx_I (d + 8) y_A_type b_A_type 5 (some .int) [] (f_A_type_b37   h) 37 [] [] h := by
  unfold f_A_type_b37
  exact gk_throw (pc := 37) (text := "a byte is no character 32 .. 126") (is := 43) rfl (by omega) (by decide +kernel) (by decide +kernel) tw_405 tw_104 (by decide +kernel) ex_IllegalArgumentException_45 eg_IllegalArgumentException_45 d_A_type_37 d_A_type_40 d_A_type_41 d_A_type_43 d_A_type_46 (Nat.le_of_ble_eq_true rfl)
theorem p_A_type_b5 (d : Nat)  : ∀ (fu : Nat) (v0 : Option Nat) (v1 : Int32) (v2 : Int32) (v3 : Int32) (h : gk_H), gk_P gx_I (d + 8) y_A_type b_A_type 5 (some .int) [] (f_A_type_b5  fu v0 v1 v2 v3 h) 5 [(0, va_rf v0), (1, .int v1), (2, .int v2), (3, .int v3)] [] h := by
  intro fu
  induction fu with
  | zero => intros; exact gk_none
  | succ fu q5 =>
    intro v0 v1 v2 v3 h
    rw [f_A_type_b5]
    refine gk_iload_n (pc := 5) 3 d_A_type_5 rfl ?_
    refine gk_if_lt (pc := 6) 56 d_A_type_6 rfl (fun _ => ?_) (fun _ => ?_)
    · refine gk_aload_n (pc := 56) 0 d_A_type_56 rfl ?_
      refine gk_getR (pc := 57) 5 2 d_A_type_57 rfl (Nat.le_of_ble_eq_true rfl) tw_293 fun x1 => ?_
      refine gk_callV (pc := 60) (d := (d + 7)) (w' := gv_I) (as := []) (n := 0) 1 d_A_type_60 rfl rfl rfl rfl (Nat.le_of_ble_eq_true rfl) tw_421 tw_422 tw_423 tw_93 cw_SB_length hy_SB_length (Nat.le_of_ble_eq_true rfl) (p_SB_length (d + 6) x1 h) fun x2 h1 => ?_
      refine gk_iload_n (pc := 63) 2 d_A_type_63 rfl ?_
      refine gk_iadd (pc := 64) d_A_type_64 ?_
      refine gk_sipush (pc := 65) (255 : Int32) d_A_type_65 rfl ?_
      refine gk_icmp_le (pc := 68) 81 d_A_type_68 rfl (fun _ => ?_) (fun _ => ?_)
      · refine gk_bipush (pc := 81) (24 : Int32) d_A_type_81 rfl ?_
        refine gk_istore_n (pc := 83) (L' := [(3, .int (24 : Int32)), (0, va_rf v0), (1, .int v1), (2, .int v2)]) d_A_type_83 (Nat.le_of_ble_eq_true rfl) rfl ?_
        refine gk_weak [1, 2, 0] (L' := [(0, va_rf v0), (1, .int v1), (3, .int (24 : Int32))]) rfl ?_
        exact p_A_type_b84 d gk_F v0 v1 (24 : Int32) h1
      · exact gk_throw (pc := 71) (text := "a text has at most 255 characters") (is := 54) rfl (by omega) (by decide +kernel) (by decide +kernel) tw_328 tw_103 (by decide +kernel) ex_IllegalStateException_56 eg_IllegalStateException_56 d_A_type_71 d_A_type_74 d_A_type_75 d_A_type_77 d_A_type_80 (Nat.le_of_ble_eq_true rfl)
    · refine gk_iload_n (pc := 9) 1 d_A_type_9 rfl ?_
      refine gk_iload_n (pc := 10) 3 d_A_type_10 rfl ?_
      refine gk_iushr (pc := 11) d_A_type_11 ?_
      refine gk_sipush (pc := 12) (255 : Int32) d_A_type_12 rfl ?_
      refine gk_iand (pc := 15) d_A_type_15 ?_
      refine gk_topI (pc := 16) fun x3 => ?_
      refine gk_istore (pc := 16) (L' := [(4, .int x3), (0, va_rf v0), (1, .int v1), (2, .int v2), (3, .int v3)]) d_A_type_16 (Nat.le_of_ble_eq_true rfl) rfl ?_
      refine gk_iload (pc := 18) 0 d_A_type_18 rfl ?_
      refine gk_if_eq (pc := 20) 50 d_A_type_20 rfl (fun _ => ?_) (fun _ => ?_)
      · refine gk_weak [1, 2, 3, 4] (L' := [(0, va_rf v0), (1, .int v1), (2, .int v2), (3, .int v3)]) rfl ?_
        exact p_A_type_b50 d (f_A_type_b5 fu) q5 v0 v1 v2 v3 h
      · refine gk_iload (pc := 23) 0 d_A_type_23 rfl ?_
        refine gk_bipush (pc := 25) (32 : Int32) d_A_type_25 rfl ?_
        refine gk_icmp_lt (pc := 27) 37 d_A_type_27 rfl (fun _ => ?_) (fun _ => ?_)
        · refine gk_weak [] (L' := []) rfl ?_
          exact p_A_type_b37 d h
        · refine gk_iload (pc := 30) 0 d_A_type_30 rfl ?_
          refine gk_bipush (pc := 32) (126 : Int32) d_A_type_32 rfl ?_
          refine gk_icmp_le (pc := 34) 47 d_A_type_34 rfl (fun _ => ?_) (fun _ => ?_)
          · refine gk_iincN (pc := 47) 3 (1 : Int32) (L' := fun x4 => [(2, .int x4), (4, .int x3), (0, va_rf v0), (1, .int v1), (3, .int v3)]) d_A_type_47 rfl rfl (Nat.le_of_ble_eq_true rfl) (fun _ => rfl) fun x4 => ?_
            refine gk_weak [2, 3, 0, 4] (L' := [(0, va_rf v0), (1, .int v1), (2, .int x4), (3, .int v3)]) rfl ?_
            exact p_A_type_b50 d (f_A_type_b5 fu) q5 v0 v1 x4 v3 h
          · refine gk_weak [] (L' := []) rfl ?_
            exact p_A_type_b37 d h
theorem w_A_type (d : Nat) (a0 : Option Nat) (a1 : Int32) (h : gk_H) : gk_P gx_I (d + 8) y_A_type b_A_type 5 (some .int) [] (f_A_type a0 a1 h) 0 [(0, va_rf a0), (1, .int a1)] [] h := by
  unfold f_A_type
  refine gk_iconst (pc := 0) (0 : Int32) d_A_type_0 rfl ?_
  refine gk_istore_n (pc := 1) (L' := [(2, .int (0 : Int32)), (0, va_rf a0), (1, .int a1)]) d_A_type_1 (Nat.le_of_ble_eq_true rfl) rfl ?_
  refine gk_bipush (pc := 2) (24 : Int32) d_A_type_2 rfl ?_
  refine gk_istore_n (pc := 4) (L' := [(3, .int (24 : Int32)), (2, .int (0 : Int32)), (0, va_rf a0), (1, .int a1)]) d_A_type_4 (Nat.le_of_ble_eq_true rfl) rfl ?_
  refine gk_weak [2, 3, 1, 0] (L' := [(0, va_rf a0), (1, .int a1), (2, .int (0 : Int32)), (3, .int (24 : Int32))]) rfl ?_
  exact p_A_type_b5 d gk_F a0 a1 (0 : Int32) (24 : Int32) h
theorem p_A_type (d : Nat) (a0 : Option Nat) (a1 : Int32) (h : gk_H) : ∀ r h1, f_A_type a0 a1 h = some (r, h1) → gk_M (d + 8) y_A_type b_A_type 5 (some .int) [va_rf a0, .int a1] h (gx_I r) h1 :=
  fun r h1 e => gk_M_of2 (by decide +kernel) (by simp [lv_args, gk_cat_rf, gk_catI, gk_catJ, gk_catD, gv_V, gv_I, gv_J, gv_D, gv_R]) (by simp [lg_sl, gk_cat_rf, gk_catI, gk_catJ, gk_catD, gv_V, gv_I, gv_J, gv_D, gv_R]) (w_A_type d a0 a1 h r h1 e)
theorem d_Va_ofText_0 : decode b_Va_ofText 0 = .ok (.aload_n 0, 1) := by decide +kernel
theorem d_Va_ofText_1 : decode b_Va_ofText 1 = .ok (.invokevirtual 45, 3) := by decide +kernel
theorem d_Va_ofText_4 : decode b_Va_ofText 4 = .ok (.sipush 255, 3) := by decide +kernel
theorem d_Va_ofText_7 : decode b_Va_ofText 7 = .ok (.if_icmp .le 19, 3) := by decide +kernel
theorem d_Va_ofText_10 : decode b_Va_ofText 10 = .ok (.new 10, 3) := by decide +kernel
theorem d_Va_ofText_13 : decode b_Va_ofText 13 = .ok (.dup, 1) := by decide +kernel
theorem d_Va_ofText_14 : decode b_Va_ofText 14 = .ok (.iconst 4, 1) := by decide +kernel
theorem d_Va_ofText_15 : decode b_Va_ofText 15 = .ok (.iconst 3, 1) := by decide +kernel
theorem d_Va_ofText_16 : decode b_Va_ofText 16 = .ok (.dconst 0, 1) := by decide +kernel
theorem d_Va_ofText_17 : decode b_Va_ofText 17 = .ok (.ldc 36, 2) := by decide +kernel
theorem d_Va_ofText_19 : decode b_Va_ofText 19 = .ok (.iconst 1, 1) := by decide +kernel
theorem d_Va_ofText_20 : decode b_Va_ofText 20 = .ok (.iconst 1, 1) := by decide +kernel
theorem d_Va_ofText_21 : decode b_Va_ofText 21 = .ok (.aconst_null, 1) := by decide +kernel
theorem d_Va_ofText_22 : decode b_Va_ofText 22 = .ok (.invokespecial 38, 3) := by decide +kernel
theorem d_Va_ofText_25 : decode b_Va_ofText 25 = .ok (.areturn, 1) := by decide +kernel
theorem d_Va_ofText_26 : decode b_Va_ofText 26 = .ok (.new 10, 3) := by decide +kernel
theorem d_Va_ofText_29 : decode b_Va_ofText 29 = .ok (.dup, 1) := by decide +kernel
theorem d_Va_ofText_30 : decode b_Va_ofText 30 = .ok (.iconst 2, 1) := by decide +kernel
theorem d_Va_ofText_31 : decode b_Va_ofText 31 = .ok (.iconst 0, 1) := by decide +kernel
theorem d_Va_ofText_32 : decode b_Va_ofText 32 = .ok (.dconst 0, 1) := by decide +kernel
theorem d_Va_ofText_33 : decode b_Va_ofText 33 = .ok (.aload_n 0, 1) := by decide +kernel
theorem d_Va_ofText_34 : decode b_Va_ofText 34 = .ok (.iconst 1, 1) := by decide +kernel
theorem d_Va_ofText_35 : decode b_Va_ofText 35 = .ok (.iconst 1, 1) := by decide +kernel
theorem d_Va_ofText_36 : decode b_Va_ofText 36 = .ok (.aconst_null, 1) := by decide +kernel
theorem d_Va_ofText_37 : decode b_Va_ofText 37 = .ok (.invokespecial 38, 3) := by decide +kernel
theorem d_Va_ofText_40 : decode b_Va_ofText 40 = .ok (.areturn, 1) := by decide +kernel
theorem w_Va_ofText (d : Nat) (a0 : Option Nat) (h : gk_H) : gk_P gw_R (d + 2) y_Va_ofText b_Va_ofText 1 (some (.object "ValueAlgebra$Value")) [] (f_Va_ofText a0 h) 0 [(0, va_rf a0)] [] h := by
  unfold f_Va_ofText
  refine gk_aload_n (pc := 0) 0 d_Va_ofText_0 rfl ?_
  refine gk_callV (pc := 1) (d := (d + 1)) (w' := gv_I) (as := []) (n := 0) 0 d_Va_ofText_1 rfl rfl rfl rfl (Nat.le_of_ble_eq_true rfl) tw_665 tw_613 tw_614 tw_94 cw_St_length hy_St_length (Nat.le_of_ble_eq_true rfl) (p_St_length d a0 h) fun x1 h1 => ?_
  refine gk_sipush (pc := 4) (255 : Int32) d_Va_ofText_4 rfl ?_
  refine gk_icmp_le (pc := 7) 26 d_Va_ofText_7 rfl (fun _ => ?_) (fun _ => ?_)
  · refine gk_newO (pc := 26) 2 7 d_Va_ofText_26 rfl tw_178 tw_179 tw_97 fun x2 h2 => ?_
    refine gk_dup (pc := 29) d_Va_ofText_29 (gk_cat_rf _) ?_
    refine gk_iconst (pc := 30) (2 : Int32) d_Va_ofText_30 rfl ?_
    refine gk_iconst (pc := 31) (0 : Int32) d_Va_ofText_31 rfl ?_
    refine gk_dconst0 (pc := 32) d_Va_ofText_32 ?_
    refine gk_aload_n (pc := 33) 0 d_Va_ofText_33 rfl ?_
    refine gk_iconst (pc := 34) (1 : Int32) d_Va_ofText_34 rfl ?_
    refine gk_iconst (pc := 35) (1 : Int32) d_Va_ofText_35 rfl ?_
    refine gk_anull (pc := 36) d_Va_ofText_36 ?_
    refine gk_callI (pc := 37) (d := (d + 1)) (w' := gv_V) (as := [.int (2 : Int32), .int (0 : Int32), .double (0x0000000000000000), va_rf a0, .int (1 : Int32), .int (1 : Int32), va_rf none]) (n := 7) 2 d_Va_ofText_37 rfl rfl (by simp [gk_cat_rf, gk_catI, gk_catJ, gk_catD, gv_V, gv_I, gv_J, gv_D, gv_R]) tw_181 tw_182 tw_97 cw_Va_init rfl hy_Va_init (Nat.le_of_ble_eq_true rfl) (p_Va_init d x2 (2 : Int32) (0 : Int32) (0x0000000000000000) a0 (1 : Int32) (1 : Int32) none h2) fun _ h3 => ?_
    exact gk_aret (pc := 40) rfl d_Va_ofText_40 rfl (Or.inl ⟨_, rfl⟩)
  · refine gk_newO (pc := 10) 2 7 d_Va_ofText_10 rfl tw_178 tw_179 tw_97 fun x3 h4 => ?_
    refine gk_dup (pc := 13) d_Va_ofText_13 (gk_cat_rf _) ?_
    refine gk_iconst (pc := 14) (4 : Int32) d_Va_ofText_14 rfl ?_
    refine gk_iconst (pc := 15) (3 : Int32) d_Va_ofText_15 rfl ?_
    refine gk_dconst0 (pc := 16) d_Va_ofText_16 ?_
    refine gk_ldcS (pc := 17) "" 4 d_Va_ofText_17 (by decide +kernel) ?_
    refine gk_iconst (pc := 19) (1 : Int32) d_Va_ofText_19 rfl ?_
    refine gk_iconst (pc := 20) (1 : Int32) d_Va_ofText_20 rfl ?_
    refine gk_anull (pc := 21) d_Va_ofText_21 ?_
    refine gk_callI (pc := 22) (d := (d + 1)) (w' := gv_V) (as := [.int (4 : Int32), .int (3 : Int32), .double (0x0000000000000000), va_rf (some 4), .int (1 : Int32), .int (1 : Int32), va_rf none]) (n := 7) 2 d_Va_ofText_22 rfl rfl (by simp [gk_cat_rf, gk_catI, gk_catJ, gk_catD, gv_V, gv_I, gv_J, gv_D, gv_R]) tw_181 tw_182 tw_97 cw_Va_init rfl hy_Va_init (Nat.le_of_ble_eq_true rfl) (p_Va_init d x3 (4 : Int32) (3 : Int32) (0x0000000000000000) (some 4) (1 : Int32) (1 : Int32) none h4) fun _ h5 => ?_
    exact gk_aret (pc := 25) rfl d_Va_ofText_25 rfl (Or.inl ⟨_, rfl⟩)
theorem p_Va_ofText (d : Nat) (a0 : Option Nat) (h : gk_H) : ∀ r h1, f_Va_ofText a0 h = some (r, h1) → gk_M (d + 2) y_Va_ofText b_Va_ofText 1 (some (.object "ValueAlgebra$Value")) [va_rf a0] h (.inl (gv_R r)) h1 :=
  fun r h1 e => gk_M_of2 (by decide +kernel) (by simp [lv_args, gk_cat_rf, gk_catI, gk_catJ, gk_catD, gv_V, gv_I, gv_J, gv_D, gv_R]) (by simp [lg_sl, gk_cat_rf, gk_catI, gk_catJ, gk_catD, gv_V, gv_I, gv_J, gv_D, gv_R]) (w_Va_ofText d a0 h r h1 e)
theorem d_A_text_0 : decode b_A_text 0 = .ok (.aload_n 0, 1) := by decide +kernel
theorem d_A_text_1 : decode b_A_text 1 = .ok (.aload_n 0, 1) := by decide +kernel
theorem d_A_text_2 : decode b_A_text 2 = .ok (.getfield 18, 3) := by decide +kernel
theorem d_A_text_5 : decode b_A_text 5 = .ok (.invokevirtual 61, 3) := by decide +kernel
theorem d_A_text_8 : decode b_A_text 8 = .ok (.invokestatic 65, 3) := by decide +kernel
theorem d_A_text_11 : decode b_A_text 11 = .ok (.invokevirtual 37, 3) := by decide +kernel
theorem d_A_text_14 : decode b_A_text 14 = .ok (.aload_n 0, 1) := by decide +kernel
theorem d_A_text_15 : decode b_A_text 15 = .ok (.getfield 18, 3) := by decide +kernel
theorem d_A_text_18 : decode b_A_text 18 = .ok (.iconst 0, 1) := by decide +kernel
theorem d_A_text_19 : decode b_A_text 19 = .ok (.invokevirtual 69, 3) := by decide +kernel
theorem d_A_text_22 : decode b_A_text 22 = .ok (.return_, 1) := by decide +kernel
theorem w_A_text (d : Nat) (a0 : Option Nat) (h : gk_H) : gk_P gx_V (d + 9) y_A_text b_A_text 1 none [] (f_A_text a0 h) 0 [(0, va_rf a0)] [] h := by
  unfold f_A_text
  refine gk_aload_n (pc := 0) 0 d_A_text_0 rfl ?_
  refine gk_aload_n (pc := 1) 0 d_A_text_1 rfl ?_
  refine gk_getR (pc := 2) 5 2 d_A_text_2 rfl (Nat.le_of_ble_eq_true rfl) tw_293 fun x1 => ?_
  refine gk_callV (pc := 5) (d := (d + 8)) (w' := gv_R) (as := []) (n := 0) 1 d_A_text_5 rfl rfl rfl rfl (by simp [gk_cat_rf, gk_catI, gk_catJ, gk_catD, gv_V, gv_I, gv_J, gv_D, gv_R]) tw_531 tw_532 tw_533 tw_93 cw_SB_toString hy_SB_toString (Nat.le_of_ble_eq_true rfl) (p_SB_toString (d + 3) x1 h) fun x2 h1 => ?_
  refine gk_callS (pc := 8) (d := (d + 8)) (w' := gv_R) (as := [va_rf x2]) (n := 1) d_A_text_8 rfl rfl (by simp [gk_cat_rf, gk_catI, gk_catJ, gk_catD, gv_V, gv_I, gv_J, gv_D, gv_R]) tw_662 tw_663 tw_97 cw_Va_ofText hy_Va_ofText (Nat.le_of_ble_eq_true rfl) (p_Va_ofText (d + 6) x2 h1) fun x3 h2 => ?_
  refine gk_callVXV (pc := 11) (d := (d + 8)) (as := [va_rf x3]) (n := 1) 5 d_A_text_11 rfl rfl rfl rfl (Nat.le_of_ble_eq_true rfl) tw_324 tw_326 tw_4 tw_91 cw_A_push hy_A_push (Nat.le_of_ble_eq_true rfl) (p_A_push d a0 x3 h2) (fun _ => rfl) fun _ h3 => ?_
  refine gk_aload_n (pc := 14) 0 d_A_text_14 rfl ?_
  refine gk_getR (pc := 15) 5 2 d_A_text_15 rfl (Nat.le_of_ble_eq_true rfl) tw_293 fun x4 => ?_
  refine gk_iconst (pc := 18) (0 : Int32) d_A_text_18 rfl ?_
  refine gk_callV (pc := 19) (d := (d + 8)) (w' := gv_V) (as := [.int (0 : Int32)]) (n := 1) 1 d_A_text_19 rfl rfl rfl rfl (Nat.le_of_ble_eq_true rfl) tw_666 tw_667 tw_668 tw_93 cw_SB_setLength hy_SB_setLength (Nat.le_of_ble_eq_true rfl) (p_SB_setLength (d + 3) x4 (0 : Int32) h3) fun _ h4 => ?_
  exact gk_vret (pc := 22) rfl d_A_text_22 rfl
theorem p_A_text (d : Nat) (a0 : Option Nat) (h : gk_H) : ∀ r h1, f_A_text a0 h = some (r, h1) → gk_M (d + 9) y_A_text b_A_text 1 none [va_rf a0] h (gx_V r) h1 :=
  fun r h1 e => gk_M_of2 (by decide +kernel) (by simp [lv_args, gk_cat_rf, gk_catI, gk_catJ, gk_catD, gv_V, gv_I, gv_J, gv_D, gv_R]) (by simp [lg_sl, gk_cat_rf, gk_catI, gk_catJ, gk_catD, gv_V, gv_I, gv_J, gv_D, gv_R]) (w_A_text d a0 h r h1 e)
theorem d_Va_ofTruth_0 : decode b_Va_ofTruth 0 = .ok (.new 10, 3) := by decide +kernel
theorem d_Va_ofTruth_3 : decode b_Va_ofTruth 3 = .ok (.dup, 1) := by decide +kernel
theorem d_Va_ofTruth_4 : decode b_Va_ofTruth 4 = .ok (.iconst 3, 1) := by decide +kernel
theorem d_Va_ofTruth_5 : decode b_Va_ofTruth 5 = .ok (.iload_n 0, 1) := by decide +kernel
theorem d_Va_ofTruth_6 : decode b_Va_ofTruth 6 = .ok (.ifCond .eq 7, 3) := by decide +kernel
theorem d_Va_ofTruth_9 : decode b_Va_ofTruth 9 = .ok (.iconst 1, 1) := by decide +kernel
theorem d_Va_ofTruth_10 : decode b_Va_ofTruth 10 = .ok (.goto 4, 3) := by decide +kernel
theorem d_Va_ofTruth_13 : decode b_Va_ofTruth 13 = .ok (.iconst 0, 1) := by decide +kernel
theorem d_Va_ofTruth_14 : decode b_Va_ofTruth 14 = .ok (.dconst 0, 1) := by decide +kernel
theorem d_Va_ofTruth_15 : decode b_Va_ofTruth 15 = .ok (.ldc 36, 2) := by decide +kernel
theorem d_Va_ofTruth_17 : decode b_Va_ofTruth 17 = .ok (.iconst 1, 1) := by decide +kernel
theorem d_Va_ofTruth_18 : decode b_Va_ofTruth 18 = .ok (.iconst 1, 1) := by decide +kernel
theorem d_Va_ofTruth_19 : decode b_Va_ofTruth 19 = .ok (.aconst_null, 1) := by decide +kernel
theorem d_Va_ofTruth_20 : decode b_Va_ofTruth 20 = .ok (.invokespecial 38, 3) := by decide +kernel
theorem d_Va_ofTruth_23 : decode b_Va_ofTruth 23 = .ok (.areturn, 1) := by decide +kernel
theorem p_Va_ofTruth_b14 (d : Nat)  (s0 : Option Nat) (s1 : Option Nat) (s2 : Int32) (s3 : Int32) (h : gk_H) : gk_P gw_R (d + 2) y_Va_ofTruth b_Va_ofTruth 1 (some (.object "ValueAlgebra$Value")) [] (f_Va_ofTruth_b14  s0 s1 s2 s3 h) 14 [] [.int s3, .int s2, va_rf s1, va_rf s0] h := by
  unfold f_Va_ofTruth_b14
  refine gk_dconst0 (pc := 14) d_Va_ofTruth_14 ?_
  refine gk_ldcS (pc := 15) "" 4 d_Va_ofTruth_15 (by decide +kernel) ?_
  refine gk_iconst (pc := 17) (1 : Int32) d_Va_ofTruth_17 rfl ?_
  refine gk_iconst (pc := 18) (1 : Int32) d_Va_ofTruth_18 rfl ?_
  refine gk_anull (pc := 19) d_Va_ofTruth_19 ?_
  refine gk_callI (pc := 20) (d := (d + 1)) (w' := gv_V) (as := [.int s2, .int s3, .double (0x0000000000000000), va_rf (some 4), .int (1 : Int32), .int (1 : Int32), va_rf none]) (n := 7) 2 d_Va_ofTruth_20 rfl rfl (by simp [gk_cat_rf, gk_catI, gk_catJ, gk_catD, gv_V, gv_I, gv_J, gv_D, gv_R]) tw_181 tw_182 tw_97 cw_Va_init rfl hy_Va_init (Nat.le_of_ble_eq_true rfl) (p_Va_init d s1 s2 s3 (0x0000000000000000) (some 4) (1 : Int32) (1 : Int32) none h) fun _ h1 => ?_
  exact gk_aret (pc := 23) rfl d_Va_ofTruth_23 rfl (Or.inl ⟨_, rfl⟩)
theorem w_Va_ofTruth (d : Nat) (a0 : Int32) (h : gk_H) : gk_P gw_R (d + 2) y_Va_ofTruth b_Va_ofTruth 1 (some (.object "ValueAlgebra$Value")) [] (f_Va_ofTruth a0 h) 0 [(0, .int a0)] [] h := by
  unfold f_Va_ofTruth
  refine gk_newO (pc := 0) 2 7 d_Va_ofTruth_0 rfl tw_178 tw_179 tw_97 fun x1 h1 => ?_
  refine gk_dup (pc := 3) d_Va_ofTruth_3 (gk_cat_rf _) ?_
  refine gk_iconst (pc := 4) (3 : Int32) d_Va_ofTruth_4 rfl ?_
  refine gk_iload_n (pc := 5) 0 d_Va_ofTruth_5 rfl ?_
  refine gk_if_eq (pc := 6) 13 d_Va_ofTruth_6 rfl (fun _ => ?_) (fun _ => ?_)
  · refine gk_iconst (pc := 13) (0 : Int32) d_Va_ofTruth_13 rfl ?_
    refine gk_weak [] (L' := []) rfl ?_
    exact p_Va_ofTruth_b14 d x1 x1 (3 : Int32) (0 : Int32) h1
  · refine gk_iconst (pc := 9) (1 : Int32) d_Va_ofTruth_9 rfl ?_
    refine gk_goto (pc := 10) 14 d_Va_ofTruth_10 rfl ?_
    refine gk_weak [] (L' := []) rfl ?_
    exact p_Va_ofTruth_b14 d x1 x1 (3 : Int32) (1 : Int32) h1
theorem p_Va_ofTruth (d : Nat) (a0 : Int32) (h : gk_H) : ∀ r h1, f_Va_ofTruth a0 h = some (r, h1) → gk_M (d + 2) y_Va_ofTruth b_Va_ofTruth 1 (some (.object "ValueAlgebra$Value")) [.int a0] h (.inl (gv_R r)) h1 :=
  fun r h1 e => gk_M_of2 (by decide +kernel) (by simp [lv_args, gk_cat_rf, gk_catI, gk_catJ, gk_catD, gv_V, gv_I, gv_J, gv_D, gv_R]) (by simp [lg_sl, gk_cat_rf, gk_catI, gk_catJ, gk_catD, gv_V, gv_I, gv_J, gv_D, gv_R]) (w_Va_ofTruth d a0 h r h1 e)
theorem d_A_plain_0 : decode b_A_plain 0 = .ok (.iload_n 1, 1) := by decide +kernel
theorem d_A_plain_1 : decode b_A_plain 1 = .ok (.ifCond .ne 13, 3) := by decide +kernel
theorem d_A_plain_4 : decode b_A_plain 4 = .ok (.aload_n 0, 1) := by decide +kernel
theorem d_A_plain_5 : decode b_A_plain 5 = .ok (.invokestatic 73, 3) := by decide +kernel
theorem d_A_plain_8 : decode b_A_plain 8 = .ok (.invokevirtual 37, 3) := by decide +kernel
theorem d_A_plain_11 : decode b_A_plain 11 = .ok (.goto 74, 3) := by decide +kernel
theorem d_A_plain_14 : decode b_A_plain 14 = .ok (.iload_n 1, 1) := by decide +kernel
theorem d_A_plain_15 : decode b_A_plain 15 = .ok (.iconst 3, 1) := by decide +kernel
theorem d_A_plain_16 : decode b_A_plain 16 = .ok (.if_icmp .ne 32, 3) := by decide +kernel
theorem d_A_plain_19 : decode b_A_plain 19 = .ok (.iload_n 2, 1) := by decide +kernel
theorem d_A_plain_20 : decode b_A_plain 20 = .ok (.ifCond .eq 8, 3) := by decide +kernel
theorem d_A_plain_23 : decode b_A_plain 23 = .ok (.iload_n 2, 1) := by decide +kernel
theorem d_A_plain_24 : decode b_A_plain 24 = .ok (.iconst 1, 1) := by decide +kernel
theorem d_A_plain_25 : decode b_A_plain 25 = .ok (.if_icmp .ne 23, 3) := by decide +kernel
theorem d_A_plain_28 : decode b_A_plain 28 = .ok (.aload_n 0, 1) := by decide +kernel
theorem d_A_plain_29 : decode b_A_plain 29 = .ok (.iload_n 2, 1) := by decide +kernel
theorem d_A_plain_30 : decode b_A_plain 30 = .ok (.iconst 1, 1) := by decide +kernel
theorem d_A_plain_31 : decode b_A_plain 31 = .ok (.if_icmp .ne 7, 3) := by decide +kernel
theorem d_A_plain_34 : decode b_A_plain 34 = .ok (.iconst 1, 1) := by decide +kernel
theorem d_A_plain_35 : decode b_A_plain 35 = .ok (.goto 4, 3) := by decide +kernel
theorem d_A_plain_38 : decode b_A_plain 38 = .ok (.iconst 0, 1) := by decide +kernel
theorem d_A_plain_39 : decode b_A_plain 39 = .ok (.invokestatic 77, 3) := by decide +kernel
theorem d_A_plain_42 : decode b_A_plain 42 = .ok (.invokevirtual 37, 3) := by decide +kernel
theorem d_A_plain_45 : decode b_A_plain 45 = .ok (.goto 40, 3) := by decide +kernel
theorem d_A_plain_48 : decode b_A_plain 48 = .ok (.iload_n 1, 1) := by decide +kernel
theorem d_A_plain_49 : decode b_A_plain 49 = .ok (.iconst 4, 1) := by decide +kernel
theorem d_A_plain_50 : decode b_A_plain 50 = .ok (.if_icmp .ne 25, 3) := by decide +kernel
theorem d_A_plain_53 : decode b_A_plain 53 = .ok (.iload_n 2, 1) := by decide +kernel
theorem d_A_plain_54 : decode b_A_plain 54 = .ok (.iconst 1, 1) := by decide +kernel
theorem d_A_plain_55 : decode b_A_plain 55 = .ok (.if_icmp .lt 20, 3) := by decide +kernel
theorem d_A_plain_58 : decode b_A_plain 58 = .ok (.iload_n 2, 1) := by decide +kernel
theorem d_A_plain_59 : decode b_A_plain 59 = .ok (.bipush 8, 2) := by decide +kernel
theorem d_A_plain_61 : decode b_A_plain 61 = .ok (.if_icmp .gt 14, 3) := by decide +kernel
theorem d_A_plain_64 : decode b_A_plain 64 = .ok (.aload_n 0, 1) := by decide +kernel
theorem d_A_plain_65 : decode b_A_plain 65 = .ok (.iload_n 2, 1) := by decide +kernel
theorem d_A_plain_66 : decode b_A_plain 66 = .ok (.invokestatic 81, 3) := by decide +kernel
theorem d_A_plain_69 : decode b_A_plain 69 = .ok (.invokevirtual 37, 3) := by decide +kernel
theorem d_A_plain_72 : decode b_A_plain 72 = .ok (.goto 13, 3) := by decide +kernel
theorem d_A_plain_75 : decode b_A_plain 75 = .ok (.new 41, 3) := by decide +kernel
theorem d_A_plain_78 : decode b_A_plain 78 = .ok (.dup, 1) := by decide +kernel
theorem d_A_plain_79 : decode b_A_plain 79 = .ok (.ldc 85, 2) := by decide +kernel
theorem d_A_plain_81 : decode b_A_plain 81 = .ok (.invokespecial 45, 3) := by decide +kernel
theorem d_A_plain_84 : decode b_A_plain 84 = .ok (.athrow, 1) := by decide +kernel
theorem d_A_plain_85 : decode b_A_plain 85 = .ok (.return_, 1) := by decide +kernel
theorem p_A_plain_b75 (d : Nat)   (h : gk_H) : gk_P gx_V (d + 9) y_A_plain b_A_plain 3 none [] (f_A_plain_b75   h) 75 [] [] h := by
  unfold f_A_plain_b75
  exact gk_throw (pc := 75) (text := "neither nothing, nor a truth, nor an error") (is := 85) rfl (by omega) (by decide +kernel) (by decide +kernel) tw_405 tw_104 (by decide +kernel) ex_IllegalArgumentException_45 eg_IllegalArgumentException_45 d_A_plain_75 d_A_plain_78 d_A_plain_79 d_A_plain_81 d_A_plain_84 (Nat.le_of_ble_eq_true rfl)
theorem p_A_plain_b85 (d : Nat)   (h : gk_H) : gk_P gx_V (d + 9) y_A_plain b_A_plain 3 none [] (f_A_plain_b85   h) 85 [] [] h := by
  unfold f_A_plain_b85
  exact gk_vret (pc := 85) rfl d_A_plain_85 rfl
theorem p_A_plain_b48 (d : Nat)  (v0 : Option Nat) (v1 : Int32) (v2 : Int32) (h : gk_H) : gk_P gx_V (d + 9) y_A_plain b_A_plain 3 none [] (f_A_plain_b48  v0 v1 v2 h) 48 [(0, va_rf v0), (1, .int v1), (2, .int v2)] [] h := by
  unfold f_A_plain_b48
  refine gk_iload_n (pc := 48) 1 d_A_plain_48 rfl ?_
  refine gk_iconst (pc := 49) (4 : Int32) d_A_plain_49 rfl ?_
  refine gk_icmp_ne (pc := 50) 75 d_A_plain_50 rfl (fun _ => ?_) (fun _ => ?_)
  · refine gk_iload_n (pc := 53) 2 d_A_plain_53 rfl ?_
    refine gk_iconst (pc := 54) (1 : Int32) d_A_plain_54 rfl ?_
    refine gk_icmp_lt (pc := 55) 75 d_A_plain_55 rfl (fun _ => ?_) (fun _ => ?_)
    · refine gk_weak [] (L' := []) rfl ?_
      exact p_A_plain_b75 d h
    · refine gk_iload_n (pc := 58) 2 d_A_plain_58 rfl ?_
      refine gk_bipush (pc := 59) (8 : Int32) d_A_plain_59 rfl ?_
      refine gk_icmp_gt (pc := 61) 75 d_A_plain_61 rfl (fun _ => ?_) (fun _ => ?_)
      · refine gk_weak [] (L' := []) rfl ?_
        exact p_A_plain_b75 d h
      · refine gk_aload_n (pc := 64) 0 d_A_plain_64 rfl ?_
        refine gk_iload_n (pc := 65) 2 d_A_plain_65 rfl ?_
        refine gk_callS (pc := 66) (d := (d + 8)) (w' := gv_R) (as := [.int v2]) (n := 1) d_A_plain_66 rfl rfl (by simp [gk_cat_rf, gk_catI, gk_catJ, gk_catD, gv_V, gv_I, gv_J, gv_D, gv_R]) tw_741 tw_236 tw_97 cw_Va_ofError hy_Va_ofError (Nat.le_of_ble_eq_true rfl) (p_Va_ofError (d + 6) v2 h) fun x1 h1 => ?_
        refine gk_callVXV (pc := 69) (d := (d + 8)) (as := [va_rf x1]) (n := 1) 5 d_A_plain_69 rfl rfl rfl rfl (Nat.le_of_ble_eq_true rfl) tw_324 tw_326 tw_4 tw_91 cw_A_push hy_A_push (Nat.le_of_ble_eq_true rfl) (p_A_push d v0 x1 h1) (fun _ => rfl) fun _ h2 => ?_
        refine gk_goto (pc := 72) 85 d_A_plain_72 rfl ?_
        refine gk_weak [] (L' := []) rfl ?_
        exact p_A_plain_b85 d h2
  · refine gk_weak [] (L' := []) rfl ?_
    exact p_A_plain_b75 d h
theorem p_A_plain_b39 (d : Nat)  (s0 : Option Nat) (s1 : Int32) (h : gk_H) : gk_P gx_V (d + 9) y_A_plain b_A_plain 3 none [] (f_A_plain_b39  s0 s1 h) 39 [] [.int s1, va_rf s0] h := by
  unfold f_A_plain_b39
  refine gk_callS (pc := 39) (d := (d + 8)) (w' := gv_R) (as := [.int s1]) (n := 1) d_A_plain_39 rfl rfl (by simp [gk_cat_rf, gk_catI, gk_catJ, gk_catD, gv_V, gv_I, gv_J, gv_D, gv_R]) tw_738 tw_739 tw_97 cw_Va_ofTruth hy_Va_ofTruth (Nat.le_of_ble_eq_true rfl) (p_Va_ofTruth (d + 6) s1 h) fun x1 h1 => ?_
  refine gk_callVXV (pc := 42) (d := (d + 8)) (as := [va_rf x1]) (n := 1) 5 d_A_plain_42 rfl rfl rfl rfl (Nat.le_of_ble_eq_true rfl) tw_324 tw_326 tw_4 tw_91 cw_A_push hy_A_push (Nat.le_of_ble_eq_true rfl) (p_A_push d s0 x1 h1) (fun _ => rfl) fun _ h2 => ?_
  refine gk_goto (pc := 45) 85 d_A_plain_45 rfl ?_
  exact p_A_plain_b85 d h2
theorem p_A_plain_b28 (d : Nat)  (v0 : Option Nat) (v2 : Int32) (h : gk_H) : gk_P gx_V (d + 9) y_A_plain b_A_plain 3 none [] (f_A_plain_b28  v0 v2 h) 28 [(0, va_rf v0), (2, .int v2)] [] h := by
  unfold f_A_plain_b28
  refine gk_aload_n (pc := 28) 0 d_A_plain_28 rfl ?_
  refine gk_iload_n (pc := 29) 1 d_A_plain_29 rfl ?_
  refine gk_iconst (pc := 30) (1 : Int32) d_A_plain_30 rfl ?_
  refine gk_icmp_ne (pc := 31) 38 d_A_plain_31 rfl (fun _ => ?_) (fun _ => ?_)
  · refine gk_iconst (pc := 34) (1 : Int32) d_A_plain_34 rfl ?_
    refine gk_goto (pc := 35) 39 d_A_plain_35 rfl ?_
    refine gk_weak [] (L' := []) rfl ?_
    exact p_A_plain_b39 d v0 (1 : Int32) h
  · refine gk_iconst (pc := 38) (0 : Int32) d_A_plain_38 rfl ?_
    refine gk_weak [] (L' := []) rfl ?_
    exact p_A_plain_b39 d v0 (0 : Int32) h
theorem w_A_plain (d : Nat) (a0 : Option Nat) (a1 : Int32) (a2 : Int32) (h : gk_H) : gk_P gx_V (d + 9) y_A_plain b_A_plain 3 none [] (f_A_plain a0 a1 a2 h) 0 [(0, va_rf a0), (1, .int a1), (2, .int a2)] [] h := by
  unfold f_A_plain
  refine gk_iload_n (pc := 0) 1 d_A_plain_0 rfl ?_
  refine gk_if_ne (pc := 1) 14 d_A_plain_1 rfl (fun _ => ?_) (fun _ => ?_)
  · refine gk_aload_n (pc := 4) 0 d_A_plain_4 rfl ?_
    refine gk_callS (pc := 5) (d := (d + 8)) (w' := gv_R) (as := []) (n := 0) d_A_plain_5 rfl rfl (by simp [gk_cat_rf, gk_catI, gk_catJ, gk_catD, gv_V, gv_I, gv_J, gv_D, gv_R]) tw_737 tw_176 tw_97 cw_Va_ofNothing hy_Va_ofNothing (Nat.le_of_ble_eq_true rfl) (p_Va_ofNothing (d + 6)  h) fun x1 h1 => ?_
    refine gk_callVXV (pc := 8) (d := (d + 8)) (as := [va_rf x1]) (n := 1) 5 d_A_plain_8 rfl rfl rfl rfl (Nat.le_of_ble_eq_true rfl) tw_324 tw_326 tw_4 tw_91 cw_A_push hy_A_push (Nat.le_of_ble_eq_true rfl) (p_A_push d a0 x1 h1) (fun _ => rfl) fun _ h2 => ?_
    refine gk_goto (pc := 11) 85 d_A_plain_11 rfl ?_
    refine gk_weak [] (L' := []) rfl ?_
    exact p_A_plain_b85 d h2
  · refine gk_iload_n (pc := 14) 1 d_A_plain_14 rfl ?_
    refine gk_iconst (pc := 15) (3 : Int32) d_A_plain_15 rfl ?_
    refine gk_icmp_ne (pc := 16) 48 d_A_plain_16 rfl (fun _ => ?_) (fun _ => ?_)
    · refine gk_iload_n (pc := 19) 2 d_A_plain_19 rfl ?_
      refine gk_if_eq (pc := 20) 28 d_A_plain_20 rfl (fun _ => ?_) (fun _ => ?_)
      · refine gk_weak [0, 2] (L' := [(0, va_rf a0), (2, .int a2)]) rfl ?_
        exact p_A_plain_b28 d a0 a2 h
      · refine gk_iload_n (pc := 23) 2 d_A_plain_23 rfl ?_
        refine gk_iconst (pc := 24) (1 : Int32) d_A_plain_24 rfl ?_
        refine gk_icmp_ne (pc := 25) 48 d_A_plain_25 rfl (fun _ => ?_) (fun _ => ?_)
        · refine gk_weak [0, 2] (L' := [(0, va_rf a0), (2, .int a2)]) rfl ?_
          exact p_A_plain_b28 d a0 a2 h
        · exact p_A_plain_b48 d a0 a1 a2 h
    · exact p_A_plain_b48 d a0 a1 a2 h
theorem p_A_plain (d : Nat) (a0 : Option Nat) (a1 : Int32) (a2 : Int32) (h : gk_H) : ∀ r h1, f_A_plain a0 a1 a2 h = some (r, h1) → gk_M (d + 9) y_A_plain b_A_plain 3 none [va_rf a0, .int a1, .int a2] h (gx_V r) h1 :=
  fun r h1 e => gk_M_of2 (by decide +kernel) (by simp [lv_args, gk_cat_rf, gk_catI, gk_catJ, gk_catD, gv_V, gv_I, gv_J, gv_D, gv_R]) (by simp [lg_sl, gk_cat_rf, gk_catI, gk_catJ, gk_catD, gv_V, gv_I, gv_J, gv_D, gv_R]) (w_A_plain d a0 a1 a2 h r h1 e)
theorem d_Va_ofCells_0 : decode b_Va_ofCells 0 = .ok (.new 10, 3) := by decide +kernel
theorem d_Va_ofCells_3 : decode b_Va_ofCells 3 = .ok (.dup, 1) := by decide +kernel
theorem d_Va_ofCells_4 : decode b_Va_ofCells 4 = .ok (.iconst 5, 1) := by decide +kernel
theorem d_Va_ofCells_5 : decode b_Va_ofCells 5 = .ok (.iconst 0, 1) := by decide +kernel
theorem d_Va_ofCells_6 : decode b_Va_ofCells 6 = .ok (.dconst 0, 1) := by decide +kernel
theorem d_Va_ofCells_7 : decode b_Va_ofCells 7 = .ok (.ldc 36, 2) := by decide +kernel
theorem d_Va_ofCells_9 : decode b_Va_ofCells 9 = .ok (.iload_n 0, 1) := by decide +kernel
theorem d_Va_ofCells_10 : decode b_Va_ofCells 10 = .ok (.iload_n 1, 1) := by decide +kernel
theorem d_Va_ofCells_11 : decode b_Va_ofCells 11 = .ok (.aload_n 2, 1) := by decide +kernel
theorem d_Va_ofCells_12 : decode b_Va_ofCells 12 = .ok (.invokespecial 38, 3) := by decide +kernel
theorem d_Va_ofCells_15 : decode b_Va_ofCells 15 = .ok (.areturn, 1) := by decide +kernel
theorem w_Va_ofCells (d : Nat) (a0 : Int32) (a1 : Int32) (a2 : Option Nat) (h : gk_H) : gk_P gw_R (d + 2) y_Va_ofCells b_Va_ofCells 3 (some (.object "ValueAlgebra$Value")) [] (f_Va_ofCells a0 a1 a2 h) 0 [(0, .int a0), (1, .int a1), (2, va_rf a2)] [] h := by
  unfold f_Va_ofCells
  refine gk_newO (pc := 0) 2 7 d_Va_ofCells_0 rfl tw_178 tw_179 tw_97 fun x1 h1 => ?_
  refine gk_dup (pc := 3) d_Va_ofCells_3 (gk_cat_rf _) ?_
  refine gk_iconst (pc := 4) (5 : Int32) d_Va_ofCells_4 rfl ?_
  refine gk_iconst (pc := 5) (0 : Int32) d_Va_ofCells_5 rfl ?_
  refine gk_dconst0 (pc := 6) d_Va_ofCells_6 ?_
  refine gk_ldcS (pc := 7) "" 4 d_Va_ofCells_7 (by decide +kernel) ?_
  refine gk_iload_n (pc := 9) 0 d_Va_ofCells_9 rfl ?_
  refine gk_iload_n (pc := 10) 1 d_Va_ofCells_10 rfl ?_
  refine gk_aload_n (pc := 11) 2 d_Va_ofCells_11 rfl ?_
  refine gk_callI (pc := 12) (d := (d + 1)) (w' := gv_V) (as := [.int (5 : Int32), .int (0 : Int32), .double (0x0000000000000000), va_rf (some 4), .int a0, .int a1, va_rf a2]) (n := 7) 2 d_Va_ofCells_12 rfl rfl (by simp [gk_cat_rf, gk_catI, gk_catJ, gk_catD, gv_V, gv_I, gv_J, gv_D, gv_R]) tw_181 tw_182 tw_97 cw_Va_init rfl hy_Va_init (Nat.le_of_ble_eq_true rfl) (p_Va_init d x1 (5 : Int32) (0 : Int32) (0x0000000000000000) (some 4) a0 a1 a2 h1) fun _ h2 => ?_
  exact gk_aret (pc := 15) rfl d_Va_ofCells_15 rfl (Or.inl ⟨_, rfl⟩)
theorem p_Va_ofCells (d : Nat) (a0 : Int32) (a1 : Int32) (a2 : Option Nat) (h : gk_H) : ∀ r h1, f_Va_ofCells a0 a1 a2 h = some (r, h1) → gk_M (d + 2) y_Va_ofCells b_Va_ofCells 3 (some (.object "ValueAlgebra$Value")) [.int a0, .int a1, va_rf a2] h (.inl (gv_R r)) h1 :=
  fun r h1 e => gk_M_of2 (by decide +kernel) (by simp [lv_args, gk_cat_rf, gk_catI, gk_catJ, gk_catD, gv_V, gv_I, gv_J, gv_D, gv_R]) (by simp [lg_sl, gk_cat_rf, gk_catI, gk_catJ, gk_catD, gv_V, gv_I, gv_J, gv_D, gv_R]) (w_Va_ofCells d a0 a1 a2 h r h1 e)
theorem d_A_replaceUpper_0 : decode b_A_replaceUpper 0 = .ok (.iconst 0, 1) := by decide +kernel
theorem d_A_replaceUpper_1 : decode b_A_replaceUpper 1 = .ok (.istore_n 3, 1) := by decide +kernel
theorem d_A_replaceUpper_2 : decode b_A_replaceUpper 2 = .ok (.iload_n 3, 1) := by decide +kernel
theorem d_A_replaceUpper_3 : decode b_A_replaceUpper 3 = .ok (.iload_n 1, 1) := by decide +kernel
theorem d_A_replaceUpper_4 : decode b_A_replaceUpper 4 = .ok (.if_icmp .ge 36, 3) := by decide +kernel
theorem d_A_replaceUpper_7 : decode b_A_replaceUpper 7 = .ok (.aload_n 0, 1) := by decide +kernel
theorem d_A_replaceUpper_8 : decode b_A_replaceUpper 8 = .ok (.getfield 29, 3) := by decide +kernel
theorem d_A_replaceUpper_11 : decode b_A_replaceUpper 11 = .ok (.ifCond .le 29, 3) := by decide +kernel
theorem d_A_replaceUpper_14 : decode b_A_replaceUpper 14 = .ok (.aload_n 0, 1) := by decide +kernel
theorem d_A_replaceUpper_15 : decode b_A_replaceUpper 15 = .ok (.dup, 1) := by decide +kernel
theorem d_A_replaceUpper_16 : decode b_A_replaceUpper 16 = .ok (.getfield 29, 3) := by decide +kernel
theorem d_A_replaceUpper_19 : decode b_A_replaceUpper 19 = .ok (.iconst 1, 1) := by decide +kernel
theorem d_A_replaceUpper_20 : decode b_A_replaceUpper 20 = .ok (.isub, 1) := by decide +kernel
theorem d_A_replaceUpper_21 : decode b_A_replaceUpper 21 = .ok (.putfield 29, 3) := by decide +kernel
theorem d_A_replaceUpper_24 : decode b_A_replaceUpper 24 = .ok (.aload_n 0, 1) := by decide +kernel
theorem d_A_replaceUpper_25 : decode b_A_replaceUpper 25 = .ok (.getfield 11, 3) := by decide +kernel
theorem d_A_replaceUpper_28 : decode b_A_replaceUpper 28 = .ok (.aload_n 0, 1) := by decide +kernel
theorem d_A_replaceUpper_29 : decode b_A_replaceUpper 29 = .ok (.getfield 29, 3) := by decide +kernel
theorem d_A_replaceUpper_32 : decode b_A_replaceUpper 32 = .ok (.aconst_null, 1) := by decide +kernel
theorem d_A_replaceUpper_33 : decode b_A_replaceUpper 33 = .ok (.aastore, 1) := by decide +kernel
theorem d_A_replaceUpper_34 : decode b_A_replaceUpper 34 = .ok (.iinc 3 1, 3) := by decide +kernel
theorem d_A_replaceUpper_37 : decode b_A_replaceUpper 37 = .ok (.goto (-35), 3) := by decide +kernel
theorem d_A_replaceUpper_40 : decode b_A_replaceUpper 40 = .ok (.aload_n 0, 1) := by decide +kernel
theorem d_A_replaceUpper_41 : decode b_A_replaceUpper 41 = .ok (.aload_n 2, 1) := by decide +kernel
theorem d_A_replaceUpper_42 : decode b_A_replaceUpper 42 = .ok (.invokevirtual 37, 3) := by decide +kernel
theorem d_A_replaceUpper_45 : decode b_A_replaceUpper 45 = .ok (.return_, 1) := by decide +kernel
theorem p_A_replaceUpper_b40 (d : Nat)  (v0 : Option Nat) (v2 : Option Nat) (h : gk_H) : gk_P gx_V (d + 9) y_A_replaceUpper b_A_replaceUpper 4 none [] (f_A_replaceUpper_b40  v0 v2 h) 40 [(0, va_rf v0), (2, va_rf v2)] [] h := by
  unfold f_A_replaceUpper_b40
  refine gk_aload_n (pc := 40) 0 d_A_replaceUpper_40 rfl ?_
  refine gk_aload_n (pc := 41) 1 d_A_replaceUpper_41 rfl ?_
  refine gk_callVXV (pc := 42) (d := (d + 8)) (as := [va_rf v2]) (n := 1) 5 d_A_replaceUpper_42 rfl rfl rfl rfl (Nat.le_of_ble_eq_true rfl) tw_324 tw_326 tw_4 tw_91 cw_A_push hy_A_push (Nat.le_of_ble_eq_true rfl) (p_A_push d v0 v2 h) (fun _ => rfl) fun _ h1 => ?_
  exact gk_vret (pc := 45) rfl d_A_replaceUpper_45 rfl
theorem p_A_replaceUpper_b2 (d : Nat)  : ∀ (fu : Nat) (v0 : Option Nat) (v1 : Int32) (v2 : Option Nat) (v3 : Int32) (h : gk_H), gk_P gx_V (d + 9) y_A_replaceUpper b_A_replaceUpper 4 none [] (f_A_replaceUpper_b2  fu v0 v1 v2 v3 h) 2 [(0, va_rf v0), (1, .int v1), (2, va_rf v2), (3, .int v3)] [] h := by
  intro fu
  induction fu with
  | zero => intros; exact gk_none
  | succ fu q2 =>
    intro v0 v1 v2 v3 h
    rw [f_A_replaceUpper_b2]
    refine gk_iload_n (pc := 2) 3 d_A_replaceUpper_2 rfl ?_
    refine gk_iload_n (pc := 3) 1 d_A_replaceUpper_3 rfl ?_
    refine gk_icmp_ge (pc := 4) 40 d_A_replaceUpper_4 rfl (fun _ => ?_) (fun _ => ?_)
    · refine gk_weak [0, 2] (L' := [(0, va_rf v0), (2, va_rf v2)]) rfl ?_
      exact p_A_replaceUpper_b40 d v0 v2 h
    · refine gk_aload_n (pc := 7) 0 d_A_replaceUpper_7 rfl ?_
      refine gk_getI (pc := 8) 5 1 d_A_replaceUpper_8 rfl (Nat.le_of_ble_eq_true rfl) tw_292 fun x1 => ?_
      refine gk_if_le (pc := 11) 40 d_A_replaceUpper_11 rfl (fun _ => ?_) (fun _ => ?_)
      · refine gk_weak [0, 2] (L' := [(0, va_rf v0), (2, va_rf v2)]) rfl ?_
        exact p_A_replaceUpper_b40 d v0 v2 h
      · refine gk_aload_n (pc := 14) 0 d_A_replaceUpper_14 rfl ?_
        refine gk_dup (pc := 15) d_A_replaceUpper_15 (gk_cat_rf _) ?_
        refine gk_getI (pc := 16) 5 1 d_A_replaceUpper_16 rfl (Nat.le_of_ble_eq_true rfl) tw_292 fun x2 => ?_
        refine gk_iconst (pc := 19) (1 : Int32) d_A_replaceUpper_19 rfl ?_
        refine gk_isub (pc := 20) d_A_replaceUpper_20 ?_
        refine gk_putfield (pc := 21) 5 1 d_A_replaceUpper_21 rfl (Nat.le_of_ble_eq_true rfl) tw_292 (Or.inl rfl) fun h1 => ?_
        refine gk_aload_n (pc := 24) 0 d_A_replaceUpper_24 rfl ?_
        refine gk_getR (pc := 25) 5 0 d_A_replaceUpper_25 rfl (Nat.le_of_ble_eq_true rfl) tw_291 fun x3 => ?_
        refine gk_aload_n (pc := 28) 0 d_A_replaceUpper_28 rfl ?_
        refine gk_getI (pc := 29) 5 1 d_A_replaceUpper_29 rfl (Nat.le_of_ble_eq_true rfl) tw_292 fun x4 => ?_
        refine gk_anull (pc := 32) d_A_replaceUpper_32 ?_
        refine gk_aast (pc := 33) d_A_replaceUpper_33 fun h2 => ?_
        refine gk_iincN (pc := 34) 3 (1 : Int32) (L' := fun x5 => [(3, .int x5), (0, va_rf v0), (1, .int v1), (2, va_rf v2)]) d_A_replaceUpper_34 rfl rfl (Nat.le_of_ble_eq_true rfl) (fun _ => by simp [gk_s1, gk_cat_rf, gk_catI, gk_catJ, gk_catD] <;> decide) fun x5 => ?_
        refine gk_goto (pc := 37) 2 d_A_replaceUpper_37 rfl ?_
        refine gk_weak [1, 2, 3, 0] (L' := [(0, va_rf v0), (1, .int v1), (2, va_rf v2), (3, .int x5)]) rfl ?_
        exact q2 v0 v1 v2 x5 h2
theorem w_A_replaceUpper (d : Nat) (a0 : Option Nat) (a1 : Int32) (a2 : Option Nat) (h : gk_H) : gk_P gx_V (d + 9) y_A_replaceUpper b_A_replaceUpper 4 none [] (f_A_replaceUpper a0 a1 a2 h) 0 [(0, va_rf a0), (1, .int a1), (2, va_rf a2)] [] h := by
  unfold f_A_replaceUpper
  refine gk_iconst (pc := 0) (0 : Int32) d_A_replaceUpper_0 rfl ?_
  refine gk_istore_n (pc := 1) (L' := [(3, .int (0 : Int32)), (0, va_rf a0), (1, .int a1), (2, va_rf a2)]) d_A_replaceUpper_1 (Nat.le_of_ble_eq_true rfl) (by simp [gk_s1, gk_s2, gk_cat_rf, gk_catI, gk_catJ, gk_catD] <;> decide) ?_
  refine gk_weak [1, 2, 3, 0] (L' := [(0, va_rf a0), (1, .int a1), (2, va_rf a2), (3, .int (0 : Int32))]) rfl ?_
  exact p_A_replaceUpper_b2 d gk_F a0 a1 a2 (0 : Int32) h
theorem p_A_replaceUpper (d : Nat) (a0 : Option Nat) (a1 : Int32) (a2 : Option Nat) (h : gk_H) : ∀ r h1, f_A_replaceUpper a0 a1 a2 h = some (r, h1) → gk_M (d + 9) y_A_replaceUpper b_A_replaceUpper 4 none [va_rf a0, .int a1, va_rf a2] h (gx_V r) h1 :=
  fun r h1 e => gk_M_of2 (by decide +kernel) (by simp [lv_args, gk_cat_rf, gk_catI, gk_catJ, gk_catD, gv_V, gv_I, gv_J, gv_D, gv_R]) (by simp [lg_sl, gk_cat_rf, gk_catI, gk_catJ, gk_catD, gv_V, gv_I, gv_J, gv_D, gv_R]) (w_A_replaceUpper d a0 a1 a2 h r h1 e)
theorem d_A_array_0 : decode b_A_array 0 = .ok (.iload_n 1, 1) := by decide +kernel
theorem d_A_array_1 : decode b_A_array 1 = .ok (.iconst 1, 1) := by decide +kernel
theorem d_A_array_2 : decode b_A_array 2 = .ok (.if_icmp .lt 8, 3) := by decide +kernel
theorem d_A_array_5 : decode b_A_array 5 = .ok (.iload_n 2, 1) := by decide +kernel
theorem d_A_array_6 : decode b_A_array 6 = .ok (.iconst 1, 1) := by decide +kernel
theorem d_A_array_7 : decode b_A_array 7 = .ok (.if_icmp .ge 13, 3) := by decide +kernel
theorem d_A_array_10 : decode b_A_array 10 = .ok (.new 41, 3) := by decide +kernel
theorem d_A_array_13 : decode b_A_array 13 = .ok (.dup, 1) := by decide +kernel
theorem d_A_array_14 : decode b_A_array 14 = .ok (.ldc 87, 2) := by decide +kernel
theorem d_A_array_16 : decode b_A_array 16 = .ok (.invokespecial 45, 3) := by decide +kernel
theorem d_A_array_19 : decode b_A_array 19 = .ok (.athrow, 1) := by decide +kernel
theorem d_A_array_20 : decode b_A_array 20 = .ok (.iload_n 1, 1) := by decide +kernel
theorem d_A_array_21 : decode b_A_array 21 = .ok (.aload_n 0, 1) := by decide +kernel
theorem d_A_array_22 : decode b_A_array 22 = .ok (.getfield 29, 3) := by decide +kernel
theorem d_A_array_25 : decode b_A_array 25 = .ok (.if_icmp .gt 21, 3) := by decide +kernel
theorem d_A_array_28 : decode b_A_array 28 = .ok (.iload_n 2, 1) := by decide +kernel
theorem d_A_array_29 : decode b_A_array 29 = .ok (.aload_n 0, 1) := by decide +kernel
theorem d_A_array_30 : decode b_A_array 30 = .ok (.getfield 29, 3) := by decide +kernel
theorem d_A_array_33 : decode b_A_array 33 = .ok (.if_icmp .gt 13, 3) := by decide +kernel
theorem d_A_array_36 : decode b_A_array 36 = .ok (.iload_n 1, 1) := by decide +kernel
theorem d_A_array_37 : decode b_A_array 37 = .ok (.iload_n 2, 1) := by decide +kernel
theorem d_A_array_38 : decode b_A_array 38 = .ok (.imul, 1) := by decide +kernel
theorem d_A_array_39 : decode b_A_array 39 = .ok (.aload_n 0, 1) := by decide +kernel
theorem d_A_array_40 : decode b_A_array 40 = .ok (.getfield 29, 3) := by decide +kernel
theorem d_A_array_43 : decode b_A_array 43 = .ok (.if_icmp .le 13, 3) := by decide +kernel
theorem d_A_array_46 : decode b_A_array 46 = .ok (.new 41, 3) := by decide +kernel
theorem d_A_array_49 : decode b_A_array 49 = .ok (.dup, 1) := by decide +kernel
theorem d_A_array_50 : decode b_A_array 50 = .ok (.ldc 89, 2) := by decide +kernel
theorem d_A_array_52 : decode b_A_array 52 = .ok (.invokespecial 45, 3) := by decide +kernel
theorem d_A_array_55 : decode b_A_array 55 = .ok (.athrow, 1) := by decide +kernel
theorem d_A_array_56 : decode b_A_array 56 = .ok (.aload_n 0, 1) := by decide +kernel
theorem d_A_array_57 : decode b_A_array 57 = .ok (.getfield 29, 3) := by decide +kernel
theorem d_A_array_60 : decode b_A_array 60 = .ok (.iload_n 1, 1) := by decide +kernel
theorem d_A_array_61 : decode b_A_array 61 = .ok (.iload_n 2, 1) := by decide +kernel
theorem d_A_array_62 : decode b_A_array 62 = .ok (.imul, 1) := by decide +kernel
theorem d_A_array_63 : decode b_A_array 63 = .ok (.isub, 1) := by decide +kernel
theorem d_A_array_64 : decode b_A_array 64 = .ok (.istore_n 3, 1) := by decide +kernel
theorem d_A_array_65 : decode b_A_array 65 = .ok (.iload_n 3, 1) := by decide +kernel
theorem d_A_array_66 : decode b_A_array 66 = .ok (.istore 4, 2) := by decide +kernel
theorem d_A_array_68 : decode b_A_array 68 = .ok (.iload 4, 2) := by decide +kernel
theorem d_A_array_70 : decode b_A_array 70 = .ok (.aload_n 0, 1) := by decide +kernel
theorem d_A_array_71 : decode b_A_array 71 = .ok (.getfield 29, 3) := by decide +kernel
theorem d_A_array_74 : decode b_A_array 74 = .ok (.if_icmp .ge 33, 3) := by decide +kernel
theorem d_A_array_77 : decode b_A_array 77 = .ok (.aload_n 0, 1) := by decide +kernel
theorem d_A_array_78 : decode b_A_array 78 = .ok (.getfield 11, 3) := by decide +kernel
theorem d_A_array_81 : decode b_A_array 81 = .ok (.iload 4, 2) := by decide +kernel
theorem d_A_array_83 : decode b_A_array 83 = .ok (.aaload, 1) := by decide +kernel
theorem d_A_array_84 : decode b_A_array 84 = .ok (.getfield 91, 3) := by decide +kernel
theorem d_A_array_87 : decode b_A_array 87 = .ok (.iconst 5, 1) := by decide +kernel
theorem d_A_array_88 : decode b_A_array 88 = .ok (.if_icmp .ne 13, 3) := by decide +kernel
theorem d_A_array_91 : decode b_A_array 91 = .ok (.new 41, 3) := by decide +kernel
theorem d_A_array_94 : decode b_A_array 94 = .ok (.dup, 1) := by decide +kernel
theorem d_A_array_95 : decode b_A_array 95 = .ok (.ldc 94, 2) := by decide +kernel
theorem d_A_array_97 : decode b_A_array 97 = .ok (.invokespecial 45, 3) := by decide +kernel
theorem d_A_array_100 : decode b_A_array 100 = .ok (.athrow, 1) := by decide +kernel
theorem d_A_array_101 : decode b_A_array 101 = .ok (.iinc 4 1, 3) := by decide +kernel
theorem d_A_array_104 : decode b_A_array 104 = .ok (.goto (-36), 3) := by decide +kernel
theorem d_A_array_107 : decode b_A_array 107 = .ok (.iload_n 1, 1) := by decide +kernel
theorem d_A_array_108 : decode b_A_array 108 = .ok (.iload_n 2, 1) := by decide +kernel
theorem d_A_array_109 : decode b_A_array 109 = .ok (.imul, 1) := by decide +kernel
theorem d_A_array_110 : decode b_A_array 110 = .ok (.anewarray 9, 3) := by decide +kernel
theorem d_A_array_113 : decode b_A_array 113 = .ok (.astore 4, 2) := by decide +kernel
theorem d_A_array_115 : decode b_A_array 115 = .ok (.iconst 0, 1) := by decide +kernel
theorem d_A_array_116 : decode b_A_array 116 = .ok (.istore 5, 2) := by decide +kernel
theorem d_A_array_118 : decode b_A_array 118 = .ok (.iload 5, 2) := by decide +kernel
theorem d_A_array_120 : decode b_A_array 120 = .ok (.aload 4, 2) := by decide +kernel
theorem d_A_array_122 : decode b_A_array 122 = .ok (.arraylength, 1) := by decide +kernel
theorem d_A_array_123 : decode b_A_array 123 = .ok (.if_icmp .ge 23, 3) := by decide +kernel
theorem d_A_array_126 : decode b_A_array 126 = .ok (.aload 4, 2) := by decide +kernel
theorem d_A_array_128 : decode b_A_array 128 = .ok (.iload 5, 2) := by decide +kernel
theorem d_A_array_130 : decode b_A_array 130 = .ok (.aload_n 0, 1) := by decide +kernel
theorem d_A_array_131 : decode b_A_array 131 = .ok (.getfield 11, 3) := by decide +kernel
theorem d_A_array_134 : decode b_A_array 134 = .ok (.iload_n 3, 1) := by decide +kernel
theorem d_A_array_135 : decode b_A_array 135 = .ok (.iload 5, 2) := by decide +kernel
theorem d_A_array_137 : decode b_A_array 137 = .ok (.iadd, 1) := by decide +kernel
theorem d_A_array_138 : decode b_A_array 138 = .ok (.aaload, 1) := by decide +kernel
theorem d_A_array_139 : decode b_A_array 139 = .ok (.aastore, 1) := by decide +kernel
theorem d_A_array_140 : decode b_A_array 140 = .ok (.iinc 5 1, 3) := by decide +kernel
theorem d_A_array_143 : decode b_A_array 143 = .ok (.goto (-25), 3) := by decide +kernel
theorem d_A_array_146 : decode b_A_array 146 = .ok (.aload_n 0, 1) := by decide +kernel
theorem d_A_array_147 : decode b_A_array 147 = .ok (.aload 4, 2) := by decide +kernel
theorem d_A_array_149 : decode b_A_array 149 = .ok (.arraylength, 1) := by decide +kernel
theorem d_A_array_150 : decode b_A_array 150 = .ok (.iload_n 1, 1) := by decide +kernel
theorem d_A_array_151 : decode b_A_array 151 = .ok (.iload_n 2, 1) := by decide +kernel
theorem d_A_array_152 : decode b_A_array 152 = .ok (.aload 4, 2) := by decide +kernel
theorem d_A_array_154 : decode b_A_array 154 = .ok (.invokestatic 96, 3) := by decide +kernel
theorem d_A_array_157 : decode b_A_array 157 = .ok (.invokevirtual 100, 3) := by decide +kernel
theorem d_A_array_160 : decode b_A_array 160 = .ok (.return_, 1) := by decide +kernel
theorem p_A_array_b10 (d : Nat)   (h : gk_H) : gk_P gx_V (d + 10) y_A_array b_A_array 6 none [] (f_A_array_b10   h) 10 [] [] h := by
  unfold f_A_array_b10
  exact gk_throw (pc := 10) (text := "an array has a row and a column at least") (is := 87) rfl (by omega) (by decide +kernel) (by decide +kernel) tw_405 tw_104 (by decide +kernel) ex_IllegalArgumentException_45 eg_IllegalArgumentException_45 d_A_array_10 d_A_array_13 d_A_array_14 d_A_array_16 d_A_array_19 (Nat.le_of_ble_eq_true rfl)
theorem p_A_array_b46 (d : Nat)   (h : gk_H) : gk_P gx_V (d + 10) y_A_array b_A_array 6 none [] (f_A_array_b46   h) 46 [] [] h := by
  unfold f_A_array_b46
  exact gk_throw (pc := 46) (text := "there are not so many values") (is := 89) rfl (by omega) (by decide +kernel) (by decide +kernel) tw_405 tw_104 (by decide +kernel) ex_IllegalArgumentException_45 eg_IllegalArgumentException_45 d_A_array_46 d_A_array_49 d_A_array_50 d_A_array_52 d_A_array_55 (Nat.le_of_ble_eq_true rfl)
theorem p_A_array_b118 (d : Nat)  : ∀ (fu : Nat) (v0 : Option Nat) (v1 : Int32) (v2 : Int32) (v3 : Int32) (v4 : Option Nat) (v5 : Int32) (h : gk_H), gk_P gx_V (d + 10) y_A_array b_A_array 6 none [] (f_A_array_b118  fu v0 v1 v2 v3 v4 v5 h) 118 [(0, va_rf v0), (1, .int v1), (2, .int v2), (3, .int v3), (4, va_rf v4), (5, .int v5)] [] h := by
  intro fu
  induction fu with
  | zero => intros; exact gk_none
  | succ fu q118 =>
    intro v0 v1 v2 v3 v4 v5 h
    rw [f_A_array_b118]
    refine gk_iload (pc := 118) 5 d_A_array_118 rfl ?_
    refine gk_aload (pc := 120) 4 d_A_array_120 rfl ?_
    refine gk_alen (pc := 122) d_A_array_122 fun x1 => ?_
    refine gk_icmp_ge (pc := 123) 146 d_A_array_123 rfl (fun _ => ?_) (fun _ => ?_)
    · refine gk_aload_n (pc := 146) 0 d_A_array_146 rfl ?_
      refine gk_aload (pc := 147) 4 d_A_array_147 rfl ?_
      refine gk_alen (pc := 149) d_A_array_149 fun x2 => ?_
      refine gk_iload_n (pc := 150) 1 d_A_array_150 rfl ?_
      refine gk_iload_n (pc := 151) 2 d_A_array_151 rfl ?_
      refine gk_aload (pc := 152) 4 d_A_array_152 rfl ?_
      refine gk_callS (pc := 154) (d := (d + 9)) (w' := gv_R) (as := [.int v1, .int v2, va_rf v4]) (n := 3) d_A_array_154 rfl rfl (by simp [gk_cat_rf, gk_catI, gk_catJ, gk_catD, gv_V, gv_I, gv_J, gv_D, gv_R]) tw_753 tw_754 tw_97 cw_Va_ofCells hy_Va_ofCells (Nat.le_of_ble_eq_true rfl) (p_Va_ofCells (d + 7) v1 v2 v4 h) fun x3 h1 => ?_
      refine gk_callVXV (pc := 157) (d := (d + 9)) (as := [.int x2, va_rf x3]) (n := 2) 5 d_A_array_157 rfl rfl rfl rfl (Nat.le_of_ble_eq_true rfl) tw_756 tw_758 tw_6 tw_91 cw_A_replaceUpper hy_A_replaceUpper (Nat.le_of_ble_eq_true rfl) (p_A_replaceUpper d v0 x2 x3 h1) (fun _ => rfl) fun _ h2 => ?_
      exact gk_vret (pc := 160) rfl d_A_array_160 rfl
    · refine gk_aload (pc := 126) 4 d_A_array_126 rfl ?_
      refine gk_iload (pc := 128) 5 d_A_array_128 rfl ?_
      refine gk_aload_n (pc := 130) 0 d_A_array_130 rfl ?_
      refine gk_getR (pc := 131) 5 0 d_A_array_131 rfl (Nat.le_of_ble_eq_true rfl) tw_291 fun x4 => ?_
      refine gk_iload_n (pc := 134) 3 d_A_array_134 rfl ?_
      refine gk_iload (pc := 135) 5 d_A_array_135 rfl ?_
      refine gk_iadd (pc := 137) d_A_array_137 ?_
      refine gk_aald (pc := 138) d_A_array_138 fun x5 => ?_
      refine gk_aast (pc := 139) d_A_array_139 fun h3 => ?_
      refine gk_iincN (pc := 140) 5 (1 : Int32) (L' := fun x6 => [(5, .int x6), (0, va_rf v0), (1, .int v1), (2, .int v2), (3, .int v3), (4, va_rf v4)]) d_A_array_140 rfl rfl (Nat.le_of_ble_eq_true rfl) (fun _ => by simp [gk_s1, gk_cat_rf, gk_catI, gk_catJ, gk_catD] <;> decide) fun x6 => ?_
      refine gk_goto (pc := 143) 118 d_A_array_143 rfl ?_
      refine gk_weak [1, 2, 3, 4, 5, 0] (L' := [(0, va_rf v0), (1, .int v1), (2, .int v2), (3, .int v3), (4, va_rf v4), (5, .int x6)]) rfl ?_
      exact q118 v0 v1 v2 v3 v4 x6 h3
theorem p_A_array_b68 (d : Nat)  : ∀ (fu : Nat) (v0 : Option Nat) (v1 : Int32) (v2 : Int32) (v3 : Int32) (v4 : Int32) (h : gk_H), gk_P gx_V (d + 10) y_A_array b_A_array 6 none [] (f_A_array_b68  fu v0 v1 v2 v3 v4 h) 68 [(0, va_rf v0), (1, .int v1), (2, .int v2), (3, .int v3), (4, .int v4)] [] h := by
  intro fu
  induction fu with
  | zero => intros; exact gk_none
  | succ fu q68 =>
    intro v0 v1 v2 v3 v4 h
    rw [f_A_array_b68]
    refine gk_iload (pc := 68) 4 d_A_array_68 rfl ?_
    refine gk_aload_n (pc := 70) 0 d_A_array_70 rfl ?_
    refine gk_getI (pc := 71) 5 1 d_A_array_71 rfl (Nat.le_of_ble_eq_true rfl) tw_292 fun x1 => ?_
    refine gk_icmp_ge (pc := 74) 107 d_A_array_74 rfl (fun _ => ?_) (fun _ => ?_)
    · refine gk_iload_n (pc := 107) 1 d_A_array_107 rfl ?_
      refine gk_iload_n (pc := 108) 2 d_A_array_108 rfl ?_
      refine gk_imul (pc := 109) d_A_array_109 ?_
      refine gk_newQ (pc := 110) d_A_array_110 tw_133 fun x2 h1 => ?_
      refine gk_astore (pc := 113) (L' := [(4, va_rf x2), (0, va_rf v0), (1, .int v1), (2, .int v2), (3, .int v3)]) d_A_array_113 (Nat.le_of_ble_eq_true rfl) rfl ?_
      refine gk_iconst (pc := 115) (0 : Int32) d_A_array_115 rfl ?_
      refine gk_istore (pc := 116) (L' := [(5, .int (0 : Int32)), (4, va_rf x2), (0, va_rf v0), (1, .int v1), (2, .int v2), (3, .int v3)]) d_A_array_116 (Nat.le_of_ble_eq_true rfl) (by simp [gk_s1, gk_s2, gk_cat_rf, gk_catI, gk_catJ, gk_catD] <;> decide) ?_
      refine gk_weak [2, 3, 4, 5, 1, 0] (L' := [(0, va_rf v0), (1, .int v1), (2, .int v2), (3, .int v3), (4, va_rf x2), (5, .int (0 : Int32))]) rfl ?_
      exact p_A_array_b118 d gk_F v0 v1 v2 v3 x2 (0 : Int32) h1
    · refine gk_aload_n (pc := 77) 0 d_A_array_77 rfl ?_
      refine gk_getR (pc := 78) 5 0 d_A_array_78 rfl (Nat.le_of_ble_eq_true rfl) tw_291 fun x3 => ?_
      refine gk_iload (pc := 81) 4 d_A_array_81 rfl ?_
      refine gk_aald (pc := 83) d_A_array_83 fun x4 => ?_
      refine gk_getI (pc := 84) 2 0 d_A_array_84 rfl (Nat.le_of_ble_eq_true rfl) tw_190 fun x5 => ?_
      refine gk_iconst (pc := 87) (5 : Int32) d_A_array_87 rfl ?_
      refine gk_icmp_ne (pc := 88) 101 d_A_array_88 rfl (fun _ => ?_) (fun _ => ?_)
      · exact gk_throw (pc := 91) (text := "an array has no array as a cell") (is := 94) rfl (by omega) (by decide +kernel) (by decide +kernel) tw_405 tw_104 (by decide +kernel) ex_IllegalArgumentException_45 eg_IllegalArgumentException_45 d_A_array_91 d_A_array_94 d_A_array_95 d_A_array_97 d_A_array_100 (Nat.le_of_ble_eq_true rfl)
      · refine gk_iincN (pc := 101) 4 (1 : Int32) (L' := fun x6 => [(4, .int x6), (0, va_rf v0), (1, .int v1), (2, .int v2), (3, .int v3)]) d_A_array_101 rfl rfl (Nat.le_of_ble_eq_true rfl) (fun _ => rfl) fun x6 => ?_
        refine gk_goto (pc := 104) 68 d_A_array_104 rfl ?_
        refine gk_weak [1, 2, 3, 4, 0] (L' := [(0, va_rf v0), (1, .int v1), (2, .int v2), (3, .int v3), (4, .int x6)]) rfl ?_
        exact q68 v0 v1 v2 v3 x6 h
theorem w_A_array (d : Nat) (a0 : Option Nat) (a1 : Int32) (a2 : Int32) (h : gk_H) : gk_P gx_V (d + 10) y_A_array b_A_array 6 none [] (f_A_array a0 a1 a2 h) 0 [(0, va_rf a0), (1, .int a1), (2, .int a2)] [] h := by
  unfold f_A_array
  refine gk_iload_n (pc := 0) 1 d_A_array_0 rfl ?_
  refine gk_iconst (pc := 1) (1 : Int32) d_A_array_1 rfl ?_
  refine gk_icmp_lt (pc := 2) 10 d_A_array_2 rfl (fun _ => ?_) (fun _ => ?_)
  · refine gk_weak [] (L' := []) rfl ?_
    exact p_A_array_b10 d h
  · refine gk_iload_n (pc := 5) 2 d_A_array_5 rfl ?_
    refine gk_iconst (pc := 6) (1 : Int32) d_A_array_6 rfl ?_
    refine gk_icmp_ge (pc := 7) 20 d_A_array_7 rfl (fun _ => ?_) (fun _ => ?_)
    · refine gk_iload_n (pc := 20) 1 d_A_array_20 rfl ?_
      refine gk_aload_n (pc := 21) 0 d_A_array_21 rfl ?_
      refine gk_getI (pc := 22) 5 1 d_A_array_22 rfl (Nat.le_of_ble_eq_true rfl) tw_292 fun x1 => ?_
      refine gk_icmp_gt (pc := 25) 46 d_A_array_25 rfl (fun _ => ?_) (fun _ => ?_)
      · refine gk_weak [] (L' := []) rfl ?_
        exact p_A_array_b46 d h
      · refine gk_iload_n (pc := 28) 2 d_A_array_28 rfl ?_
        refine gk_aload_n (pc := 29) 0 d_A_array_29 rfl ?_
        refine gk_getI (pc := 30) 5 1 d_A_array_30 rfl (Nat.le_of_ble_eq_true rfl) tw_292 fun x2 => ?_
        refine gk_icmp_gt (pc := 33) 46 d_A_array_33 rfl (fun _ => ?_) (fun _ => ?_)
        · refine gk_weak [] (L' := []) rfl ?_
          exact p_A_array_b46 d h
        · refine gk_iload_n (pc := 36) 1 d_A_array_36 rfl ?_
          refine gk_iload_n (pc := 37) 2 d_A_array_37 rfl ?_
          refine gk_imul (pc := 38) d_A_array_38 ?_
          refine gk_aload_n (pc := 39) 0 d_A_array_39 rfl ?_
          refine gk_getI (pc := 40) 5 1 d_A_array_40 rfl (Nat.le_of_ble_eq_true rfl) tw_292 fun x3 => ?_
          refine gk_icmp_le (pc := 43) 56 d_A_array_43 rfl (fun _ => ?_) (fun _ => ?_)
          · refine gk_aload_n (pc := 56) 0 d_A_array_56 rfl ?_
            refine gk_getI (pc := 57) 5 1 d_A_array_57 rfl (Nat.le_of_ble_eq_true rfl) tw_292 fun x4 => ?_
            refine gk_iload_n (pc := 60) 1 d_A_array_60 rfl ?_
            refine gk_iload_n (pc := 61) 2 d_A_array_61 rfl ?_
            refine gk_imul (pc := 62) d_A_array_62 ?_
            refine gk_isub (pc := 63) d_A_array_63 ?_
            refine gk_topI (pc := 64) fun x5 => ?_
            refine gk_istore_n (pc := 64) (L' := [(3, .int x5), (0, va_rf a0), (1, .int a1), (2, .int a2)]) d_A_array_64 (Nat.le_of_ble_eq_true rfl) rfl ?_
            refine gk_iload_n (pc := 65) 0 d_A_array_65 rfl ?_
            refine gk_istore (pc := 66) (L' := [(4, .int x5), (3, .int x5), (0, va_rf a0), (1, .int a1), (2, .int a2)]) d_A_array_66 (Nat.le_of_ble_eq_true rfl) rfl ?_
            refine gk_weak [2, 3, 4, 1, 0] (L' := [(0, va_rf a0), (1, .int a1), (2, .int a2), (3, .int x5), (4, .int x5)]) rfl ?_
            exact p_A_array_b68 d gk_F a0 a1 a2 x5 x5 h
          · refine gk_weak [] (L' := []) rfl ?_
            exact p_A_array_b46 d h
    · refine gk_weak [] (L' := []) rfl ?_
      exact p_A_array_b10 d h
theorem p_A_array (d : Nat) (a0 : Option Nat) (a1 : Int32) (a2 : Int32) (h : gk_H) : ∀ r h1, f_A_array a0 a1 a2 h = some (r, h1) → gk_M (d + 10) y_A_array b_A_array 6 none [va_rf a0, .int a1, .int a2] h (gx_V r) h1 :=
  fun r h1 e => gk_M_of2 (by decide +kernel) (by simp [lv_args, gk_cat_rf, gk_catI, gk_catJ, gk_catD, gv_V, gv_I, gv_J, gv_D, gv_R]) (by simp [lg_sl, gk_cat_rf, gk_catI, gk_catJ, gk_catD, gv_V, gv_I, gv_J, gv_D, gv_R]) (w_A_array d a0 a1 a2 h r h1 e)
theorem d_Op_takesOne_0 : decode b_Op_takesOne 0 = .ok (.iload_n 0, 1) := by decide +kernel
theorem d_Op_takesOne_1 : decode b_Op_takesOne 1 = .ok (.ifCond .eq 8, 3) := by decide +kernel
theorem d_Op_takesOne_4 : decode b_Op_takesOne 4 = .ok (.iload_n 0, 1) := by decide +kernel
theorem d_Op_takesOne_5 : decode b_Op_takesOne 5 = .ok (.iconst 1, 1) := by decide +kernel
theorem d_Op_takesOne_6 : decode b_Op_takesOne 6 = .ok (.if_icmp .ne 7, 3) := by decide +kernel
theorem d_Op_takesOne_9 : decode b_Op_takesOne 9 = .ok (.iconst 1, 1) := by decide +kernel
theorem d_Op_takesOne_10 : decode b_Op_takesOne 10 = .ok (.goto 4, 3) := by decide +kernel
theorem d_Op_takesOne_13 : decode b_Op_takesOne 13 = .ok (.iconst 0, 1) := by decide +kernel
theorem d_Op_takesOne_14 : decode b_Op_takesOne 14 = .ok (.ireturn, 1) := by decide +kernel
theorem p_Op_takesOne_b14 (d : Nat)  (s0 : Int32) (h : gk_H) : gk_P gw_I d y_Op_takesOne b_Op_takesOne 1 (some .boolean) [] (f_Op_takesOne_b14  s0 h) 14 [] [.int s0] h := by
  unfold f_Op_takesOne_b14
  exact gk_zret (pc := 14) rfl d_Op_takesOne_14 rfl
theorem p_Op_takesOne_b9 (d : Nat)   (h : gk_H) : gk_P gw_I d y_Op_takesOne b_Op_takesOne 1 (some .boolean) [] (f_Op_takesOne_b9   h) 9 [] [] h := by
  unfold f_Op_takesOne_b9
  refine gk_iconst (pc := 9) (1 : Int32) d_Op_takesOne_9 rfl ?_
  refine gk_goto (pc := 10) 14 d_Op_takesOne_10 rfl ?_
  exact p_Op_takesOne_b14 d (1 : Int32) h
theorem w_Op_takesOne (d : Nat) (a0 : Int32) (h : gk_H) : gk_P gw_I d y_Op_takesOne b_Op_takesOne 1 (some .boolean) [] (f_Op_takesOne a0 h) 0 [(0, .int a0)] [] h := by
  unfold f_Op_takesOne
  refine gk_iload_n (pc := 0) 0 d_Op_takesOne_0 rfl ?_
  refine gk_if_eq (pc := 1) 9 d_Op_takesOne_1 rfl (fun _ => ?_) (fun _ => ?_)
  · refine gk_weak [] (L' := []) rfl ?_
    exact p_Op_takesOne_b9 d h
  · refine gk_iload_n (pc := 4) 0 d_Op_takesOne_4 rfl ?_
    refine gk_iconst (pc := 5) (1 : Int32) d_Op_takesOne_5 rfl ?_
    refine gk_icmp_ne (pc := 6) 13 d_Op_takesOne_6 rfl (fun _ => ?_) (fun _ => ?_)
    · refine gk_weak [] (L' := []) rfl ?_
      exact p_Op_takesOne_b9 d h
    · refine gk_iconst (pc := 13) (0 : Int32) d_Op_takesOne_13 rfl ?_
      refine gk_weak [] (L' := []) rfl ?_
      exact p_Op_takesOne_b14 d (0 : Int32) h
theorem p_Op_takesOne (d : Nat) (a0 : Int32) (h : gk_H) : ∀ r h1, f_Op_takesOne a0 h = some (r, h1) → gk_M d y_Op_takesOne b_Op_takesOne 1 (some .boolean) [.int a0] h (.inl (gv_I r)) h1 :=
  fun r h1 e => gk_M_of2 (by decide +kernel) (by simp [lv_args, gk_cat_rf, gk_catI, gk_catJ, gk_catD, gv_V, gv_I, gv_J, gv_D, gv_R]) (by simp [lg_sl, gk_cat_rf, gk_catI, gk_catJ, gk_catD, gv_V, gv_I, gv_J, gv_D, gv_R]) (w_Op_takesOne d a0 h r h1 e)
theorem d_Va_howManyCells_0 : decode b_Va_howManyCells 0 = .ok (.aload_n 0, 1) := by decide +kernel
theorem d_Va_howManyCells_1 : decode b_Va_howManyCells 1 = .ok (.getfield 26, 3) := by decide +kernel
theorem d_Va_howManyCells_4 : decode b_Va_howManyCells 4 = .ok (.aload_n 0, 1) := by decide +kernel
theorem d_Va_howManyCells_5 : decode b_Va_howManyCells 5 = .ok (.getfield 29, 3) := by decide +kernel
theorem d_Va_howManyCells_8 : decode b_Va_howManyCells 8 = .ok (.imul, 1) := by decide +kernel
theorem d_Va_howManyCells_9 : decode b_Va_howManyCells 9 = .ok (.ireturn, 1) := by decide +kernel
theorem w_Va_howManyCells (d : Nat) (a0 : Option Nat) (h : gk_H) : gk_P gw_I d y_Va_howManyCells b_Va_howManyCells 1 (some .int) [] (f_Va_howManyCells a0 h) 0 [(0, va_rf a0)] [] h := by
  unfold f_Va_howManyCells
  refine gk_aload_n (pc := 0) 0 d_Va_howManyCells_0 rfl ?_
  refine gk_getI (pc := 1) 2 4 d_Va_howManyCells_1 rfl (Nat.le_of_ble_eq_true rfl) tw_212 fun x1 => ?_
  refine gk_aload_n (pc := 4) 0 d_Va_howManyCells_4 rfl ?_
  refine gk_getI (pc := 5) 2 5 d_Va_howManyCells_5 rfl (Nat.le_of_ble_eq_true rfl) tw_215 fun x2 => ?_
  refine gk_imul (pc := 8) d_Va_howManyCells_8 ?_
  exact gk_iret (pc := 9) rfl d_Va_howManyCells_9 rfl
theorem p_Va_howManyCells (d : Nat) (a0 : Option Nat) (h : gk_H) : ∀ r h1, f_Va_howManyCells a0 h = some (r, h1) → gk_M d y_Va_howManyCells b_Va_howManyCells 1 (some .int) [va_rf a0] h (.inl (gv_I r)) h1 :=
  fun r h1 e => gk_M_of2 (by decide +kernel) (by simp [lv_args, gk_cat_rf, gk_catI, gk_catJ, gk_catD, gv_V, gv_I, gv_J, gv_D, gv_R]) (by simp [lg_sl, gk_cat_rf, gk_catI, gk_catJ, gk_catD, gv_V, gv_I, gv_J, gv_D, gv_R]) (w_Va_howManyCells d a0 h r h1 e)
theorem d_Va_cellAt_0 : decode b_Va_cellAt 0 = .ok (.aload_n 0, 1) := by decide +kernel
theorem d_Va_cellAt_1 : decode b_Va_cellAt 1 = .ok (.getfield 32, 3) := by decide +kernel
theorem d_Va_cellAt_4 : decode b_Va_cellAt 4 = .ok (.ifnull 16, 3) := by decide +kernel
theorem d_Va_cellAt_7 : decode b_Va_cellAt 7 = .ok (.iload_n 1, 1) := by decide +kernel
theorem d_Va_cellAt_8 : decode b_Va_cellAt 8 = .ok (.ifCond .lt 12, 3) := by decide +kernel
theorem d_Va_cellAt_11 : decode b_Va_cellAt 11 = .ok (.iload_n 1, 1) := by decide +kernel
theorem d_Va_cellAt_12 : decode b_Va_cellAt 12 = .ok (.aload_n 0, 1) := by decide +kernel
theorem d_Va_cellAt_13 : decode b_Va_cellAt 13 = .ok (.getfield 32, 3) := by decide +kernel
theorem d_Va_cellAt_16 : decode b_Va_cellAt 16 = .ok (.arraylength, 1) := by decide +kernel
theorem d_Va_cellAt_17 : decode b_Va_cellAt 17 = .ok (.if_icmp .lt 5, 3) := by decide +kernel
theorem d_Va_cellAt_20 : decode b_Va_cellAt 20 = .ok (.aload_n 0, 1) := by decide +kernel
theorem d_Va_cellAt_21 : decode b_Va_cellAt 21 = .ok (.areturn, 1) := by decide +kernel
theorem d_Va_cellAt_22 : decode b_Va_cellAt 22 = .ok (.aload_n 0, 1) := by decide +kernel
theorem d_Va_cellAt_23 : decode b_Va_cellAt 23 = .ok (.getfield 32, 3) := by decide +kernel
theorem d_Va_cellAt_26 : decode b_Va_cellAt 26 = .ok (.iload_n 1, 1) := by decide +kernel
theorem d_Va_cellAt_27 : decode b_Va_cellAt 27 = .ok (.aaload, 1) := by decide +kernel
theorem d_Va_cellAt_28 : decode b_Va_cellAt 28 = .ok (.areturn, 1) := by decide +kernel
theorem p_Va_cellAt_b20 (d : Nat)  (v0 : Option Nat) (h : gk_H) : gk_P gw_R d y_Va_cellAt b_Va_cellAt 2 (some (.object "ValueAlgebra$Value")) [] (f_Va_cellAt_b20  v0 h) 20 [(0, va_rf v0)] [] h := by
  unfold f_Va_cellAt_b20
  refine gk_aload_n (pc := 20) 0 d_Va_cellAt_20 rfl ?_
  exact gk_aret (pc := 21) rfl d_Va_cellAt_21 rfl (Or.inl ⟨_, rfl⟩)
theorem w_Va_cellAt (d : Nat) (a0 : Option Nat) (a1 : Int32) (h : gk_H) : gk_P gw_R d y_Va_cellAt b_Va_cellAt 2 (some (.object "ValueAlgebra$Value")) [] (f_Va_cellAt a0 a1 h) 0 [(0, va_rf a0), (1, .int a1)] [] h := by
  unfold f_Va_cellAt
  refine gk_aload_n (pc := 0) 0 d_Va_cellAt_0 rfl ?_
  refine gk_getR (pc := 1) 2 6 d_Va_cellAt_1 rfl (Nat.le_of_ble_eq_true rfl) tw_218 fun x1 => ?_
  refine gk_ifnull (pc := 4) 20 d_Va_cellAt_4 rfl (fun _ => ?_) (fun _ => ?_)
  · refine gk_weak [0] (L' := [(0, va_rf a0)]) rfl ?_
    exact p_Va_cellAt_b20 d a0 h
  · refine gk_iload_n (pc := 7) 1 d_Va_cellAt_7 rfl ?_
    refine gk_if_lt (pc := 8) 20 d_Va_cellAt_8 rfl (fun _ => ?_) (fun _ => ?_)
    · refine gk_weak [0] (L' := [(0, va_rf a0)]) rfl ?_
      exact p_Va_cellAt_b20 d a0 h
    · refine gk_iload_n (pc := 11) 1 d_Va_cellAt_11 rfl ?_
      refine gk_aload_n (pc := 12) 0 d_Va_cellAt_12 rfl ?_
      refine gk_getR (pc := 13) 2 6 d_Va_cellAt_13 rfl (Nat.le_of_ble_eq_true rfl) tw_218 fun x2 => ?_
      refine gk_alen (pc := 16) d_Va_cellAt_16 fun x3 => ?_
      refine gk_icmp_lt (pc := 17) 22 d_Va_cellAt_17 rfl (fun _ => ?_) (fun _ => ?_)
      · refine gk_aload_n (pc := 22) 0 d_Va_cellAt_22 rfl ?_
        refine gk_getR (pc := 23) 2 6 d_Va_cellAt_23 rfl (Nat.le_of_ble_eq_true rfl) tw_218 fun x4 => ?_
        refine gk_iload_n (pc := 26) 1 d_Va_cellAt_26 rfl ?_
        refine gk_aald (pc := 27) d_Va_cellAt_27 fun x5 => ?_
        exact gk_aret (pc := 28) rfl d_Va_cellAt_28 rfl (Or.inl ⟨_, rfl⟩)
      · refine gk_weak [0] (L' := [(0, va_rf a0)]) rfl ?_
        exact p_Va_cellAt_b20 d a0 h
theorem p_Va_cellAt (d : Nat) (a0 : Option Nat) (a1 : Int32) (h : gk_H) : ∀ r h1, f_Va_cellAt a0 a1 h = some (r, h1) → gk_M d y_Va_cellAt b_Va_cellAt 2 (some (.object "ValueAlgebra$Value")) [va_rf a0, .int a1] h (.inl (gv_R r)) h1 :=
  fun r h1 e => gk_M_of2 (by decide +kernel) (by simp [lv_args, gk_cat_rf, gk_catI, gk_catJ, gk_catD, gv_V, gv_I, gv_J, gv_D, gv_R]) (by simp [lg_sl, gk_cat_rf, gk_catI, gk_catJ, gk_catD, gv_V, gv_I, gv_J, gv_D, gv_R]) (w_Va_cellAt d a0 a1 h r h1 e)
theorem d_Ar_take_0 : decode b_Ar_take 0 = .ok (.aload_n 0, 1) := by decide +kernel
theorem d_Ar_take_1 : decode b_Ar_take 1 = .ok (.iconst 0, 1) := by decide +kernel
theorem d_Ar_take_2 : decode b_Ar_take 2 = .ok (.putfield 46, 3) := by decide +kernel
theorem d_Ar_take_5 : decode b_Ar_take 5 = .ok (.iconst 0, 1) := by decide +kernel
theorem d_Ar_take_6 : decode b_Ar_take 6 = .ok (.istore 4, 2) := by decide +kernel
theorem d_Ar_take_8 : decode b_Ar_take 8 = .ok (.iload 4, 2) := by decide +kernel
theorem d_Ar_take_10 : decode b_Ar_take 10 = .ok (.iload_n 3, 1) := by decide +kernel
theorem d_Ar_take_11 : decode b_Ar_take 11 = .ok (.if_icmp .ge 85, 3) := by decide +kernel
theorem d_Ar_take_14 : decode b_Ar_take 14 = .ok (.iload 4, 2) := by decide +kernel
theorem d_Ar_take_16 : decode b_Ar_take 16 = .ok (.bipush 8, 2) := by decide +kernel
theorem d_Ar_take_18 : decode b_Ar_take 18 = .ok (.if_icmp .ge 78, 3) := by decide +kernel
theorem d_Ar_take_21 : decode b_Ar_take 21 = .ok (.iload_n 2, 1) := by decide +kernel
theorem d_Ar_take_22 : decode b_Ar_take 22 = .ok (.ifCond .lt 74, 3) := by decide +kernel
theorem d_Ar_take_25 : decode b_Ar_take 25 = .ok (.iload_n 2, 1) := by decide +kernel
theorem d_Ar_take_26 : decode b_Ar_take 26 = .ok (.iload 4, 2) := by decide +kernel
theorem d_Ar_take_28 : decode b_Ar_take 28 = .ok (.iadd, 1) := by decide +kernel
theorem d_Ar_take_29 : decode b_Ar_take 29 = .ok (.aload_n 1, 1) := by decide +kernel
theorem d_Ar_take_30 : decode b_Ar_take 30 = .ok (.arraylength, 1) := by decide +kernel
theorem d_Ar_take_31 : decode b_Ar_take 31 = .ok (.if_icmp .ge 65, 3) := by decide +kernel
theorem d_Ar_take_34 : decode b_Ar_take 34 = .ok (.aload_n 1, 1) := by decide +kernel
theorem d_Ar_take_35 : decode b_Ar_take 35 = .ok (.iload_n 2, 1) := by decide +kernel
theorem d_Ar_take_36 : decode b_Ar_take 36 = .ok (.iload 4, 2) := by decide +kernel
theorem d_Ar_take_38 : decode b_Ar_take 38 = .ok (.iadd, 1) := by decide +kernel
theorem d_Ar_take_39 : decode b_Ar_take 39 = .ok (.aaload, 1) := by decide +kernel
theorem d_Ar_take_40 : decode b_Ar_take 40 = .ok (.astore 5, 2) := by decide +kernel
theorem d_Ar_take_42 : decode b_Ar_take 42 = .ok (.aload_n 0, 1) := by decide +kernel
theorem d_Ar_take_43 : decode b_Ar_take 43 = .ok (.getfield 13, 3) := by decide +kernel
theorem d_Ar_take_46 : decode b_Ar_take 46 = .ok (.iload 4, 2) := by decide +kernel
theorem d_Ar_take_48 : decode b_Ar_take 48 = .ok (.aload 5, 2) := by decide +kernel
theorem d_Ar_take_50 : decode b_Ar_take 50 = .ok (.aastore, 1) := by decide +kernel
theorem d_Ar_take_51 : decode b_Ar_take 51 = .ok (.aload_n 0, 1) := by decide +kernel
theorem d_Ar_take_52 : decode b_Ar_take 52 = .ok (.getfield 17, 3) := by decide +kernel
theorem d_Ar_take_55 : decode b_Ar_take 55 = .ok (.iload 4, 2) := by decide +kernel
theorem d_Ar_take_57 : decode b_Ar_take 57 = .ok (.aload 5, 2) := by decide +kernel
theorem d_Ar_take_59 : decode b_Ar_take 59 = .ok (.invokevirtual 50, 3) := by decide +kernel
theorem d_Ar_take_62 : decode b_Ar_take 62 = .ok (.iconst 1, 1) := by decide +kernel
theorem d_Ar_take_63 : decode b_Ar_take 63 = .ok (.if_icmp .ne 12, 3) := by decide +kernel
theorem d_Ar_take_66 : decode b_Ar_take 66 = .ok (.aload 5, 2) := by decide +kernel
theorem d_Ar_take_68 : decode b_Ar_take 68 = .ok (.iconst 0, 1) := by decide +kernel
theorem d_Ar_take_69 : decode b_Ar_take 69 = .ok (.invokevirtual 54, 3) := by decide +kernel
theorem d_Ar_take_72 : decode b_Ar_take 72 = .ok (.goto 7, 3) := by decide +kernel
theorem d_Ar_take_75 : decode b_Ar_take 75 = .ok (.aload_n 0, 1) := by decide +kernel
theorem d_Ar_take_76 : decode b_Ar_take 76 = .ok (.getfield 36, 3) := by decide +kernel
theorem d_Ar_take_79 : decode b_Ar_take 79 = .ok (.aastore, 1) := by decide +kernel
theorem d_Ar_take_80 : decode b_Ar_take 80 = .ok (.aload_n 0, 1) := by decide +kernel
theorem d_Ar_take_81 : decode b_Ar_take 81 = .ok (.dup, 1) := by decide +kernel
theorem d_Ar_take_82 : decode b_Ar_take 82 = .ok (.getfield 46, 3) := by decide +kernel
theorem d_Ar_take_85 : decode b_Ar_take 85 = .ok (.iconst 1, 1) := by decide +kernel
theorem d_Ar_take_86 : decode b_Ar_take 86 = .ok (.iadd, 1) := by decide +kernel
theorem d_Ar_take_87 : decode b_Ar_take 87 = .ok (.putfield 46, 3) := by decide +kernel
theorem d_Ar_take_90 : decode b_Ar_take 90 = .ok (.iinc 4 1, 3) := by decide +kernel
theorem d_Ar_take_93 : decode b_Ar_take 93 = .ok (.goto (-85), 3) := by decide +kernel
theorem d_Ar_take_96 : decode b_Ar_take 96 = .ok (.aload_n 0, 1) := by decide +kernel
theorem d_Ar_take_97 : decode b_Ar_take 97 = .ok (.iconst 0, 1) := by decide +kernel
theorem d_Ar_take_98 : decode b_Ar_take 98 = .ok (.putfield 57, 3) := by decide +kernel
theorem d_Ar_take_101 : decode b_Ar_take 101 = .ok (.aload_n 0, 1) := by decide +kernel
theorem d_Ar_take_102 : decode b_Ar_take 102 = .ok (.iconst 0, 1) := by decide +kernel
theorem d_Ar_take_103 : decode b_Ar_take 103 = .ok (.putfield 60, 3) := by decide +kernel
theorem d_Ar_take_106 : decode b_Ar_take 106 = .ok (.return_, 1) := by decide +kernel
theorem p_Ar_take_b96 (d : Nat)  (v0 : Option Nat) (h : gk_H) : gk_P gw_V (d + 1) y_Ar_take b_Ar_take 6 none [] (f_Ar_take_b96  v0 h) 96 [(0, va_rf v0)] [] h := by
  unfold f_Ar_take_b96
  refine gk_aload_n (pc := 96) 0 d_Ar_take_96 rfl ?_
  refine gk_iconst (pc := 97) (0 : Int32) d_Ar_take_97 rfl ?_
  refine gk_putfield (pc := 98) 4 3 d_Ar_take_98 rfl (Nat.le_of_ble_eq_true rfl) tw_263 (Or.inl rfl) fun h1 => ?_
  refine gk_aload_n (pc := 101) 0 d_Ar_take_101 rfl ?_
  refine gk_iconst (pc := 102) (0 : Int32) d_Ar_take_102 rfl ?_
  refine gk_putfield (pc := 103) 4 5 d_Ar_take_103 rfl (Nat.le_of_ble_eq_true rfl) tw_265 (Or.inl rfl) fun h2 => ?_
  exact gk_vret (pc := 106) rfl d_Ar_take_106 rfl
theorem p_Ar_take_b79 (d : Nat) (b8 : Option Nat → Option Nat → Int32 → Int32 → Int32 → gk_H → Option (Unit × gk_H)) (q8 : ∀ (v0 : Option Nat) (v1 : Option Nat) (v2 : Int32) (v3 : Int32) (v4 : Int32) (h : gk_H), gk_P gw_V (d + 1) y_Ar_take b_Ar_take 6 none [] (b8 v0 v1 v2 v3 v4 h) 8 [(0, va_rf v0), (1, va_rf v1), (2, .int v2), (3, .int v3), (4, .int v4)] [] h) (v0 : Option Nat) (v1 : Option Nat) (v2 : Int32) (v3 : Int32) (v4 : Int32) (s0 : Option Nat) (s1 : Int32) (s2 : Option Nat) (h : gk_H) : gk_P gw_V (d + 1) y_Ar_take b_Ar_take 6 none [] (f_Ar_take_b79 b8 v0 v1 v2 v3 v4 s0 s1 s2 h) 79 [(0, va_rf v0), (1, va_rf v1), (2, .int v2), (3, .int v3), (4, .int v4)] [va_rf s2, .int s1, va_rf s0] h := by
  unfold f_Ar_take_b79
  refine gk_aast (pc := 79) d_Ar_take_79 fun h1 => ?_
  refine gk_aload_n (pc := 80) 0 d_Ar_take_80 rfl ?_
  refine gk_dup (pc := 81) d_Ar_take_81 (gk_cat_rf _) ?_
  refine gk_getI (pc := 82) 4 2 d_Ar_take_82 rfl (Nat.le_of_ble_eq_true rfl) tw_262 fun x1 => ?_
  refine gk_iconst (pc := 85) (1 : Int32) d_Ar_take_85 rfl ?_
  refine gk_iadd (pc := 86) d_Ar_take_86 ?_
  refine gk_putfield (pc := 87) 4 2 d_Ar_take_87 rfl (Nat.le_of_ble_eq_true rfl) tw_262 (Or.inl rfl) fun h2 => ?_
  refine gk_iincN (pc := 90) 4 (1 : Int32) (L' := fun x2 => [(4, .int x2), (0, va_rf v0), (1, va_rf v1), (2, .int v2), (3, .int v3)]) d_Ar_take_90 rfl rfl (Nat.le_of_ble_eq_true rfl) (fun _ => rfl) fun x2 => ?_
  refine gk_goto (pc := 93) 8 d_Ar_take_93 rfl ?_
  refine gk_weak [1, 2, 3, 4, 0] (L' := [(0, va_rf v0), (1, va_rf v1), (2, .int v2), (3, .int v3), (4, .int x2)]) rfl ?_
  exact q8 v0 v1 v2 v3 x2 h2
theorem p_Ar_take_b8 (d : Nat)  : ∀ (fu : Nat) (v0 : Option Nat) (v1 : Option Nat) (v2 : Int32) (v3 : Int32) (v4 : Int32) (h : gk_H), gk_P gw_V (d + 1) y_Ar_take b_Ar_take 6 none [] (f_Ar_take_b8  fu v0 v1 v2 v3 v4 h) 8 [(0, va_rf v0), (1, va_rf v1), (2, .int v2), (3, .int v3), (4, .int v4)] [] h := by
  intro fu
  induction fu with
  | zero => intros; exact gk_none
  | succ fu q8 =>
    intro v0 v1 v2 v3 v4 h
    rw [f_Ar_take_b8]
    refine gk_iload (pc := 8) 4 d_Ar_take_8 rfl ?_
    refine gk_iload_n (pc := 10) 3 d_Ar_take_10 rfl ?_
    refine gk_icmp_ge (pc := 11) 96 d_Ar_take_11 rfl (fun _ => ?_) (fun _ => ?_)
    · refine gk_weak [0] (L' := [(0, va_rf v0)]) rfl ?_
      exact p_Ar_take_b96 d v0 h
    · refine gk_iload (pc := 14) 4 d_Ar_take_14 rfl ?_
      refine gk_bipush (pc := 16) (8 : Int32) d_Ar_take_16 rfl ?_
      refine gk_icmp_ge (pc := 18) 96 d_Ar_take_18 rfl (fun _ => ?_) (fun _ => ?_)
      · refine gk_weak [0] (L' := [(0, va_rf v0)]) rfl ?_
        exact p_Ar_take_b96 d v0 h
      · refine gk_iload_n (pc := 21) 2 d_Ar_take_21 rfl ?_
        refine gk_if_lt (pc := 22) 96 d_Ar_take_22 rfl (fun _ => ?_) (fun _ => ?_)
        · refine gk_weak [0] (L' := [(0, va_rf v0)]) rfl ?_
          exact p_Ar_take_b96 d v0 h
        · refine gk_iload_n (pc := 25) 2 d_Ar_take_25 rfl ?_
          refine gk_iload (pc := 26) 4 d_Ar_take_26 rfl ?_
          refine gk_iadd (pc := 28) d_Ar_take_28 ?_
          refine gk_aload_n (pc := 29) 1 d_Ar_take_29 rfl ?_
          refine gk_alen (pc := 30) d_Ar_take_30 fun x1 => ?_
          refine gk_icmp_ge (pc := 31) 96 d_Ar_take_31 rfl (fun _ => ?_) (fun _ => ?_)
          · refine gk_weak [0] (L' := [(0, va_rf v0)]) rfl ?_
            exact p_Ar_take_b96 d v0 h
          · refine gk_aload_n (pc := 34) 1 d_Ar_take_34 rfl ?_
            refine gk_iload_n (pc := 35) 2 d_Ar_take_35 rfl ?_
            refine gk_iload (pc := 36) 4 d_Ar_take_36 rfl ?_
            refine gk_iadd (pc := 38) d_Ar_take_38 ?_
            refine gk_aald (pc := 39) d_Ar_take_39 fun x2 => ?_
            refine gk_astore (pc := 40) (L' := [(5, va_rf x2), (0, va_rf v0), (1, va_rf v1), (2, .int v2), (3, .int v3), (4, .int v4)]) d_Ar_take_40 (Nat.le_of_ble_eq_true rfl) rfl ?_
            refine gk_aload_n (pc := 42) 1 d_Ar_take_42 rfl ?_
            refine gk_getR (pc := 43) 4 0 d_Ar_take_43 rfl (Nat.le_of_ble_eq_true rfl) tw_260 fun x3 => ?_
            refine gk_iload (pc := 46) 5 d_Ar_take_46 rfl ?_
            refine gk_aload (pc := 48) 0 d_Ar_take_48 rfl ?_
            refine gk_aast (pc := 50) d_Ar_take_50 fun h1 => ?_
            refine gk_aload_n (pc := 51) 1 d_Ar_take_51 rfl ?_
            refine gk_getR (pc := 52) 4 1 d_Ar_take_52 rfl (Nat.le_of_ble_eq_true rfl) tw_261 fun x4 => ?_
            refine gk_iload (pc := 55) 5 d_Ar_take_55 rfl ?_
            refine gk_aload (pc := 57) 0 d_Ar_take_57 rfl ?_
            refine gk_callV (pc := 59) (d := d) (w' := gv_I) (as := []) (n := 0) 2 d_Ar_take_59 rfl rfl rfl rfl (by simp [gk_cat_rf, gk_catI, gk_catJ, gk_catD, gv_V, gv_I, gv_J, gv_D, gv_R]) tw_775 tw_776 tw_777 tw_97 cw_Va_howManyCells hy_Va_howManyCells (Nat.le_of_ble_eq_true rfl) (p_Va_howManyCells d x2 h1) fun x5 h2 => ?_
            refine gk_iconst (pc := 62) (1 : Int32) d_Ar_take_62 rfl ?_
            refine gk_icmp_ne (pc := 63) 75 d_Ar_take_63 rfl (fun _ => ?_) (fun _ => ?_)
            · refine gk_aload (pc := 66) 0 d_Ar_take_66 rfl ?_
              refine gk_iconst (pc := 68) (0 : Int32) d_Ar_take_68 rfl ?_
              refine gk_callV (pc := 69) (d := d) (w' := gv_R) (as := [.int (0 : Int32)]) (n := 1) 2 d_Ar_take_69 rfl rfl rfl rfl (by simp [gk_cat_rf, gk_catI, gk_catJ, gk_catD, gv_V, gv_I, gv_J, gv_D, gv_R]) tw_779 tw_780 tw_781 tw_97 cw_Va_cellAt hy_Va_cellAt (Nat.le_of_ble_eq_true rfl) (p_Va_cellAt d x2 (0 : Int32) h2) fun x6 h3 => ?_
              refine gk_goto (pc := 72) 79 d_Ar_take_72 rfl ?_
              refine gk_weak [1, 2, 3, 4, 5] (L' := [(0, va_rf v0), (1, va_rf v1), (2, .int v2), (3, .int v3), (4, .int v4)]) rfl ?_
              exact p_Ar_take_b79 d (f_Ar_take_b8 fu) q8 v0 v1 v2 v3 v4 x4 v4 x6 h3
            · refine gk_aload_n (pc := 75) 1 d_Ar_take_75 rfl ?_
              refine gk_getR (pc := 76) 4 7 d_Ar_take_76 rfl (Nat.le_of_ble_eq_true rfl) tw_267 fun x7 => ?_
              refine gk_weak [1, 2, 3, 4, 5] (L' := [(0, va_rf v0), (1, va_rf v1), (2, .int v2), (3, .int v3), (4, .int v4)]) rfl ?_
              exact p_Ar_take_b79 d (f_Ar_take_b8 fu) q8 v0 v1 v2 v3 v4 x4 v4 x7 h2
theorem w_Ar_take (d : Nat) (a0 : Option Nat) (a1 : Option Nat) (a2 : Int32) (a3 : Int32) (h : gk_H) : gk_P gw_V (d + 1) y_Ar_take b_Ar_take 6 none [] (f_Ar_take a0 a1 a2 a3 h) 0 [(0, va_rf a0), (1, va_rf a1), (2, .int a2), (3, .int a3)] [] h := by
  unfold f_Ar_take
  refine gk_aload_n (pc := 0) 0 d_Ar_take_0 rfl ?_
  refine gk_iconst (pc := 1) (0 : Int32) d_Ar_take_1 rfl ?_
  refine gk_putfield (pc := 2) 4 2 d_Ar_take_2 rfl (Nat.le_of_ble_eq_true rfl) tw_262 (Or.inl rfl) fun h1 => ?_
  refine gk_iconst (pc := 5) (0 : Int32) d_Ar_take_5 rfl ?_
  refine gk_istore (pc := 6) (L' := [(4, .int (0 : Int32)), (0, va_rf a0), (1, va_rf a1), (2, .int a2), (3, .int a3)]) d_Ar_take_6 (Nat.le_of_ble_eq_true rfl) rfl ?_
  refine gk_weak [1, 2, 3, 4, 0] (L' := [(0, va_rf a0), (1, va_rf a1), (2, .int a2), (3, .int a3), (4, .int (0 : Int32))]) rfl ?_
  exact p_Ar_take_b8 d gk_F a0 a1 a2 a3 (0 : Int32) h1
theorem p_Ar_take (d : Nat) (a0 : Option Nat) (a1 : Option Nat) (a2 : Int32) (a3 : Int32) (h : gk_H) : ∀ r h1, f_Ar_take a0 a1 a2 a3 h = some (r, h1) → gk_M (d + 1) y_Ar_take b_Ar_take 6 none [va_rf a0, va_rf a1, .int a2, .int a3] h (.inl (gv_V r)) h1 :=
  fun r h1 e => gk_M_of2 (by decide +kernel) (by simp [lv_args, gk_cat_rf, gk_catI, gk_catJ, gk_catD, gv_V, gv_I, gv_J, gv_D, gv_R]) (by simp [lg_sl, gk_cat_rf, gk_catI, gk_catJ, gk_catD, gv_V, gv_I, gv_J, gv_D, gv_R]) (w_Ar_take d a0 a1 a2 a3 h r h1 e)
theorem d_Ar_single_0 : decode b_Ar_single 0 = .ok (.iload_n 1, 1) := by decide +kernel
theorem d_Ar_single_1 : decode b_Ar_single 1 = .ok (.ifCond .lt 20, 3) := by decide +kernel
theorem d_Ar_single_4 : decode b_Ar_single 4 = .ok (.iload_n 1, 1) := by decide +kernel
theorem d_Ar_single_5 : decode b_Ar_single 5 = .ok (.aload_n 0, 1) := by decide +kernel
theorem d_Ar_single_6 : decode b_Ar_single 6 = .ok (.getfield 46, 3) := by decide +kernel
theorem d_Ar_single_9 : decode b_Ar_single 9 = .ok (.if_icmp .ge 12, 3) := by decide +kernel
theorem d_Ar_single_12 : decode b_Ar_single 12 = .ok (.aload_n 0, 1) := by decide +kernel
theorem d_Ar_single_13 : decode b_Ar_single 13 = .ok (.getfield 17, 3) := by decide +kernel
theorem d_Ar_single_16 : decode b_Ar_single 16 = .ok (.iload_n 1, 1) := by decide +kernel
theorem d_Ar_single_17 : decode b_Ar_single 17 = .ok (.aaload, 1) := by decide +kernel
theorem d_Ar_single_18 : decode b_Ar_single 18 = .ok (.goto 7, 3) := by decide +kernel
theorem d_Ar_single_21 : decode b_Ar_single 21 = .ok (.aload_n 0, 1) := by decide +kernel
theorem d_Ar_single_22 : decode b_Ar_single 22 = .ok (.getfield 28, 3) := by decide +kernel
theorem d_Ar_single_25 : decode b_Ar_single 25 = .ok (.areturn, 1) := by decide +kernel
theorem p_Ar_single_b25 (d : Nat)  (s0 : Option Nat) (h : gk_H) : gk_P gw_R d y_Ar_single b_Ar_single 2 (some (.object "ValueAlgebra$Value")) [] (f_Ar_single_b25  s0 h) 25 [] [va_rf s0] h := by
  unfold f_Ar_single_b25
  exact gk_aret (pc := 25) rfl d_Ar_single_25 rfl (Or.inl ⟨_, rfl⟩)
theorem p_Ar_single_b21 (d : Nat)  (v0 : Option Nat) (h : gk_H) : gk_P gw_R d y_Ar_single b_Ar_single 2 (some (.object "ValueAlgebra$Value")) [] (f_Ar_single_b21  v0 h) 21 [(0, va_rf v0)] [] h := by
  unfold f_Ar_single_b21
  refine gk_aload_n (pc := 21) 0 d_Ar_single_21 rfl ?_
  refine gk_getR (pc := 22) 4 6 d_Ar_single_22 rfl (Nat.le_of_ble_eq_true rfl) tw_266 fun x1 => ?_
  refine gk_weak [] (L' := []) rfl ?_
  exact p_Ar_single_b25 d x1 h
theorem w_Ar_single (d : Nat) (a0 : Option Nat) (a1 : Int32) (h : gk_H) : gk_P gw_R d y_Ar_single b_Ar_single 2 (some (.object "ValueAlgebra$Value")) [] (f_Ar_single a0 a1 h) 0 [(0, va_rf a0), (1, .int a1)] [] h := by
  unfold f_Ar_single
  refine gk_iload_n (pc := 0) 1 d_Ar_single_0 rfl ?_
  refine gk_if_lt (pc := 1) 21 d_Ar_single_1 rfl (fun _ => ?_) (fun _ => ?_)
  · refine gk_weak [0] (L' := [(0, va_rf a0)]) rfl ?_
    exact p_Ar_single_b21 d a0 h
  · refine gk_iload_n (pc := 4) 1 d_Ar_single_4 rfl ?_
    refine gk_aload_n (pc := 5) 0 d_Ar_single_5 rfl ?_
    refine gk_getI (pc := 6) 4 2 d_Ar_single_6 rfl (Nat.le_of_ble_eq_true rfl) tw_262 fun x1 => ?_
    refine gk_icmp_ge (pc := 9) 21 d_Ar_single_9 rfl (fun _ => ?_) (fun _ => ?_)
    · refine gk_weak [0] (L' := [(0, va_rf a0)]) rfl ?_
      exact p_Ar_single_b21 d a0 h
    · refine gk_aload_n (pc := 12) 0 d_Ar_single_12 rfl ?_
      refine gk_getR (pc := 13) 4 1 d_Ar_single_13 rfl (Nat.le_of_ble_eq_true rfl) tw_261 fun x2 => ?_
      refine gk_iload_n (pc := 16) 1 d_Ar_single_16 rfl ?_
      refine gk_aald (pc := 17) d_Ar_single_17 fun x3 => ?_
      refine gk_goto (pc := 18) 25 d_Ar_single_18 rfl ?_
      refine gk_weak [] (L' := []) rfl ?_
      exact p_Ar_single_b25 d x3 h
theorem p_Ar_single (d : Nat) (a0 : Option Nat) (a1 : Int32) (h : gk_H) : ∀ r h1, f_Ar_single a0 a1 h = some (r, h1) → gk_M d y_Ar_single b_Ar_single 2 (some (.object "ValueAlgebra$Value")) [va_rf a0, .int a1] h (.inl (gv_R r)) h1 :=
  fun r h1 e => gk_M_of2 (by decide +kernel) (by simp [lv_args, gk_cat_rf, gk_catI, gk_catJ, gk_catD, gv_V, gv_I, gv_J, gv_D, gv_R]) (by simp [lg_sl, gk_cat_rf, gk_catI, gk_catJ, gk_catD, gv_V, gv_I, gv_J, gv_D, gv_R]) (w_Ar_single d a0 a1 h r h1 e)
theorem d_Ar_blame_0 : decode b_Ar_blame 0 = .ok (.aload_n 0, 1) := by decide +kernel
theorem d_Ar_blame_1 : decode b_Ar_blame 1 = .ok (.getfield 57, 3) := by decide +kernel
theorem d_Ar_blame_4 : decode b_Ar_blame 4 = .ok (.ifCond .ne 8, 3) := by decide +kernel
theorem d_Ar_blame_7 : decode b_Ar_blame 7 = .ok (.aload_n 0, 1) := by decide +kernel
theorem d_Ar_blame_8 : decode b_Ar_blame 8 = .ok (.iload_n 1, 1) := by decide +kernel
theorem d_Ar_blame_9 : decode b_Ar_blame 9 = .ok (.putfield 57, 3) := by decide +kernel
theorem d_Ar_blame_12 : decode b_Ar_blame 12 = .ok (.return_, 1) := by decide +kernel
theorem p_Ar_blame_b12 (d : Nat)   (h : gk_H) : gk_P gw_V d y_Ar_blame b_Ar_blame 2 none [] (f_Ar_blame_b12   h) 12 [] [] h := by
  unfold f_Ar_blame_b12
  exact gk_vret (pc := 12) rfl d_Ar_blame_12 rfl
theorem w_Ar_blame (d : Nat) (a0 : Option Nat) (a1 : Int32) (h : gk_H) : gk_P gw_V d y_Ar_blame b_Ar_blame 2 none [] (f_Ar_blame a0 a1 h) 0 [(0, va_rf a0), (1, .int a1)] [] h := by
  unfold f_Ar_blame
  refine gk_aload_n (pc := 0) 0 d_Ar_blame_0 rfl ?_
  refine gk_getI (pc := 1) 4 3 d_Ar_blame_1 rfl (Nat.le_of_ble_eq_true rfl) tw_263 fun x1 => ?_
  refine gk_if_ne (pc := 4) 12 d_Ar_blame_4 rfl (fun _ => ?_) (fun _ => ?_)
  · refine gk_aload_n (pc := 7) 0 d_Ar_blame_7 rfl ?_
    refine gk_iload_n (pc := 8) 1 d_Ar_blame_8 rfl ?_
    refine gk_putfield (pc := 9) 4 3 d_Ar_blame_9 rfl (Nat.le_of_ble_eq_true rfl) tw_263 (Or.inl rfl) fun h1 => ?_
    refine gk_weak [] (L' := []) rfl ?_
    exact p_Ar_blame_b12 d h1
  · refine gk_weak [] (L' := []) rfl ?_
    exact p_Ar_blame_b12 d h
theorem p_Ar_blame (d : Nat) (a0 : Option Nat) (a1 : Int32) (h : gk_H) : ∀ r h1, f_Ar_blame a0 a1 h = some (r, h1) → gk_M d y_Ar_blame b_Ar_blame 2 none [va_rf a0, .int a1] h (.inl (gv_V r)) h1 :=
  fun r h1 e => gk_M_of2 (by decide +kernel) (by simp [lv_args, gk_cat_rf, gk_catI, gk_catJ, gk_catD, gv_V, gv_I, gv_J, gv_D, gv_R]) (by simp [lg_sl, gk_cat_rf, gk_catI, gk_catJ, gk_catD, gv_V, gv_I, gv_J, gv_D, gv_R]) (w_Ar_blame d a0 a1 h r h1 e)
theorem d_Ar_sound_0 : decode b_Ar_sound 0 = .ok (.aload_n 0, 1) := by decide +kernel
theorem d_Ar_sound_1 : decode b_Ar_sound 1 = .ok (.iload_n 1, 1) := by decide +kernel
theorem d_Ar_sound_2 : decode b_Ar_sound 2 = .ok (.invokevirtual 63, 3) := by decide +kernel
theorem d_Ar_sound_5 : decode b_Ar_sound 5 = .ok (.astore_n 2, 1) := by decide +kernel
theorem d_Ar_sound_6 : decode b_Ar_sound 6 = .ok (.aload_n 2, 1) := by decide +kernel
theorem d_Ar_sound_7 : decode b_Ar_sound 7 = .ok (.getfield 66, 3) := by decide +kernel
theorem d_Ar_sound_10 : decode b_Ar_sound 10 = .ok (.iconst 4, 1) := by decide +kernel
theorem d_Ar_sound_11 : decode b_Ar_sound 11 = .ok (.if_icmp .ne 11, 3) := by decide +kernel
theorem d_Ar_sound_14 : decode b_Ar_sound 14 = .ok (.aload_n 0, 1) := by decide +kernel
theorem d_Ar_sound_15 : decode b_Ar_sound 15 = .ok (.aload_n 2, 1) := by decide +kernel
theorem d_Ar_sound_16 : decode b_Ar_sound 16 = .ok (.getfield 69, 3) := by decide +kernel
theorem d_Ar_sound_19 : decode b_Ar_sound 19 = .ok (.invokevirtual 72, 3) := by decide +kernel
theorem d_Ar_sound_22 : decode b_Ar_sound 22 = .ok (.aload_n 2, 1) := by decide +kernel
theorem d_Ar_sound_23 : decode b_Ar_sound 23 = .ok (.areturn, 1) := by decide +kernel
theorem p_Ar_sound_b22 (d : Nat)  (v2 : Option Nat) (h : gk_H) : gk_P gw_R (d + 1) y_Ar_sound b_Ar_sound 3 (some (.object "ValueAlgebra$Value")) [] (f_Ar_sound_b22  v2 h) 22 [(2, va_rf v2)] [] h := by
  unfold f_Ar_sound_b22
  refine gk_aload_n (pc := 22) 0 d_Ar_sound_22 rfl ?_
  exact gk_aret (pc := 23) rfl d_Ar_sound_23 rfl (Or.inl ⟨_, rfl⟩)
theorem w_Ar_sound (d : Nat) (a0 : Option Nat) (a1 : Int32) (h : gk_H) : gk_P gw_R (d + 1) y_Ar_sound b_Ar_sound 3 (some (.object "ValueAlgebra$Value")) [] (f_Ar_sound a0 a1 h) 0 [(0, va_rf a0), (1, .int a1)] [] h := by
  unfold f_Ar_sound
  refine gk_aload_n (pc := 0) 0 d_Ar_sound_0 rfl ?_
  refine gk_iload_n (pc := 1) 1 d_Ar_sound_1 rfl ?_
  refine gk_callV (pc := 2) (d := d) (w' := gv_R) (as := [.int a1]) (n := 1) 4 d_Ar_sound_2 rfl rfl rfl rfl (Nat.le_of_ble_eq_true rfl) tw_795 tw_796 tw_797 tw_96 cw_Ar_single hy_Ar_single (Nat.le_of_ble_eq_true rfl) (p_Ar_single d a0 a1 h) fun x1 h1 => ?_
  refine gk_astore_n (pc := 5) (L' := [(2, va_rf x1), (0, va_rf a0), (1, .int a1)]) d_Ar_sound_5 (Nat.le_of_ble_eq_true rfl) rfl ?_
  refine gk_aload_n (pc := 6) 0 d_Ar_sound_6 rfl ?_
  refine gk_getI (pc := 7) 2 0 d_Ar_sound_7 rfl (Nat.le_of_ble_eq_true rfl) tw_191 fun x2 => ?_
  refine gk_iconst (pc := 10) (4 : Int32) d_Ar_sound_10 rfl ?_
  refine gk_icmp_ne (pc := 11) 22 d_Ar_sound_11 rfl (fun _ => ?_) (fun _ => ?_)
  · refine gk_aload_n (pc := 14) 1 d_Ar_sound_14 rfl ?_
    refine gk_aload_n (pc := 15) 0 d_Ar_sound_15 rfl ?_
    refine gk_getI (pc := 16) 2 1 d_Ar_sound_16 rfl (Nat.le_of_ble_eq_true rfl) tw_196 fun x3 => ?_
    refine gk_callV (pc := 19) (d := d) (w' := gv_V) (as := [.int x3]) (n := 1) 4 d_Ar_sound_19 rfl rfl rfl rfl (Nat.le_of_ble_eq_true rfl) tw_799 tw_800 tw_801 tw_96 cw_Ar_blame hy_Ar_blame (Nat.le_of_ble_eq_true rfl) (p_Ar_blame d a0 x3 h1) fun _ h2 => ?_
    refine gk_weak [0] (L' := [(2, va_rf x1)]) rfl ?_
    exact p_Ar_sound_b22 d x1 h2
  · refine gk_weak [0] (L' := [(2, va_rf x1)]) rfl ?_
    exact p_Ar_sound_b22 d x1 h1
theorem p_Ar_sound (d : Nat) (a0 : Option Nat) (a1 : Int32) (h : gk_H) : ∀ r h1, f_Ar_sound a0 a1 h = some (r, h1) → gk_M (d + 1) y_Ar_sound b_Ar_sound 3 (some (.object "ValueAlgebra$Value")) [va_rf a0, .int a1] h (.inl (gv_R r)) h1 :=
  fun r h1 e => gk_M_of2 (by decide +kernel) (by simp [lv_args, gk_cat_rf, gk_catI, gk_catJ, gk_catD, gv_V, gv_I, gv_J, gv_D, gv_R]) (by simp [lg_sl, gk_cat_rf, gk_catI, gk_catJ, gk_catD, gv_V, gv_I, gv_J, gv_D, gv_R]) (w_Ar_sound d a0 a1 h r h1 e)
theorem d_Le_behindSpaces_0 : decode b_Le_behindSpaces 0 = .ok (.iload_n 1, 1) := by decide +kernel
theorem d_Le_behindSpaces_1 : decode b_Le_behindSpaces 1 = .ok (.istore_n 2, 1) := by decide +kernel
theorem d_Le_behindSpaces_2 : decode b_Le_behindSpaces 2 = .ok (.iload_n 2, 1) := by decide +kernel
theorem d_Le_behindSpaces_3 : decode b_Le_behindSpaces 3 = .ok (.aload_n 0, 1) := by decide +kernel
theorem d_Le_behindSpaces_4 : decode b_Le_behindSpaces 4 = .ok (.invokevirtual 15, 3) := by decide +kernel
theorem d_Le_behindSpaces_7 : decode b_Le_behindSpaces 7 = .ok (.if_icmp .ge 19, 3) := by decide +kernel
theorem d_Le_behindSpaces_10 : decode b_Le_behindSpaces 10 = .ok (.aload_n 0, 1) := by decide +kernel
theorem d_Le_behindSpaces_11 : decode b_Le_behindSpaces 11 = .ok (.iload_n 2, 1) := by decide +kernel
theorem d_Le_behindSpaces_12 : decode b_Le_behindSpaces 12 = .ok (.invokevirtual 27, 3) := by decide +kernel
theorem d_Le_behindSpaces_15 : decode b_Le_behindSpaces 15 = .ok (.bipush 32, 2) := by decide +kernel
theorem d_Le_behindSpaces_17 : decode b_Le_behindSpaces 17 = .ok (.if_icmp .ne 9, 3) := by decide +kernel
theorem d_Le_behindSpaces_20 : decode b_Le_behindSpaces 20 = .ok (.iinc 2 1, 3) := by decide +kernel
theorem d_Le_behindSpaces_23 : decode b_Le_behindSpaces 23 = .ok (.goto (-21), 3) := by decide +kernel
theorem d_Le_behindSpaces_26 : decode b_Le_behindSpaces 26 = .ok (.iload_n 2, 1) := by decide +kernel
theorem d_Le_behindSpaces_27 : decode b_Le_behindSpaces 27 = .ok (.ireturn, 1) := by decide +kernel
theorem p_Le_behindSpaces_b26 (d : Nat)  (v2 : Int32) (h : gk_H) : gk_P gw_I (d + 4) y_Le_behindSpaces b_Le_behindSpaces 3 (some .int) [] (f_Le_behindSpaces_b26  v2 h) 26 [(2, .int v2)] [] h := by
  unfold f_Le_behindSpaces_b26
  refine gk_iload_n (pc := 26) 0 d_Le_behindSpaces_26 rfl ?_
  exact gk_iret (pc := 27) rfl d_Le_behindSpaces_27 rfl
theorem p_Le_behindSpaces_b2 (d : Nat)  : ∀ (fu : Nat) (v0 : Option Nat) (v2 : Int32) (h : gk_H), gk_P gw_I (d + 4) y_Le_behindSpaces b_Le_behindSpaces 3 (some .int) [] (f_Le_behindSpaces_b2  fu v0 v2 h) 2 [(0, va_rf v0), (2, .int v2)] [] h := by
  intro fu
  induction fu with
  | zero => intros; exact gk_none
  | succ fu q2 =>
    intro v0 v2 h
    rw [f_Le_behindSpaces_b2]
    refine gk_iload_n (pc := 2) 1 d_Le_behindSpaces_2 rfl ?_
    refine gk_aload_n (pc := 3) 0 d_Le_behindSpaces_3 rfl ?_
    refine gk_callV (pc := 4) (d := (d + 3)) (w' := gv_I) (as := []) (n := 0) 0 d_Le_behindSpaces_4 rfl rfl rfl rfl (Nat.le_of_ble_eq_true rfl) tw_809 tw_613 tw_614 tw_94 cw_St_length hy_St_length (Nat.le_of_ble_eq_true rfl) (p_St_length (d + 2) v0 h) fun x1 h1 => ?_
    refine gk_icmp_ge (pc := 7) 26 d_Le_behindSpaces_7 rfl (fun _ => ?_) (fun _ => ?_)
    · refine gk_weak [1] (L' := [(2, .int v2)]) rfl ?_
      exact p_Le_behindSpaces_b26 d v2 h1
    · refine gk_aload_n (pc := 10) 0 d_Le_behindSpaces_10 rfl ?_
      refine gk_iload_n (pc := 11) 1 d_Le_behindSpaces_11 rfl ?_
      refine gk_callV (pc := 12) (d := (d + 3)) (w' := gv_I) (as := [.int v2]) (n := 1) 0 d_Le_behindSpaces_12 rfl rfl rfl rfl (Nat.le_of_ble_eq_true rfl) tw_810 tw_811 tw_812 tw_94 cw_St_charAt hy_St_charAt (Nat.le_of_ble_eq_true rfl) (p_St_charAt d v0 v2 h1) fun x2 h2 => ?_
      refine gk_bipush (pc := 15) (32 : Int32) d_Le_behindSpaces_15 rfl ?_
      refine gk_icmp_ne (pc := 17) 26 d_Le_behindSpaces_17 rfl (fun _ => ?_) (fun _ => ?_)
      · refine gk_iincN (pc := 20) 1 (1 : Int32) (L' := fun x3 => [(2, .int x3), (0, va_rf v0)]) d_Le_behindSpaces_20 rfl rfl (Nat.le_of_ble_eq_true rfl) (fun _ => rfl) fun x3 => ?_
        refine gk_goto (pc := 23) 2 d_Le_behindSpaces_23 rfl ?_
        refine gk_weak [1, 0] (L' := [(0, va_rf v0), (2, .int x3)]) rfl ?_
        exact q2 v0 x3 h2
      · refine gk_weak [1] (L' := [(2, .int v2)]) rfl ?_
        exact p_Le_behindSpaces_b26 d v2 h2
theorem w_Le_behindSpaces (d : Nat) (a0 : Option Nat) (a1 : Int32) (h : gk_H) : gk_P gw_I (d + 4) y_Le_behindSpaces b_Le_behindSpaces 3 (some .int) [] (f_Le_behindSpaces a0 a1 h) 0 [(0, va_rf a0), (1, .int a1)] [] h := by
  unfold f_Le_behindSpaces
  refine gk_iload_n (pc := 0) 1 d_Le_behindSpaces_0 rfl ?_
  refine gk_istore_n (pc := 1) (L' := [(2, .int a1), (0, va_rf a0), (1, .int a1)]) d_Le_behindSpaces_1 (Nat.le_of_ble_eq_true rfl) rfl ?_
  refine gk_weak [1, 0] (L' := [(0, va_rf a0), (2, .int a1)]) rfl ?_
  exact p_Le_behindSpaces_b2 d gk_F a0 a1 h
theorem p_Le_behindSpaces (d : Nat) (a0 : Option Nat) (a1 : Int32) (h : gk_H) : ∀ r h1, f_Le_behindSpaces a0 a1 h = some (r, h1) → gk_M (d + 4) y_Le_behindSpaces b_Le_behindSpaces 3 (some .int) [va_rf a0, .int a1] h (.inl (gv_I r)) h1 :=
  fun r h1 e => gk_M_of2 (by decide +kernel) (by simp [lv_args, gk_cat_rf, gk_catI, gk_catJ, gk_catD, gv_V, gv_I, gv_J, gv_D, gv_R]) (by simp [lg_sl, gk_cat_rf, gk_catI, gk_catJ, gk_catD, gv_V, gv_I, gv_J, gv_D, gv_R]) (w_Le_behindSpaces d a0 a1 h r h1 e)
theorem d_Le_isOfDigits_0 : decode b_Le_isOfDigits 0 = .ok (.iload_n 0, 1) := by decide +kernel
theorem d_Le_isOfDigits_1 : decode b_Le_isOfDigits 1 = .ok (.bipush 46, 2) := by decide +kernel
theorem d_Le_isOfDigits_3 : decode b_Le_isOfDigits 3 = .ok (.if_icmp .eq 15, 3) := by decide +kernel
theorem d_Le_isOfDigits_6 : decode b_Le_isOfDigits 6 = .ok (.iload_n 0, 1) := by decide +kernel
theorem d_Le_isOfDigits_7 : decode b_Le_isOfDigits 7 = .ok (.bipush 48, 2) := by decide +kernel
theorem d_Le_isOfDigits_9 : decode b_Le_isOfDigits 9 = .ok (.if_icmp .lt 13, 3) := by decide +kernel
theorem d_Le_isOfDigits_12 : decode b_Le_isOfDigits 12 = .ok (.iload_n 0, 1) := by decide +kernel
theorem d_Le_isOfDigits_13 : decode b_Le_isOfDigits 13 = .ok (.bipush 57, 2) := by decide +kernel
theorem d_Le_isOfDigits_15 : decode b_Le_isOfDigits 15 = .ok (.if_icmp .gt 7, 3) := by decide +kernel
theorem d_Le_isOfDigits_18 : decode b_Le_isOfDigits 18 = .ok (.iconst 1, 1) := by decide +kernel
theorem d_Le_isOfDigits_19 : decode b_Le_isOfDigits 19 = .ok (.goto 4, 3) := by decide +kernel
theorem d_Le_isOfDigits_22 : decode b_Le_isOfDigits 22 = .ok (.iconst 0, 1) := by decide +kernel
theorem d_Le_isOfDigits_23 : decode b_Le_isOfDigits 23 = .ok (.ireturn, 1) := by decide +kernel
theorem p_Le_isOfDigits_b23 (d : Nat)  (s0 : Int32) (h : gk_H) : gk_P gw_I d y_Le_isOfDigits b_Le_isOfDigits 1 (some .boolean) [] (f_Le_isOfDigits_b23  s0 h) 23 [] [.int s0] h := by
  unfold f_Le_isOfDigits_b23
  exact gk_zret (pc := 23) rfl d_Le_isOfDigits_23 rfl
theorem p_Le_isOfDigits_b18 (d : Nat)   (h : gk_H) : gk_P gw_I d y_Le_isOfDigits b_Le_isOfDigits 1 (some .boolean) [] (f_Le_isOfDigits_b18   h) 18 [] [] h := by
  unfold f_Le_isOfDigits_b18
  refine gk_iconst (pc := 18) (1 : Int32) d_Le_isOfDigits_18 rfl ?_
  refine gk_goto (pc := 19) 23 d_Le_isOfDigits_19 rfl ?_
  exact p_Le_isOfDigits_b23 d (1 : Int32) h
theorem p_Le_isOfDigits_b22 (d : Nat)   (h : gk_H) : gk_P gw_I d y_Le_isOfDigits b_Le_isOfDigits 1 (some .boolean) [] (f_Le_isOfDigits_b22   h) 22 [] [] h := by
  unfold f_Le_isOfDigits_b22
  refine gk_iconst (pc := 22) (0 : Int32) d_Le_isOfDigits_22 rfl ?_
  exact p_Le_isOfDigits_b23 d (0 : Int32) h
theorem w_Le_isOfDigits (d : Nat) (a0 : Int32) (h : gk_H) : gk_P gw_I d y_Le_isOfDigits b_Le_isOfDigits 1 (some .boolean) [] (f_Le_isOfDigits a0 h) 0 [(0, .int a0)] [] h := by
  unfold f_Le_isOfDigits
  refine gk_iload_n (pc := 0) 0 d_Le_isOfDigits_0 rfl ?_
  refine gk_bipush (pc := 1) (46 : Int32) d_Le_isOfDigits_1 rfl ?_
  refine gk_icmp_eq (pc := 3) 18 d_Le_isOfDigits_3 rfl (fun _ => ?_) (fun _ => ?_)
  · refine gk_weak [] (L' := []) rfl ?_
    exact p_Le_isOfDigits_b18 d h
  · refine gk_iload_n (pc := 6) 0 d_Le_isOfDigits_6 rfl ?_
    refine gk_bipush (pc := 7) (48 : Int32) d_Le_isOfDigits_7 rfl ?_
    refine gk_icmp_lt (pc := 9) 22 d_Le_isOfDigits_9 rfl (fun _ => ?_) (fun _ => ?_)
    · refine gk_weak [] (L' := []) rfl ?_
      exact p_Le_isOfDigits_b22 d h
    · refine gk_iload_n (pc := 12) 0 d_Le_isOfDigits_12 rfl ?_
      refine gk_bipush (pc := 13) (57 : Int32) d_Le_isOfDigits_13 rfl ?_
      refine gk_icmp_gt (pc := 15) 22 d_Le_isOfDigits_15 rfl (fun _ => ?_) (fun _ => ?_)
      · refine gk_weak [] (L' := []) rfl ?_
        exact p_Le_isOfDigits_b22 d h
      · refine gk_weak [] (L' := []) rfl ?_
        exact p_Le_isOfDigits_b18 d h
theorem p_Le_isOfDigits (d : Nat) (a0 : Int32) (h : gk_H) : ∀ r h1, f_Le_isOfDigits a0 h = some (r, h1) → gk_M d y_Le_isOfDigits b_Le_isOfDigits 1 (some .boolean) [.int a0] h (.inl (gv_I r)) h1 :=
  fun r h1 e => gk_M_of2 (by decide +kernel) (by simp [lv_args, gk_cat_rf, gk_catI, gk_catJ, gk_catD, gv_V, gv_I, gv_J, gv_D, gv_R]) (by simp [lg_sl, gk_cat_rf, gk_catI, gk_catJ, gk_catD, gv_V, gv_I, gv_J, gv_D, gv_R]) (w_Le_isOfDigits d a0 h r h1 e)
theorem d_Le_isNumeral_0 : decode b_Le_isNumeral 0 = .ok (.aload_n 0, 1) := by decide +kernel
theorem d_Le_isNumeral_1 : decode b_Le_isNumeral 1 = .ok (.iconst 0, 1) := by decide +kernel
theorem d_Le_isNumeral_2 : decode b_Le_isNumeral 2 = .ok (.invokestatic 31, 3) := by decide +kernel
theorem d_Le_isNumeral_5 : decode b_Le_isNumeral 5 = .ok (.istore_n 1, 1) := by decide +kernel
theorem d_Le_isNumeral_6 : decode b_Le_isNumeral 6 = .ok (.iload_n 1, 1) := by decide +kernel
theorem d_Le_isNumeral_7 : decode b_Le_isNumeral 7 = .ok (.aload_n 0, 1) := by decide +kernel
theorem d_Le_isNumeral_8 : decode b_Le_isNumeral 8 = .ok (.invokevirtual 15, 3) := by decide +kernel
theorem d_Le_isNumeral_11 : decode b_Le_isNumeral 11 = .ok (.if_icmp .ge 16, 3) := by decide +kernel
theorem d_Le_isNumeral_14 : decode b_Le_isNumeral 14 = .ok (.aload_n 0, 1) := by decide +kernel
theorem d_Le_isNumeral_15 : decode b_Le_isNumeral 15 = .ok (.iload_n 1, 1) := by decide +kernel
theorem d_Le_isNumeral_16 : decode b_Le_isNumeral 16 = .ok (.invokevirtual 27, 3) := by decide +kernel
theorem d_Le_isNumeral_19 : decode b_Le_isNumeral 19 = .ok (.bipush 45, 2) := by decide +kernel
theorem d_Le_isNumeral_21 : decode b_Le_isNumeral 21 = .ok (.if_icmp .ne 6, 3) := by decide +kernel
theorem d_Le_isNumeral_24 : decode b_Le_isNumeral 24 = .ok (.iinc 1 1, 3) := by decide +kernel
theorem d_Le_isNumeral_27 : decode b_Le_isNumeral 27 = .ok (.iconst 0, 1) := by decide +kernel
theorem d_Le_isNumeral_28 : decode b_Le_isNumeral 28 = .ok (.istore_n 2, 1) := by decide +kernel
theorem d_Le_isNumeral_29 : decode b_Le_isNumeral 29 = .ok (.iconst 0, 1) := by decide +kernel
theorem d_Le_isNumeral_30 : decode b_Le_isNumeral 30 = .ok (.istore_n 3, 1) := by decide +kernel
theorem d_Le_isNumeral_31 : decode b_Le_isNumeral 31 = .ok (.iload_n 1, 1) := by decide +kernel
theorem d_Le_isNumeral_32 : decode b_Le_isNumeral 32 = .ok (.aload_n 0, 1) := by decide +kernel
theorem d_Le_isNumeral_33 : decode b_Le_isNumeral 33 = .ok (.invokevirtual 15, 3) := by decide +kernel
theorem d_Le_isNumeral_36 : decode b_Le_isNumeral 36 = .ok (.if_icmp .ge 39, 3) := by decide +kernel
theorem d_Le_isNumeral_39 : decode b_Le_isNumeral 39 = .ok (.aload_n 0, 1) := by decide +kernel
theorem d_Le_isNumeral_40 : decode b_Le_isNumeral 40 = .ok (.iload_n 1, 1) := by decide +kernel
theorem d_Le_isNumeral_41 : decode b_Le_isNumeral 41 = .ok (.invokevirtual 27, 3) := by decide +kernel
theorem d_Le_isNumeral_44 : decode b_Le_isNumeral 44 = .ok (.invokestatic 35, 3) := by decide +kernel
theorem d_Le_isNumeral_47 : decode b_Le_isNumeral 47 = .ok (.ifCond .eq 28, 3) := by decide +kernel
theorem d_Le_isNumeral_50 : decode b_Le_isNumeral 50 = .ok (.aload_n 0, 1) := by decide +kernel
theorem d_Le_isNumeral_51 : decode b_Le_isNumeral 51 = .ok (.iload_n 1, 1) := by decide +kernel
theorem d_Le_isNumeral_52 : decode b_Le_isNumeral 52 = .ok (.invokevirtual 27, 3) := by decide +kernel
theorem d_Le_isNumeral_55 : decode b_Le_isNumeral 55 = .ok (.bipush 46, 2) := by decide +kernel
theorem d_Le_isNumeral_57 : decode b_Le_isNumeral 57 = .ok (.if_icmp .ne 9, 3) := by decide +kernel
theorem d_Le_isNumeral_60 : decode b_Le_isNumeral 60 = .ok (.iinc 3 1, 3) := by decide +kernel
theorem d_Le_isNumeral_63 : decode b_Le_isNumeral 63 = .ok (.goto 6, 3) := by decide +kernel
theorem d_Le_isNumeral_66 : decode b_Le_isNumeral 66 = .ok (.iinc 2 1, 3) := by decide +kernel
theorem d_Le_isNumeral_69 : decode b_Le_isNumeral 69 = .ok (.iinc 1 1, 3) := by decide +kernel
theorem d_Le_isNumeral_72 : decode b_Le_isNumeral 72 = .ok (.goto (-41), 3) := by decide +kernel
theorem d_Le_isNumeral_75 : decode b_Le_isNumeral 75 = .ok (.iload_n 1, 1) := by decide +kernel
theorem d_Le_isNumeral_76 : decode b_Le_isNumeral 76 = .ok (.aload_n 0, 1) := by decide +kernel
theorem d_Le_isNumeral_77 : decode b_Le_isNumeral 77 = .ok (.invokevirtual 15, 3) := by decide +kernel
theorem d_Le_isNumeral_80 : decode b_Le_isNumeral 80 = .ok (.if_icmp .ge 16, 3) := by decide +kernel
theorem d_Le_isNumeral_83 : decode b_Le_isNumeral 83 = .ok (.aload_n 0, 1) := by decide +kernel
theorem d_Le_isNumeral_84 : decode b_Le_isNumeral 84 = .ok (.iload_n 1, 1) := by decide +kernel
theorem d_Le_isNumeral_85 : decode b_Le_isNumeral 85 = .ok (.invokevirtual 27, 3) := by decide +kernel
theorem d_Le_isNumeral_88 : decode b_Le_isNumeral 88 = .ok (.bipush 37, 2) := by decide +kernel
theorem d_Le_isNumeral_90 : decode b_Le_isNumeral 90 = .ok (.if_icmp .ne 6, 3) := by decide +kernel
theorem d_Le_isNumeral_93 : decode b_Le_isNumeral 93 = .ok (.iinc 1 1, 3) := by decide +kernel
theorem d_Le_isNumeral_96 : decode b_Le_isNumeral 96 = .ok (.iload_n 2, 1) := by decide +kernel
theorem d_Le_isNumeral_97 : decode b_Le_isNumeral 97 = .ok (.iconst 1, 1) := by decide +kernel
theorem d_Le_isNumeral_98 : decode b_Le_isNumeral 98 = .ok (.if_icmp .lt 30, 3) := by decide +kernel
theorem d_Le_isNumeral_101 : decode b_Le_isNumeral 101 = .ok (.iload_n 2, 1) := by decide +kernel
theorem d_Le_isNumeral_102 : decode b_Le_isNumeral 102 = .ok (.bipush 15, 2) := by decide +kernel
theorem d_Le_isNumeral_104 : decode b_Le_isNumeral 104 = .ok (.if_icmp .gt 24, 3) := by decide +kernel
theorem d_Le_isNumeral_107 : decode b_Le_isNumeral 107 = .ok (.iload_n 3, 1) := by decide +kernel
theorem d_Le_isNumeral_108 : decode b_Le_isNumeral 108 = .ok (.iconst 1, 1) := by decide +kernel
theorem d_Le_isNumeral_109 : decode b_Le_isNumeral 109 = .ok (.if_icmp .gt 19, 3) := by decide +kernel
theorem d_Le_isNumeral_112 : decode b_Le_isNumeral 112 = .ok (.aload_n 0, 1) := by decide +kernel
theorem d_Le_isNumeral_113 : decode b_Le_isNumeral 113 = .ok (.iload_n 1, 1) := by decide +kernel
theorem d_Le_isNumeral_114 : decode b_Le_isNumeral 114 = .ok (.invokestatic 31, 3) := by decide +kernel
theorem d_Le_isNumeral_117 : decode b_Le_isNumeral 117 = .ok (.aload_n 0, 1) := by decide +kernel
theorem d_Le_isNumeral_118 : decode b_Le_isNumeral 118 = .ok (.invokevirtual 15, 3) := by decide +kernel
theorem d_Le_isNumeral_121 : decode b_Le_isNumeral 121 = .ok (.if_icmp .ne 7, 3) := by decide +kernel
theorem d_Le_isNumeral_124 : decode b_Le_isNumeral 124 = .ok (.iconst 1, 1) := by decide +kernel
theorem d_Le_isNumeral_125 : decode b_Le_isNumeral 125 = .ok (.goto 4, 3) := by decide +kernel
theorem d_Le_isNumeral_128 : decode b_Le_isNumeral 128 = .ok (.iconst 0, 1) := by decide +kernel
theorem d_Le_isNumeral_129 : decode b_Le_isNumeral 129 = .ok (.ireturn, 1) := by decide +kernel
theorem p_Le_isNumeral_b129 (d : Nat)  (s0 : Int32) (h : gk_H) : gk_P gw_I (d + 5) y_Le_isNumeral b_Le_isNumeral 4 (some .boolean) [] (f_Le_isNumeral_b129  s0 h) 129 [] [.int s0] h := by
  unfold f_Le_isNumeral_b129
  exact gk_zret (pc := 129) rfl d_Le_isNumeral_129 rfl
theorem p_Le_isNumeral_b128 (d : Nat)   (h : gk_H) : gk_P gw_I (d + 5) y_Le_isNumeral b_Le_isNumeral 4 (some .boolean) [] (f_Le_isNumeral_b128   h) 128 [] [] h := by
  unfold f_Le_isNumeral_b128
  refine gk_iconst (pc := 128) (0 : Int32) d_Le_isNumeral_128 rfl ?_
  exact p_Le_isNumeral_b129 d (0 : Int32) h
theorem p_Le_isNumeral_b96 (d : Nat)  (v0 : Option Nat) (v1 : Int32) (v2 : Int32) (v3 : Int32) (h : gk_H) : gk_P gw_I (d + 5) y_Le_isNumeral b_Le_isNumeral 4 (some .boolean) [] (f_Le_isNumeral_b96  v0 v1 v2 v3 h) 96 [(0, va_rf v0), (1, .int v1), (2, .int v2), (3, .int v3)] [] h := by
  unfold f_Le_isNumeral_b96
  refine gk_iload_n (pc := 96) 2 d_Le_isNumeral_96 rfl ?_
  refine gk_iconst (pc := 97) (1 : Int32) d_Le_isNumeral_97 rfl ?_
  refine gk_icmp_lt (pc := 98) 128 d_Le_isNumeral_98 rfl (fun _ => ?_) (fun _ => ?_)
  · refine gk_weak [] (L' := []) rfl ?_
    exact p_Le_isNumeral_b128 d h
  · refine gk_iload_n (pc := 101) 2 d_Le_isNumeral_101 rfl ?_
    refine gk_bipush (pc := 102) (15 : Int32) d_Le_isNumeral_102 rfl ?_
    refine gk_icmp_gt (pc := 104) 128 d_Le_isNumeral_104 rfl (fun _ => ?_) (fun _ => ?_)
    · refine gk_weak [] (L' := []) rfl ?_
      exact p_Le_isNumeral_b128 d h
    · refine gk_iload_n (pc := 107) 3 d_Le_isNumeral_107 rfl ?_
      refine gk_iconst (pc := 108) (1 : Int32) d_Le_isNumeral_108 rfl ?_
      refine gk_icmp_gt (pc := 109) 128 d_Le_isNumeral_109 rfl (fun _ => ?_) (fun _ => ?_)
      · refine gk_weak [] (L' := []) rfl ?_
        exact p_Le_isNumeral_b128 d h
      · refine gk_aload_n (pc := 112) 0 d_Le_isNumeral_112 rfl ?_
        refine gk_iload_n (pc := 113) 1 d_Le_isNumeral_113 rfl ?_
        refine gk_callS (pc := 114) (d := (d + 4)) (w' := gv_I) (as := [va_rf v0, .int v1]) (n := 2) d_Le_isNumeral_114 rfl rfl (Nat.le_of_ble_eq_true rfl) tw_806 tw_807 tw_116 cw_Le_behindSpaces hy_Le_behindSpaces (Nat.le_of_ble_eq_true rfl) (p_Le_behindSpaces d v0 v1 h) fun x1 h1 => ?_
        refine gk_aload_n (pc := 117) 0 d_Le_isNumeral_117 rfl ?_
        refine gk_callV (pc := 118) (d := (d + 4)) (w' := gv_I) (as := []) (n := 0) 0 d_Le_isNumeral_118 rfl rfl rfl rfl (Nat.le_of_ble_eq_true rfl) tw_809 tw_613 tw_614 tw_94 cw_St_length hy_St_length (Nat.le_of_ble_eq_true rfl) (p_St_length (d + 3) v0 h1) fun x2 h2 => ?_
        refine gk_icmp_ne (pc := 121) 128 d_Le_isNumeral_121 rfl (fun _ => ?_) (fun _ => ?_)
        · refine gk_iconst (pc := 124) (1 : Int32) d_Le_isNumeral_124 rfl ?_
          refine gk_goto (pc := 125) 129 d_Le_isNumeral_125 rfl ?_
          refine gk_weak [] (L' := []) rfl ?_
          exact p_Le_isNumeral_b129 d (1 : Int32) h2
        · refine gk_weak [] (L' := []) rfl ?_
          exact p_Le_isNumeral_b128 d h2
theorem p_Le_isNumeral_b75 (d : Nat)  (v0 : Option Nat) (v1 : Int32) (v2 : Int32) (v3 : Int32) (h : gk_H) : gk_P gw_I (d + 5) y_Le_isNumeral b_Le_isNumeral 4 (some .boolean) [] (f_Le_isNumeral_b75  v0 v1 v2 v3 h) 75 [(0, va_rf v0), (1, .int v1), (2, .int v2), (3, .int v3)] [] h := by
  unfold f_Le_isNumeral_b75
  refine gk_iload_n (pc := 75) 1 d_Le_isNumeral_75 rfl ?_
  refine gk_aload_n (pc := 76) 0 d_Le_isNumeral_76 rfl ?_
  refine gk_callV (pc := 77) (d := (d + 4)) (w' := gv_I) (as := []) (n := 0) 0 d_Le_isNumeral_77 rfl rfl rfl rfl (Nat.le_of_ble_eq_true rfl) tw_809 tw_613 tw_614 tw_94 cw_St_length hy_St_length (Nat.le_of_ble_eq_true rfl) (p_St_length (d + 3) v0 h) fun x1 h1 => ?_
  refine gk_icmp_ge (pc := 80) 96 d_Le_isNumeral_80 rfl (fun _ => ?_) (fun _ => ?_)
  · exact p_Le_isNumeral_b96 d v0 v1 v2 v3 h1
  · refine gk_aload_n (pc := 83) 0 d_Le_isNumeral_83 rfl ?_
    refine gk_iload_n (pc := 84) 1 d_Le_isNumeral_84 rfl ?_
    refine gk_callV (pc := 85) (d := (d + 4)) (w' := gv_I) (as := [.int v1]) (n := 1) 0 d_Le_isNumeral_85 rfl rfl rfl rfl (Nat.le_of_ble_eq_true rfl) tw_810 tw_811 tw_812 tw_94 cw_St_charAt hy_St_charAt (Nat.le_of_ble_eq_true rfl) (p_St_charAt (d + 1) v0 v1 h1) fun x2 h2 => ?_
    refine gk_bipush (pc := 88) (37 : Int32) d_Le_isNumeral_88 rfl ?_
    refine gk_icmp_ne (pc := 90) 96 d_Le_isNumeral_90 rfl (fun _ => ?_) (fun _ => ?_)
    · refine gk_iincN (pc := 93) 1 (1 : Int32) (L' := fun x3 => [(1, .int x3), (0, va_rf v0), (2, .int v2), (3, .int v3)]) d_Le_isNumeral_93 rfl rfl (Nat.le_of_ble_eq_true rfl) (fun _ => by simp [gk_s1, gk_cat_rf, gk_catI, gk_catJ, gk_catD] <;> decide) fun x3 => ?_
      refine gk_weak [1, 0, 2, 3] (L' := [(0, va_rf v0), (1, .int x3), (2, .int v2), (3, .int v3)]) rfl ?_
      exact p_Le_isNumeral_b96 d v0 x3 v2 v3 h2
    · exact p_Le_isNumeral_b96 d v0 v1 v2 v3 h2
theorem p_Le_isNumeral_b69 (d : Nat) (b31 : Option Nat → Int32 → Int32 → Int32 → gk_H → Option (Int32 × gk_H)) (q31 : ∀ (v0 : Option Nat) (v1 : Int32) (v2 : Int32) (v3 : Int32) (h : gk_H), gk_P gw_I (d + 5) y_Le_isNumeral b_Le_isNumeral 4 (some .boolean) [] (b31 v0 v1 v2 v3 h) 31 [(0, va_rf v0), (1, .int v1), (2, .int v2), (3, .int v3)] [] h) (v0 : Option Nat) (v1 : Int32) (v2 : Int32) (v3 : Int32) (h : gk_H) : gk_P gw_I (d + 5) y_Le_isNumeral b_Le_isNumeral 4 (some .boolean) [] (f_Le_isNumeral_b69 b31 v0 v1 v2 v3 h) 69 [(0, va_rf v0), (1, .int v1), (2, .int v2), (3, .int v3)] [] h := by
  unfold f_Le_isNumeral_b69
  refine gk_iincN (pc := 69) 1 (1 : Int32) (L' := fun x1 => [(1, .int x1), (0, va_rf v0), (2, .int v2), (3, .int v3)]) d_Le_isNumeral_69 rfl rfl (Nat.le_of_ble_eq_true rfl) (fun _ => by simp [gk_s1, gk_cat_rf, gk_catI, gk_catJ, gk_catD] <;> decide) fun x1 => ?_
  refine gk_goto (pc := 72) 31 d_Le_isNumeral_72 rfl ?_
  refine gk_weak [1, 0, 2, 3] (L' := [(0, va_rf v0), (1, .int x1), (2, .int v2), (3, .int v3)]) rfl ?_
  exact q31 v0 x1 v2 v3 h
theorem p_Le_isNumeral_b31 (d : Nat)  : ∀ (fu : Nat) (v0 : Option Nat) (v1 : Int32) (v2 : Int32) (v3 : Int32) (h : gk_H), gk_P gw_I (d + 5) y_Le_isNumeral b_Le_isNumeral 4 (some .boolean) [] (f_Le_isNumeral_b31  fu v0 v1 v2 v3 h) 31 [(0, va_rf v0), (1, .int v1), (2, .int v2), (3, .int v3)] [] h := by
  intro fu
  induction fu with
  | zero => intros; exact gk_none
  | succ fu q31 =>
    intro v0 v1 v2 v3 h
    rw [f_Le_isNumeral_b31]
    refine gk_iload_n (pc := 31) 1 d_Le_isNumeral_31 rfl ?_
    refine gk_aload_n (pc := 32) 0 d_Le_isNumeral_32 rfl ?_
    refine gk_callV (pc := 33) (d := (d + 4)) (w' := gv_I) (as := []) (n := 0) 0 d_Le_isNumeral_33 rfl rfl rfl rfl (Nat.le_of_ble_eq_true rfl) tw_809 tw_613 tw_614 tw_94 cw_St_length hy_St_length (Nat.le_of_ble_eq_true rfl) (p_St_length (d + 3) v0 h) fun x1 h1 => ?_
    refine gk_icmp_ge (pc := 36) 75 d_Le_isNumeral_36 rfl (fun _ => ?_) (fun _ => ?_)
    · exact p_Le_isNumeral_b75 d v0 v1 v2 v3 h1
    · refine gk_aload_n (pc := 39) 0 d_Le_isNumeral_39 rfl ?_
      refine gk_iload_n (pc := 40) 1 d_Le_isNumeral_40 rfl ?_
      refine gk_callV (pc := 41) (d := (d + 4)) (w' := gv_I) (as := [.int v1]) (n := 1) 0 d_Le_isNumeral_41 rfl rfl rfl rfl (Nat.le_of_ble_eq_true rfl) tw_810 tw_811 tw_812 tw_94 cw_St_charAt hy_St_charAt (Nat.le_of_ble_eq_true rfl) (p_St_charAt (d + 1) v0 v1 h1) fun x2 h2 => ?_
      refine gk_callS (pc := 44) (d := (d + 4)) (w' := gv_I) (as := [.int x2]) (n := 1) d_Le_isNumeral_44 rfl rfl (Nat.le_of_ble_eq_true rfl) tw_825 tw_826 tw_116 cw_Le_isOfDigits hy_Le_isOfDigits (Nat.le_of_ble_eq_true rfl) (p_Le_isOfDigits (d + 4) x2 h2) fun x3 h3 => ?_
      refine gk_if_eq (pc := 47) 75 d_Le_isNumeral_47 rfl (fun _ => ?_) (fun _ => ?_)
      · exact p_Le_isNumeral_b75 d v0 v1 v2 v3 h3
      · refine gk_aload_n (pc := 50) 0 d_Le_isNumeral_50 rfl ?_
        refine gk_iload_n (pc := 51) 1 d_Le_isNumeral_51 rfl ?_
        refine gk_callV (pc := 52) (d := (d + 4)) (w' := gv_I) (as := [.int v1]) (n := 1) 0 d_Le_isNumeral_52 rfl rfl rfl rfl (Nat.le_of_ble_eq_true rfl) tw_810 tw_811 tw_812 tw_94 cw_St_charAt hy_St_charAt (Nat.le_of_ble_eq_true rfl) (p_St_charAt (d + 1) v0 v1 h3) fun x4 h4 => ?_
        refine gk_bipush (pc := 55) (46 : Int32) d_Le_isNumeral_55 rfl ?_
        refine gk_icmp_ne (pc := 57) 66 d_Le_isNumeral_57 rfl (fun _ => ?_) (fun _ => ?_)
        · refine gk_iincN (pc := 60) 3 (1 : Int32) (L' := fun x5 => [(3, .int x5), (0, va_rf v0), (1, .int v1), (2, .int v2)]) d_Le_isNumeral_60 rfl rfl (Nat.le_of_ble_eq_true rfl) (fun _ => rfl) fun x5 => ?_
          refine gk_goto (pc := 63) 69 d_Le_isNumeral_63 rfl ?_
          refine gk_weak [1, 2, 3, 0] (L' := [(0, va_rf v0), (1, .int v1), (2, .int v2), (3, .int x5)]) rfl ?_
          exact p_Le_isNumeral_b69 d (f_Le_isNumeral_b31 fu) q31 v0 v1 v2 x5 h4
        · refine gk_iincN (pc := 66) 2 (1 : Int32) (L' := fun x6 => [(2, .int x6), (0, va_rf v0), (1, .int v1), (3, .int v3)]) d_Le_isNumeral_66 rfl rfl (Nat.le_of_ble_eq_true rfl) (fun _ => rfl) fun x6 => ?_
          refine gk_weak [1, 2, 0, 3] (L' := [(0, va_rf v0), (1, .int v1), (2, .int x6), (3, .int v3)]) rfl ?_
          exact p_Le_isNumeral_b69 d (f_Le_isNumeral_b31 fu) q31 v0 v1 x6 v3 h4
theorem p_Le_isNumeral_b27 (d : Nat)  (v0 : Option Nat) (v1 : Int32) (h : gk_H) : gk_P gw_I (d + 5) y_Le_isNumeral b_Le_isNumeral 4 (some .boolean) [] (f_Le_isNumeral_b27  v0 v1 h) 27 [(0, va_rf v0), (1, .int v1)] [] h := by
  unfold f_Le_isNumeral_b27
  refine gk_iconst (pc := 27) (0 : Int32) d_Le_isNumeral_27 rfl ?_
  refine gk_istore_n (pc := 28) (L' := [(2, .int (0 : Int32)), (0, va_rf v0), (1, .int v1)]) d_Le_isNumeral_28 (Nat.le_of_ble_eq_true rfl) rfl ?_
  refine gk_iconst (pc := 29) (0 : Int32) d_Le_isNumeral_29 rfl ?_
  refine gk_istore_n (pc := 30) (L' := [(3, .int (0 : Int32)), (2, .int (0 : Int32)), (0, va_rf v0), (1, .int v1)]) d_Le_isNumeral_30 (Nat.le_of_ble_eq_true rfl) rfl ?_
  refine gk_weak [2, 3, 1, 0] (L' := [(0, va_rf v0), (1, .int v1), (2, .int (0 : Int32)), (3, .int (0 : Int32))]) rfl ?_
  exact p_Le_isNumeral_b31 d gk_F v0 v1 (0 : Int32) (0 : Int32) h
theorem w_Le_isNumeral (d : Nat) (a0 : Option Nat) (h : gk_H) : gk_P gw_I (d + 5) y_Le_isNumeral b_Le_isNumeral 4 (some .boolean) [] (f_Le_isNumeral a0 h) 0 [(0, va_rf a0)] [] h := by
  unfold f_Le_isNumeral
  refine gk_aload_n (pc := 0) 0 d_Le_isNumeral_0 rfl ?_
  refine gk_iconst (pc := 1) (0 : Int32) d_Le_isNumeral_1 rfl ?_
  refine gk_callS (pc := 2) (d := (d + 4)) (w' := gv_I) (as := [va_rf a0, .int (0 : Int32)]) (n := 2) d_Le_isNumeral_2 rfl rfl (Nat.le_of_ble_eq_true rfl) tw_806 tw_807 tw_116 cw_Le_behindSpaces hy_Le_behindSpaces (Nat.le_of_ble_eq_true rfl) (p_Le_behindSpaces d a0 (0 : Int32) h) fun x1 h1 => ?_
  refine gk_istore_n (pc := 5) (L' := [(1, .int x1), (0, va_rf a0)]) d_Le_isNumeral_5 (Nat.le_of_ble_eq_true rfl) (by simp [gk_s1, gk_s2, gk_cat_rf, gk_catI, gk_catJ, gk_catD] <;> decide) ?_
  refine gk_iload_n (pc := 6) 0 d_Le_isNumeral_6 rfl ?_
  refine gk_aload_n (pc := 7) 1 d_Le_isNumeral_7 rfl ?_
  refine gk_callV (pc := 8) (d := (d + 4)) (w' := gv_I) (as := []) (n := 0) 0 d_Le_isNumeral_8 rfl rfl rfl rfl (Nat.le_of_ble_eq_true rfl) tw_809 tw_613 tw_614 tw_94 cw_St_length hy_St_length (Nat.le_of_ble_eq_true rfl) (p_St_length (d + 3) a0 h1) fun x2 h2 => ?_
  refine gk_icmp_ge (pc := 11) 27 d_Le_isNumeral_11 rfl (fun _ => ?_) (fun _ => ?_)
  · refine gk_weak [1, 0] (L' := [(0, va_rf a0), (1, .int x1)]) rfl ?_
    exact p_Le_isNumeral_b27 d a0 x1 h2
  · refine gk_aload_n (pc := 14) 1 d_Le_isNumeral_14 rfl ?_
    refine gk_iload_n (pc := 15) 0 d_Le_isNumeral_15 rfl ?_
    refine gk_callV (pc := 16) (d := (d + 4)) (w' := gv_I) (as := [.int x1]) (n := 1) 0 d_Le_isNumeral_16 rfl rfl rfl rfl (Nat.le_of_ble_eq_true rfl) tw_810 tw_811 tw_812 tw_94 cw_St_charAt hy_St_charAt (Nat.le_of_ble_eq_true rfl) (p_St_charAt (d + 1) a0 x1 h2) fun x3 h3 => ?_
    refine gk_bipush (pc := 19) (45 : Int32) d_Le_isNumeral_19 rfl ?_
    refine gk_icmp_ne (pc := 21) 27 d_Le_isNumeral_21 rfl (fun _ => ?_) (fun _ => ?_)
    · refine gk_iincN (pc := 24) 0 (1 : Int32) (L' := fun x4 => [(1, .int x4), (0, va_rf a0)]) d_Le_isNumeral_24 rfl rfl (Nat.le_of_ble_eq_true rfl) (fun _ => by simp [gk_s1, gk_cat_rf, gk_catI, gk_catJ, gk_catD] <;> decide) fun x4 => ?_
      refine gk_weak [1, 0] (L' := [(0, va_rf a0), (1, .int x4)]) rfl ?_
      exact p_Le_isNumeral_b27 d a0 x4 h3
    · refine gk_weak [1, 0] (L' := [(0, va_rf a0), (1, .int x1)]) rfl ?_
      exact p_Le_isNumeral_b27 d a0 x1 h3
theorem p_Le_isNumeral (d : Nat) (a0 : Option Nat) (h : gk_H) : ∀ r h1, f_Le_isNumeral a0 h = some (r, h1) → gk_M (d + 5) y_Le_isNumeral b_Le_isNumeral 4 (some .boolean) [va_rf a0] h (.inl (gv_I r)) h1 :=
  fun r h1 e => gk_M_of2 (by decide +kernel) (by simp [lv_args, gk_cat_rf, gk_catI, gk_catJ, gk_catD, gv_V, gv_I, gv_J, gv_D, gv_R]) (by simp [lg_sl, gk_cat_rf, gk_catI, gk_catJ, gk_catD, gv_V, gv_I, gv_J, gv_D, gv_R]) (w_Le_isNumeral d a0 h r h1 e)
theorem d_Am_tenTo_0 : decode b_Am_tenTo 0 = .ok (.dconst 1, 1) := by decide +kernel
theorem d_Am_tenTo_1 : decode b_Am_tenTo 1 = .ok (.dstore_n 2, 1) := by decide +kernel
theorem d_Am_tenTo_2 : decode b_Am_tenTo 2 = .ok (.iconst 0, 1) := by decide +kernel
theorem d_Am_tenTo_3 : decode b_Am_tenTo 3 = .ok (.istore 4, 2) := by decide +kernel
theorem d_Am_tenTo_5 : decode b_Am_tenTo 5 = .ok (.iload 4, 2) := by decide +kernel
theorem d_Am_tenTo_7 : decode b_Am_tenTo 7 = .ok (.i2l, 1) := by decide +kernel
theorem d_Am_tenTo_8 : decode b_Am_tenTo 8 = .ok (.lload_n 0, 1) := by decide +kernel
theorem d_Am_tenTo_9 : decode b_Am_tenTo 9 = .ok (.lcmp, 1) := by decide +kernel
theorem d_Am_tenTo_10 : decode b_Am_tenTo 10 = .ok (.ifCond .ge 22, 3) := by decide +kernel
theorem d_Am_tenTo_13 : decode b_Am_tenTo 13 = .ok (.iload 4, 2) := by decide +kernel
theorem d_Am_tenTo_15 : decode b_Am_tenTo 15 = .ok (.bipush 22, 2) := by decide +kernel
theorem d_Am_tenTo_17 : decode b_Am_tenTo 17 = .ok (.if_icmp .ge 15, 3) := by decide +kernel
theorem d_Am_tenTo_20 : decode b_Am_tenTo 20 = .ok (.dload_n 2, 1) := by decide +kernel
theorem d_Am_tenTo_21 : decode b_Am_tenTo 21 = .ok (.ldc2_w 95, 3) := by decide +kernel
theorem d_Am_tenTo_24 : decode b_Am_tenTo 24 = .ok (.dmul, 1) := by decide +kernel
theorem d_Am_tenTo_25 : decode b_Am_tenTo 25 = .ok (.dstore_n 2, 1) := by decide +kernel
theorem d_Am_tenTo_26 : decode b_Am_tenTo 26 = .ok (.iinc 4 1, 3) := by decide +kernel
theorem d_Am_tenTo_29 : decode b_Am_tenTo 29 = .ok (.goto (-24), 3) := by decide +kernel
theorem d_Am_tenTo_32 : decode b_Am_tenTo 32 = .ok (.dload_n 2, 1) := by decide +kernel
theorem d_Am_tenTo_33 : decode b_Am_tenTo 33 = .ok (.dreturn, 1) := by decide +kernel
theorem p_Am_tenTo_b32 (d : Nat)  (v2 : UInt64) (h : gk_H) : gk_P gw_D d y_Am_tenTo b_Am_tenTo 5 (some .double) [] (f_Am_tenTo_b32  v2 h) 32 [(2, .double v2)] [] h := by
  unfold f_Am_tenTo_b32
  refine gk_dload_n (pc := 32) 0 d_Am_tenTo_32 rfl ?_
  exact gk_dret (pc := 33) rfl d_Am_tenTo_33 rfl
theorem p_Am_tenTo_b5 (d : Nat)  : ∀ (fu : Nat) (v0 : Int64) (v2 : UInt64) (v4 : Int32) (h : gk_H), gk_P gw_D d y_Am_tenTo b_Am_tenTo 5 (some .double) [] (f_Am_tenTo_b5  fu v0 v2 v4 h) 5 [(0, .long v0), (2, .double v2), (4, .int v4)] [] h := by
  intro fu
  induction fu with
  | zero => intros; exact gk_none
  | succ fu q5 =>
    intro v0 v2 v4 h
    rw [f_Am_tenTo_b5]
    refine gk_iload (pc := 5) 2 d_Am_tenTo_5 rfl ?_
    refine gk_i2l (pc := 7) d_Am_tenTo_7 ?_
    refine gk_lload_n (pc := 8) 0 d_Am_tenTo_8 rfl ?_
    refine gk_lcmp (pc := 9) d_Am_tenTo_9 ?_
    refine gk_if_ge (pc := 10) 32 d_Am_tenTo_10 rfl (fun _ => ?_) (fun _ => ?_)
    · refine gk_weak [1] (L' := [(2, .double v2)]) rfl ?_
      exact p_Am_tenTo_b32 d v2 h
    · refine gk_iload (pc := 13) 2 d_Am_tenTo_13 rfl ?_
      refine gk_bipush (pc := 15) (22 : Int32) d_Am_tenTo_15 rfl ?_
      refine gk_icmp_ge (pc := 17) 32 d_Am_tenTo_17 rfl (fun _ => ?_) (fun _ => ?_)
      · refine gk_weak [1] (L' := [(2, .double v2)]) rfl ?_
        exact p_Am_tenTo_b32 d v2 h
      · refine gk_dload_n (pc := 20) 1 d_Am_tenTo_20 rfl ?_
        refine gk_ldc2d (pc := 21) tw_835 d_Am_tenTo_21 ?_
        refine gk_dmulN (pc := 24) d_Am_tenTo_24 fun x1 => ?_
        refine gk_dstore_n (pc := 25) (L' := [(2, .double x1), (0, .long v0), (4, .int v4)]) d_Am_tenTo_25 (Nat.le_of_ble_eq_true rfl) rfl ?_
        refine gk_iincN (pc := 26) 2 (1 : Int32) (L' := fun x2 => [(4, .int x2), (2, .double x1), (0, .long v0)]) d_Am_tenTo_26 rfl rfl (Nat.le_of_ble_eq_true rfl) (fun _ => rfl) fun x2 => ?_
        refine gk_goto (pc := 29) 5 d_Am_tenTo_29 rfl ?_
        refine gk_weak [2, 1, 0] (L' := [(0, .long v0), (2, .double x1), (4, .int x2)]) rfl ?_
        exact q5 v0 x1 x2 h
theorem w_Am_tenTo (d : Nat) (a0 : Int64) (h : gk_H) : gk_P gw_D d y_Am_tenTo b_Am_tenTo 5 (some .double) [] (f_Am_tenTo a0 h) 0 [(0, .long a0)] [] h := by
  unfold f_Am_tenTo
  refine gk_dconst1 (pc := 0) d_Am_tenTo_0 ?_
  refine gk_dstore_n (pc := 1) (L' := [(2, .double (0x3ff0000000000000)), (0, .long a0)]) d_Am_tenTo_1 (Nat.le_of_ble_eq_true rfl) rfl ?_
  refine gk_iconst (pc := 2) (0 : Int32) d_Am_tenTo_2 rfl ?_
  refine gk_istore (pc := 3) (L' := [(4, .int (0 : Int32)), (2, .double (0x3ff0000000000000)), (0, .long a0)]) d_Am_tenTo_3 (Nat.le_of_ble_eq_true rfl) rfl ?_
  refine gk_weak [2, 1, 0] (L' := [(0, .long a0), (2, .double (0x3ff0000000000000)), (4, .int (0 : Int32))]) rfl ?_
  exact p_Am_tenTo_b5 d gk_F a0 (0x3ff0000000000000) (0 : Int32) h
theorem p_Am_tenTo (d : Nat) (a0 : Int64) (h : gk_H) : ∀ r h1, f_Am_tenTo a0 h = some (r, h1) → gk_M d y_Am_tenTo b_Am_tenTo 5 (some .double) [.long a0] h (.inl (gv_D r)) h1 :=
  fun r h1 e => gk_M_of2 (by decide +kernel) (by simp [lv_args, gk_cat_rf, gk_catI, gk_catJ, gk_catD, gv_V, gv_I, gv_J, gv_D, gv_R]) (by simp [lg_sl, gk_cat_rf, gk_catI, gk_catJ, gk_catD, gv_V, gv_I, gv_J, gv_D, gv_R]) (w_Am_tenTo d a0 h r h1 e)
theorem d_Le_numeral_0 : decode b_Le_numeral 0 = .ok (.lconst 0, 1) := by decide +kernel
theorem d_Le_numeral_1 : decode b_Le_numeral 1 = .ok (.lstore_n 1, 1) := by decide +kernel
theorem d_Le_numeral_2 : decode b_Le_numeral 2 = .ok (.iconst 0, 1) := by decide +kernel
theorem d_Le_numeral_3 : decode b_Le_numeral 3 = .ok (.istore_n 3, 1) := by decide +kernel
theorem d_Le_numeral_4 : decode b_Le_numeral 4 = .ok (.iconst 0, 1) := by decide +kernel
theorem d_Le_numeral_5 : decode b_Le_numeral 5 = .ok (.istore 4, 2) := by decide +kernel
theorem d_Le_numeral_7 : decode b_Le_numeral 7 = .ok (.iconst 0, 1) := by decide +kernel
theorem d_Le_numeral_8 : decode b_Le_numeral 8 = .ok (.istore 5, 2) := by decide +kernel
theorem d_Le_numeral_10 : decode b_Le_numeral 10 = .ok (.iload 5, 2) := by decide +kernel
theorem d_Le_numeral_12 : decode b_Le_numeral 12 = .ok (.aload_n 0, 1) := by decide +kernel
theorem d_Le_numeral_13 : decode b_Le_numeral 13 = .ok (.invokevirtual 15, 3) := by decide +kernel
theorem d_Le_numeral_16 : decode b_Le_numeral 16 = .ok (.if_icmp .ge 76, 3) := by decide +kernel
theorem d_Le_numeral_19 : decode b_Le_numeral 19 = .ok (.aload_n 0, 1) := by decide +kernel
theorem d_Le_numeral_20 : decode b_Le_numeral 20 = .ok (.iload 5, 2) := by decide +kernel
theorem d_Le_numeral_22 : decode b_Le_numeral 22 = .ok (.invokevirtual 27, 3) := by decide +kernel
theorem d_Le_numeral_25 : decode b_Le_numeral 25 = .ok (.istore 6, 2) := by decide +kernel
theorem d_Le_numeral_27 : decode b_Le_numeral 27 = .ok (.iload 4, 2) := by decide +kernel
theorem d_Le_numeral_29 : decode b_Le_numeral 29 = .ok (.ifCond .ne 10, 3) := by decide +kernel
theorem d_Le_numeral_32 : decode b_Le_numeral 32 = .ok (.iload 6, 2) := by decide +kernel
theorem d_Le_numeral_34 : decode b_Le_numeral 34 = .ok (.bipush 46, 2) := by decide +kernel
theorem d_Le_numeral_36 : decode b_Le_numeral 36 = .ok (.if_icmp .ne 7, 3) := by decide +kernel
theorem d_Le_numeral_39 : decode b_Le_numeral 39 = .ok (.iconst 1, 1) := by decide +kernel
theorem d_Le_numeral_40 : decode b_Le_numeral 40 = .ok (.goto 4, 3) := by decide +kernel
theorem d_Le_numeral_43 : decode b_Le_numeral 43 = .ok (.iconst 0, 1) := by decide +kernel
theorem d_Le_numeral_44 : decode b_Le_numeral 44 = .ok (.istore 4, 2) := by decide +kernel
theorem d_Le_numeral_46 : decode b_Le_numeral 46 = .ok (.iload 6, 2) := by decide +kernel
theorem d_Le_numeral_48 : decode b_Le_numeral 48 = .ok (.bipush 48, 2) := by decide +kernel
theorem d_Le_numeral_50 : decode b_Le_numeral 50 = .ok (.if_icmp .lt 36, 3) := by decide +kernel
theorem d_Le_numeral_53 : decode b_Le_numeral 53 = .ok (.iload 6, 2) := by decide +kernel
theorem d_Le_numeral_55 : decode b_Le_numeral 55 = .ok (.bipush 57, 2) := by decide +kernel
theorem d_Le_numeral_57 : decode b_Le_numeral 57 = .ok (.if_icmp .gt 29, 3) := by decide +kernel
theorem d_Le_numeral_60 : decode b_Le_numeral 60 = .ok (.lload_n 1, 1) := by decide +kernel
theorem d_Le_numeral_61 : decode b_Le_numeral 61 = .ok (.ldc2_w 39, 3) := by decide +kernel
theorem d_Le_numeral_64 : decode b_Le_numeral 64 = .ok (.lmul, 1) := by decide +kernel
theorem d_Le_numeral_65 : decode b_Le_numeral 65 = .ok (.iload 6, 2) := by decide +kernel
theorem d_Le_numeral_67 : decode b_Le_numeral 67 = .ok (.bipush 48, 2) := by decide +kernel
theorem d_Le_numeral_69 : decode b_Le_numeral 69 = .ok (.isub, 1) := by decide +kernel
theorem d_Le_numeral_70 : decode b_Le_numeral 70 = .ok (.i2l, 1) := by decide +kernel
theorem d_Le_numeral_71 : decode b_Le_numeral 71 = .ok (.ladd, 1) := by decide +kernel
theorem d_Le_numeral_72 : decode b_Le_numeral 72 = .ok (.lstore_n 1, 1) := by decide +kernel
theorem d_Le_numeral_73 : decode b_Le_numeral 73 = .ok (.iload_n 3, 1) := by decide +kernel
theorem d_Le_numeral_74 : decode b_Le_numeral 74 = .ok (.iload 4, 2) := by decide +kernel
theorem d_Le_numeral_76 : decode b_Le_numeral 76 = .ok (.ifCond .eq 7, 3) := by decide +kernel
theorem d_Le_numeral_79 : decode b_Le_numeral 79 = .ok (.iconst 1, 1) := by decide +kernel
theorem d_Le_numeral_80 : decode b_Le_numeral 80 = .ok (.goto 4, 3) := by decide +kernel
theorem d_Le_numeral_83 : decode b_Le_numeral 83 = .ok (.iconst 0, 1) := by decide +kernel
theorem d_Le_numeral_84 : decode b_Le_numeral 84 = .ok (.iadd, 1) := by decide +kernel
theorem d_Le_numeral_85 : decode b_Le_numeral 85 = .ok (.istore_n 3, 1) := by decide +kernel
theorem d_Le_numeral_86 : decode b_Le_numeral 86 = .ok (.iinc 5 1, 3) := by decide +kernel
theorem d_Le_numeral_89 : decode b_Le_numeral 89 = .ok (.goto (-79), 3) := by decide +kernel
theorem d_Le_numeral_92 : decode b_Le_numeral 92 = .ok (.iload_n 3, 1) := by decide +kernel
theorem d_Le_numeral_93 : decode b_Le_numeral 93 = .ok (.ifCond .le 14, 3) := by decide +kernel
theorem d_Le_numeral_96 : decode b_Le_numeral 96 = .ok (.lload_n 1, 1) := by decide +kernel
theorem d_Le_numeral_97 : decode b_Le_numeral 97 = .ok (.l2d, 1) := by decide +kernel
theorem d_Le_numeral_98 : decode b_Le_numeral 98 = .ok (.iload_n 3, 1) := by decide +kernel
theorem d_Le_numeral_99 : decode b_Le_numeral 99 = .ok (.i2l, 1) := by decide +kernel
theorem d_Le_numeral_100 : decode b_Le_numeral 100 = .ok (.invokestatic 41, 3) := by decide +kernel
theorem d_Le_numeral_103 : decode b_Le_numeral 103 = .ok (.ddiv, 1) := by decide +kernel
theorem d_Le_numeral_104 : decode b_Le_numeral 104 = .ok (.goto 5, 3) := by decide +kernel
theorem d_Le_numeral_107 : decode b_Le_numeral 107 = .ok (.lload_n 1, 1) := by decide +kernel
theorem d_Le_numeral_108 : decode b_Le_numeral 108 = .ok (.l2d, 1) := by decide +kernel
theorem d_Le_numeral_109 : decode b_Le_numeral 109 = .ok (.dstore 5, 2) := by decide +kernel
theorem d_Le_numeral_111 : decode b_Le_numeral 111 = .ok (.aload_n 0, 1) := by decide +kernel
theorem d_Le_numeral_112 : decode b_Le_numeral 112 = .ok (.bipush 37, 2) := by decide +kernel
theorem d_Le_numeral_114 : decode b_Le_numeral 114 = .ok (.invokevirtual 47, 3) := by decide +kernel
theorem d_Le_numeral_117 : decode b_Le_numeral 117 = .ok (.ifCond .lt 11, 3) := by decide +kernel
theorem d_Le_numeral_120 : decode b_Le_numeral 120 = .ok (.dload 5, 2) := by decide +kernel
theorem d_Le_numeral_122 : decode b_Le_numeral 122 = .ok (.ldc2_w 51, 3) := by decide +kernel
theorem d_Le_numeral_125 : decode b_Le_numeral 125 = .ok (.ddiv, 1) := by decide +kernel
theorem d_Le_numeral_126 : decode b_Le_numeral 126 = .ok (.dstore 5, 2) := by decide +kernel
theorem d_Le_numeral_128 : decode b_Le_numeral 128 = .ok (.aload_n 0, 1) := by decide +kernel
theorem d_Le_numeral_129 : decode b_Le_numeral 129 = .ok (.bipush 45, 2) := by decide +kernel
theorem d_Le_numeral_131 : decode b_Le_numeral 131 = .ok (.invokevirtual 47, 3) := by decide +kernel
theorem d_Le_numeral_134 : decode b_Le_numeral 134 = .ok (.ifCond .lt 10, 3) := by decide +kernel
theorem d_Le_numeral_137 : decode b_Le_numeral 137 = .ok (.dconst 0, 1) := by decide +kernel
theorem d_Le_numeral_138 : decode b_Le_numeral 138 = .ok (.dload 5, 2) := by decide +kernel
theorem d_Le_numeral_140 : decode b_Le_numeral 140 = .ok (.dsub, 1) := by decide +kernel
theorem d_Le_numeral_141 : decode b_Le_numeral 141 = .ok (.goto 5, 3) := by decide +kernel
theorem d_Le_numeral_144 : decode b_Le_numeral 144 = .ok (.dload 5, 2) := by decide +kernel
theorem d_Le_numeral_146 : decode b_Le_numeral 146 = .ok (.dreturn, 1) := by decide +kernel
theorem p_Le_numeral_b146 (d : Nat)  (s0 : UInt64) (h : gk_H) : gk_P gw_D (d + 4) y_Le_numeral b_Le_numeral 7 (some .double) [] (f_Le_numeral_b146  s0 h) 146 [] [.double s0] h := by
  unfold f_Le_numeral_b146
  exact gk_dret (pc := 146) rfl d_Le_numeral_146 rfl
theorem p_Le_numeral_b128 (d : Nat)  (v0 : Option Nat) (v5 : UInt64) (h : gk_H) : gk_P gw_D (d + 4) y_Le_numeral b_Le_numeral 7 (some .double) [] (f_Le_numeral_b128  v0 v5 h) 128 [(0, va_rf v0), (5, .double v5)] [] h := by
  unfold f_Le_numeral_b128
  refine gk_aload_n (pc := 128) 0 d_Le_numeral_128 rfl ?_
  refine gk_bipush (pc := 129) (45 : Int32) d_Le_numeral_129 rfl ?_
  refine gk_callV (pc := 131) (d := (d + 3)) (w' := gv_I) (as := [.int (45 : Int32)]) (n := 1) 0 d_Le_numeral_131 rfl rfl rfl rfl (Nat.le_of_ble_eq_true rfl) tw_836 tw_837 tw_838 tw_94 cw_St_indexOf_I hy_St_indexOf_I (Nat.le_of_ble_eq_true rfl) (p_St_indexOf_I d v0 (45 : Int32) h) fun x1 h1 => ?_
  refine gk_if_lt (pc := 134) 144 d_Le_numeral_134 rfl (fun _ => ?_) (fun _ => ?_)
  · refine gk_dload (pc := 144) 1 d_Le_numeral_144 rfl ?_
    refine gk_weak [] (L' := []) rfl ?_
    exact p_Le_numeral_b146 d v5 h1
  · refine gk_dconst0 (pc := 137) d_Le_numeral_137 ?_
    refine gk_dload (pc := 138) 1 d_Le_numeral_138 rfl ?_
    refine gk_dsubN (pc := 140) d_Le_numeral_140 fun x2 => ?_
    refine gk_goto (pc := 141) 146 d_Le_numeral_141 rfl ?_
    refine gk_weak [] (L' := []) rfl ?_
    exact p_Le_numeral_b146 d x2 h1
theorem p_Le_numeral_b109 (d : Nat)  (v0 : Option Nat) (s0 : UInt64) (h : gk_H) : gk_P gw_D (d + 4) y_Le_numeral b_Le_numeral 7 (some .double) [] (f_Le_numeral_b109  v0 s0 h) 109 [(0, va_rf v0)] [.double s0] h := by
  unfold f_Le_numeral_b109
  refine gk_dstore (pc := 109) (L' := [(5, .double s0), (0, va_rf v0)]) d_Le_numeral_109 (Nat.le_of_ble_eq_true rfl) rfl ?_
  refine gk_aload_n (pc := 111) 1 d_Le_numeral_111 rfl ?_
  refine gk_bipush (pc := 112) (37 : Int32) d_Le_numeral_112 rfl ?_
  refine gk_callV (pc := 114) (d := (d + 3)) (w' := gv_I) (as := [.int (37 : Int32)]) (n := 1) 0 d_Le_numeral_114 rfl rfl rfl rfl (Nat.le_of_ble_eq_true rfl) tw_836 tw_837 tw_838 tw_94 cw_St_indexOf_I hy_St_indexOf_I (Nat.le_of_ble_eq_true rfl) (p_St_indexOf_I d v0 (37 : Int32) h) fun x1 h1 => ?_
  refine gk_if_lt (pc := 117) 128 d_Le_numeral_117 rfl (fun _ => ?_) (fun _ => ?_)
  · refine gk_weak [1, 0] (L' := [(0, va_rf v0), (5, .double s0)]) rfl ?_
    exact p_Le_numeral_b128 d v0 s0 h1
  · refine gk_dload (pc := 120) 0 d_Le_numeral_120 rfl ?_
    refine gk_ldc2d (pc := 122) tw_882 d_Le_numeral_122 ?_
    refine gk_ddivN (pc := 125) d_Le_numeral_125 fun x2 => ?_
    refine gk_dstore (pc := 126) (L' := [(5, .double x2), (0, va_rf v0)]) d_Le_numeral_126 (Nat.le_of_ble_eq_true rfl) rfl ?_
    refine gk_weak [1, 0] (L' := [(0, va_rf v0), (5, .double x2)]) rfl ?_
    exact p_Le_numeral_b128 d v0 x2 h1
theorem p_Le_numeral_b86 (d : Nat) (b10 : Option Nat → Int64 → Int32 → Int32 → Int32 → gk_H → Option (UInt64 × gk_H)) (q10 : ∀ (v0 : Option Nat) (v1 : Int64) (v3 : Int32) (v4 : Int32) (v5 : Int32) (h : gk_H), gk_P gw_D (d + 4) y_Le_numeral b_Le_numeral 7 (some .double) [] (b10 v0 v1 v3 v4 v5 h) 10 [(0, va_rf v0), (1, .long v1), (3, .int v3), (4, .int v4), (5, .int v5)] [] h) (v0 : Option Nat) (v1 : Int64) (v3 : Int32) (v4 : Int32) (v5 : Int32) (h : gk_H) : gk_P gw_D (d + 4) y_Le_numeral b_Le_numeral 7 (some .double) [] (f_Le_numeral_b86 b10 v0 v1 v3 v4 v5 h) 86 [(0, va_rf v0), (1, .long v1), (3, .int v3), (4, .int v4), (5, .int v5)] [] h := by
  unfold f_Le_numeral_b86
  refine gk_iincN (pc := 86) 4 (1 : Int32) (L' := fun x1 => [(5, .int x1), (0, va_rf v0), (1, .long v1), (3, .int v3), (4, .int v4)]) d_Le_numeral_86 rfl rfl (Nat.le_of_ble_eq_true rfl) (fun _ => rfl) fun x1 => ?_
  refine gk_goto (pc := 89) 10 d_Le_numeral_89 rfl ?_
  refine gk_weak [1, 2, 3, 4, 0] (L' := [(0, va_rf v0), (1, .long v1), (3, .int v3), (4, .int v4), (5, .int x1)]) rfl ?_
  exact q10 v0 v1 v3 v4 x1 h
theorem p_Le_numeral_b84 (d : Nat) (b10 : Option Nat → Int64 → Int32 → Int32 → Int32 → gk_H → Option (UInt64 × gk_H)) (q10 : ∀ (v0 : Option Nat) (v1 : Int64) (v3 : Int32) (v4 : Int32) (v5 : Int32) (h : gk_H), gk_P gw_D (d + 4) y_Le_numeral b_Le_numeral 7 (some .double) [] (b10 v0 v1 v3 v4 v5 h) 10 [(0, va_rf v0), (1, .long v1), (3, .int v3), (4, .int v4), (5, .int v5)] [] h) (v0 : Option Nat) (v1 : Int64) (v4 : Int32) (v5 : Int32) (s0 : Int32) (s1 : Int32) (h : gk_H) : gk_P gw_D (d + 4) y_Le_numeral b_Le_numeral 7 (some .double) [] (f_Le_numeral_b84 b10 v0 v1 v4 v5 s0 s1 h) 84 [(0, va_rf v0), (1, .long v1), (4, .int v4), (5, .int v5)] [.int s1, .int s0] h := by
  unfold f_Le_numeral_b84
  refine gk_iadd (pc := 84) d_Le_numeral_84 ?_
  refine gk_topI (pc := 85) fun x1 => ?_
  refine gk_istore_n (pc := 85) (L' := [(3, .int x1), (0, va_rf v0), (1, .long v1), (4, .int v4), (5, .int v5)]) d_Le_numeral_85 (Nat.le_of_ble_eq_true rfl) rfl ?_
  refine gk_weak [1, 2, 0, 3, 4] (L' := [(0, va_rf v0), (1, .long v1), (3, .int x1), (4, .int v4), (5, .int v5)]) rfl ?_
  exact p_Le_numeral_b86 d b10 q10 v0 v1 x1 v4 v5 h
theorem p_Le_numeral_b44 (d : Nat) (b10 : Option Nat → Int64 → Int32 → Int32 → Int32 → gk_H → Option (UInt64 × gk_H)) (q10 : ∀ (v0 : Option Nat) (v1 : Int64) (v3 : Int32) (v4 : Int32) (v5 : Int32) (h : gk_H), gk_P gw_D (d + 4) y_Le_numeral b_Le_numeral 7 (some .double) [] (b10 v0 v1 v3 v4 v5 h) 10 [(0, va_rf v0), (1, .long v1), (3, .int v3), (4, .int v4), (5, .int v5)] [] h) (v0 : Option Nat) (v1 : Int64) (v3 : Int32) (v5 : Int32) (v6 : Int32) (s0 : Int32) (h : gk_H) : gk_P gw_D (d + 4) y_Le_numeral b_Le_numeral 7 (some .double) [] (f_Le_numeral_b44 b10 v0 v1 v3 v5 v6 s0 h) 44 [(0, va_rf v0), (1, .long v1), (3, .int v3), (5, .int v5), (6, .int v6)] [.int s0] h := by
  unfold f_Le_numeral_b44
  refine gk_istore (pc := 44) (L' := [(4, .int s0), (0, va_rf v0), (1, .long v1), (3, .int v3), (5, .int v5), (6, .int v6)]) d_Le_numeral_44 (Nat.le_of_ble_eq_true rfl) rfl ?_
  refine gk_iload (pc := 46) 5 d_Le_numeral_46 rfl ?_
  refine gk_bipush (pc := 48) (48 : Int32) d_Le_numeral_48 rfl ?_
  refine gk_icmp_lt (pc := 50) 86 d_Le_numeral_50 rfl (fun _ => ?_) (fun _ => ?_)
  · refine gk_weak [1, 2, 3, 0, 4] (L' := [(0, va_rf v0), (1, .long v1), (3, .int v3), (4, .int s0), (5, .int v5)]) rfl ?_
    exact p_Le_numeral_b86 d b10 q10 v0 v1 v3 s0 v5 h
  · refine gk_iload (pc := 53) 5 d_Le_numeral_53 rfl ?_
    refine gk_bipush (pc := 55) (57 : Int32) d_Le_numeral_55 rfl ?_
    refine gk_icmp_gt (pc := 57) 86 d_Le_numeral_57 rfl (fun _ => ?_) (fun _ => ?_)
    · refine gk_weak [1, 2, 3, 0, 4] (L' := [(0, va_rf v0), (1, .long v1), (3, .int v3), (4, .int s0), (5, .int v5)]) rfl ?_
      exact p_Le_numeral_b86 d b10 q10 v0 v1 v3 s0 v5 h
    · refine gk_lload_n (pc := 60) 2 d_Le_numeral_60 rfl ?_
      refine gk_ldc2 (pc := 61) tw_831 d_Le_numeral_61 ?_
      refine gk_lmul (pc := 64) d_Le_numeral_64 ?_
      refine gk_iload (pc := 65) 5 d_Le_numeral_65 rfl ?_
      refine gk_bipush (pc := 67) (48 : Int32) d_Le_numeral_67 rfl ?_
      refine gk_isub (pc := 69) d_Le_numeral_69 ?_
      refine gk_i2l (pc := 70) d_Le_numeral_70 ?_
      refine gk_ladd (pc := 71) d_Le_numeral_71 ?_
      refine gk_topJ (pc := 72) fun x1 => ?_
      refine gk_lstore_n (pc := 72) (L' := [(1, .long x1), (4, .int s0), (0, va_rf v0), (3, .int v3), (5, .int v5), (6, .int v6)]) d_Le_numeral_72 (Nat.le_of_ble_eq_true rfl) (by simp [gk_s1, gk_s2, gk_cat_rf, gk_catI, gk_catJ, gk_catD] <;> decide) ?_
      refine gk_iload_n (pc := 73) 3 d_Le_numeral_73 rfl ?_
      refine gk_iload (pc := 74) 1 d_Le_numeral_74 rfl ?_
      refine gk_if_eq (pc := 76) 83 d_Le_numeral_76 rfl (fun _ => ?_) (fun _ => ?_)
      · refine gk_iconst (pc := 83) (0 : Int32) d_Le_numeral_83 rfl ?_
        refine gk_weak [2, 0, 1, 4] (L' := [(0, va_rf v0), (1, .long x1), (4, .int s0), (5, .int v5)]) rfl ?_
        exact p_Le_numeral_b84 d b10 q10 v0 x1 s0 v5 v3 (0 : Int32) h
      · refine gk_iconst (pc := 79) (1 : Int32) d_Le_numeral_79 rfl ?_
        refine gk_goto (pc := 80) 84 d_Le_numeral_80 rfl ?_
        refine gk_weak [2, 0, 1, 4] (L' := [(0, va_rf v0), (1, .long x1), (4, .int s0), (5, .int v5)]) rfl ?_
        exact p_Le_numeral_b84 d b10 q10 v0 x1 s0 v5 v3 (1 : Int32) h
theorem p_Le_numeral_b39 (d : Nat) (b10 : Option Nat → Int64 → Int32 → Int32 → Int32 → gk_H → Option (UInt64 × gk_H)) (q10 : ∀ (v0 : Option Nat) (v1 : Int64) (v3 : Int32) (v4 : Int32) (v5 : Int32) (h : gk_H), gk_P gw_D (d + 4) y_Le_numeral b_Le_numeral 7 (some .double) [] (b10 v0 v1 v3 v4 v5 h) 10 [(0, va_rf v0), (1, .long v1), (3, .int v3), (4, .int v4), (5, .int v5)] [] h) (v0 : Option Nat) (v1 : Int64) (v3 : Int32) (v5 : Int32) (v6 : Int32) (h : gk_H) : gk_P gw_D (d + 4) y_Le_numeral b_Le_numeral 7 (some .double) [] (f_Le_numeral_b39 b10 v0 v1 v3 v5 v6 h) 39 [(0, va_rf v0), (1, .long v1), (3, .int v3), (5, .int v5), (6, .int v6)] [] h := by
  unfold f_Le_numeral_b39
  refine gk_iconst (pc := 39) (1 : Int32) d_Le_numeral_39 rfl ?_
  refine gk_goto (pc := 40) 44 d_Le_numeral_40 rfl ?_
  exact p_Le_numeral_b44 d b10 q10 v0 v1 v3 v5 v6 (1 : Int32) h
theorem p_Le_numeral_b10 (d : Nat)  : ∀ (fu : Nat) (v0 : Option Nat) (v1 : Int64) (v3 : Int32) (v4 : Int32) (v5 : Int32) (h : gk_H), gk_P gw_D (d + 4) y_Le_numeral b_Le_numeral 7 (some .double) [] (f_Le_numeral_b10  fu v0 v1 v3 v4 v5 h) 10 [(0, va_rf v0), (1, .long v1), (3, .int v3), (4, .int v4), (5, .int v5)] [] h := by
  intro fu
  induction fu with
  | zero => intros; exact gk_none
  | succ fu q10 =>
    intro v0 v1 v3 v4 v5 h
    rw [f_Le_numeral_b10]
    refine gk_iload (pc := 10) 4 d_Le_numeral_10 rfl ?_
    refine gk_aload_n (pc := 12) 0 d_Le_numeral_12 rfl ?_
    refine gk_callV (pc := 13) (d := (d + 3)) (w' := gv_I) (as := []) (n := 0) 0 d_Le_numeral_13 rfl rfl rfl rfl (Nat.le_of_ble_eq_true rfl) tw_809 tw_613 tw_614 tw_94 cw_St_length hy_St_length (Nat.le_of_ble_eq_true rfl) (p_St_length (d + 2) v0 h) fun x1 h1 => ?_
    refine gk_icmp_ge (pc := 16) 92 d_Le_numeral_16 rfl (fun _ => ?_) (fun _ => ?_)
    · refine gk_iload_n (pc := 92) 2 d_Le_numeral_92 rfl ?_
      refine gk_if_le (pc := 93) 107 d_Le_numeral_93 rfl (fun _ => ?_) (fun _ => ?_)
      · refine gk_lload_n (pc := 107) 1 d_Le_numeral_107 rfl ?_
        refine gk_l2d (pc := 108) d_Le_numeral_108 ?_
        refine gk_weak [0] (L' := [(0, va_rf v0)]) rfl ?_
        exact p_Le_numeral_b109 d v0 (FP.l2d v1) h1
      · refine gk_lload_n (pc := 96) 1 d_Le_numeral_96 rfl ?_
        refine gk_l2d (pc := 97) d_Le_numeral_97 ?_
        refine gk_iload_n (pc := 98) 2 d_Le_numeral_98 rfl ?_
        refine gk_i2l (pc := 99) d_Le_numeral_99 ?_
        refine gk_callS (pc := 100) (d := (d + 3)) (w' := gv_D) (as := [.long (Int32.toInt64 v3)]) (n := 1) d_Le_numeral_100 rfl rfl (Nat.le_of_ble_eq_true rfl) tw_832 tw_833 tw_117 cw_Am_tenTo hy_Am_tenTo (Nat.le_of_ble_eq_true rfl) (p_Am_tenTo (d + 3) (Int32.toInt64 v3) h1) fun x2 h2 => ?_
        refine gk_ddivN (pc := 103) d_Le_numeral_103 fun x3 => ?_
        refine gk_goto (pc := 104) 109 d_Le_numeral_104 rfl ?_
        refine gk_weak [0] (L' := [(0, va_rf v0)]) rfl ?_
        exact p_Le_numeral_b109 d v0 x3 h2
    · refine gk_aload_n (pc := 19) 0 d_Le_numeral_19 rfl ?_
      refine gk_iload (pc := 20) 4 d_Le_numeral_20 rfl ?_
      refine gk_callV (pc := 22) (d := (d + 3)) (w' := gv_I) (as := [.int v5]) (n := 1) 0 d_Le_numeral_22 rfl rfl rfl rfl (Nat.le_of_ble_eq_true rfl) tw_810 tw_811 tw_812 tw_94 cw_St_charAt hy_St_charAt (Nat.le_of_ble_eq_true rfl) (p_St_charAt d v0 v5 h1) fun x4 h3 => ?_
      refine gk_istore (pc := 25) (L' := [(6, .int x4), (0, va_rf v0), (1, .long v1), (3, .int v3), (4, .int v4), (5, .int v5)]) d_Le_numeral_25 (Nat.le_of_ble_eq_true rfl) rfl ?_
      refine gk_iload (pc := 27) 4 d_Le_numeral_27 rfl ?_
      refine gk_if_ne (pc := 29) 39 d_Le_numeral_29 rfl (fun _ => ?_) (fun _ => ?_)
      · refine gk_iload (pc := 32) 0 d_Le_numeral_32 rfl ?_
        refine gk_bipush (pc := 34) (46 : Int32) d_Le_numeral_34 rfl ?_
        refine gk_icmp_ne (pc := 36) 43 d_Le_numeral_36 rfl (fun _ => ?_) (fun _ => ?_)
        · refine gk_weak [1, 2, 3, 5, 0] (L' := [(0, va_rf v0), (1, .long v1), (3, .int v3), (5, .int v5), (6, .int x4)]) rfl ?_
          exact p_Le_numeral_b39 d (f_Le_numeral_b10 fu) q10 v0 v1 v3 v5 x4 h3
        · refine gk_iconst (pc := 43) (0 : Int32) d_Le_numeral_43 rfl ?_
          refine gk_weak [1, 2, 3, 5, 0] (L' := [(0, va_rf v0), (1, .long v1), (3, .int v3), (5, .int v5), (6, .int x4)]) rfl ?_
          exact p_Le_numeral_b44 d (f_Le_numeral_b10 fu) q10 v0 v1 v3 v5 x4 (0 : Int32) h3
      · refine gk_weak [1, 2, 3, 5, 0] (L' := [(0, va_rf v0), (1, .long v1), (3, .int v3), (5, .int v5), (6, .int x4)]) rfl ?_
        exact p_Le_numeral_b39 d (f_Le_numeral_b10 fu) q10 v0 v1 v3 v5 x4 h3
theorem w_Le_numeral (d : Nat) (a0 : Option Nat) (h : gk_H) : gk_P gw_D (d + 4) y_Le_numeral b_Le_numeral 7 (some .double) [] (f_Le_numeral a0 h) 0 [(0, va_rf a0)] [] h := by
  unfold f_Le_numeral
  refine gk_lconst (pc := 0) (0 : Int64) d_Le_numeral_0 rfl ?_
  refine gk_lstore_n (pc := 1) (L' := [(1, .long (0 : Int64)), (0, va_rf a0)]) d_Le_numeral_1 (Nat.le_of_ble_eq_true rfl) (by simp [gk_s1, gk_s2, gk_cat_rf, gk_catI, gk_catJ, gk_catD] <;> decide) ?_
  refine gk_iconst (pc := 2) (0 : Int32) d_Le_numeral_2 rfl ?_
  refine gk_istore_n (pc := 3) (L' := [(3, .int (0 : Int32)), (1, .long (0 : Int64)), (0, va_rf a0)]) d_Le_numeral_3 (Nat.le_of_ble_eq_true rfl) rfl ?_
  refine gk_iconst (pc := 4) (0 : Int32) d_Le_numeral_4 rfl ?_
  refine gk_istore (pc := 5) (L' := [(4, .int (0 : Int32)), (3, .int (0 : Int32)), (1, .long (0 : Int64)), (0, va_rf a0)]) d_Le_numeral_5 (Nat.le_of_ble_eq_true rfl) rfl ?_
  refine gk_iconst (pc := 7) (0 : Int32) d_Le_numeral_7 rfl ?_
  refine gk_istore (pc := 8) (L' := [(5, .int (0 : Int32)), (4, .int (0 : Int32)), (3, .int (0 : Int32)), (1, .long (0 : Int64)), (0, va_rf a0)]) d_Le_numeral_8 (Nat.le_of_ble_eq_true rfl) rfl ?_
  refine gk_weak [4, 3, 2, 1, 0] (L' := [(0, va_rf a0), (1, .long (0 : Int64)), (3, .int (0 : Int32)), (4, .int (0 : Int32)), (5, .int (0 : Int32))]) rfl ?_
  exact p_Le_numeral_b10 d gk_F a0 (0 : Int64) (0 : Int32) (0 : Int32) (0 : Int32) h
theorem p_Le_numeral (d : Nat) (a0 : Option Nat) (h : gk_H) : ∀ r h1, f_Le_numeral a0 h = some (r, h1) → gk_M (d + 4) y_Le_numeral b_Le_numeral 7 (some .double) [va_rf a0] h (.inl (gv_D r)) h1 :=
  fun r h1 e => gk_M_of2 (by decide +kernel) (by simp [lv_args, gk_cat_rf, gk_catI, gk_catJ, gk_catD, gv_V, gv_I, gv_J, gv_D, gv_R]) (by simp [lg_sl, gk_cat_rf, gk_catI, gk_catJ, gk_catD, gv_V, gv_I, gv_J, gv_D, gv_R]) (w_Le_numeral d a0 h r h1 e)
theorem d_Ar_amount_0 : decode b_Ar_amount 0 = .ok (.aload_n 0, 1) := by decide +kernel
theorem d_Ar_amount_1 : decode b_Ar_amount 1 = .ok (.iload_n 1, 1) := by decide +kernel
theorem d_Ar_amount_2 : decode b_Ar_amount 2 = .ok (.invokevirtual 76, 3) := by decide +kernel
theorem d_Ar_amount_5 : decode b_Ar_amount 5 = .ok (.astore_n 2, 1) := by decide +kernel
theorem d_Ar_amount_6 : decode b_Ar_amount 6 = .ok (.aload_n 2, 1) := by decide +kernel
theorem d_Ar_amount_7 : decode b_Ar_amount 7 = .ok (.getfield 66, 3) := by decide +kernel
theorem d_Ar_amount_10 : decode b_Ar_amount 10 = .ok (.tableswitch 62 1 3 #[26, 37, 31], 26) := by decide +kernel
theorem d_Ar_amount_36 : decode b_Ar_amount 36 = .ok (.aload_n 2, 1) := by decide +kernel
theorem d_Ar_amount_37 : decode b_Ar_amount 37 = .ok (.getfield 79, 3) := by decide +kernel
theorem d_Ar_amount_40 : decode b_Ar_amount 40 = .ok (.dreturn, 1) := by decide +kernel
theorem d_Ar_amount_41 : decode b_Ar_amount 41 = .ok (.aload_n 2, 1) := by decide +kernel
theorem d_Ar_amount_42 : decode b_Ar_amount 42 = .ok (.getfield 69, 3) := by decide +kernel
theorem d_Ar_amount_45 : decode b_Ar_amount 45 = .ok (.i2d, 1) := by decide +kernel
theorem d_Ar_amount_46 : decode b_Ar_amount 46 = .ok (.dreturn, 1) := by decide +kernel
theorem d_Ar_amount_47 : decode b_Ar_amount 47 = .ok (.aload_n 2, 1) := by decide +kernel
theorem d_Ar_amount_48 : decode b_Ar_amount 48 = .ok (.getfield 83, 3) := by decide +kernel
theorem d_Ar_amount_51 : decode b_Ar_amount 51 = .ok (.invokestatic 87, 3) := by decide +kernel
theorem d_Ar_amount_54 : decode b_Ar_amount 54 = .ok (.ifCond .ne 10, 3) := by decide +kernel
theorem d_Ar_amount_57 : decode b_Ar_amount 57 = .ok (.aload_n 0, 1) := by decide +kernel
theorem d_Ar_amount_58 : decode b_Ar_amount 58 = .ok (.iconst 3, 1) := by decide +kernel
theorem d_Ar_amount_59 : decode b_Ar_amount 59 = .ok (.invokevirtual 72, 3) := by decide +kernel
theorem d_Ar_amount_62 : decode b_Ar_amount 62 = .ok (.dconst 0, 1) := by decide +kernel
theorem d_Ar_amount_63 : decode b_Ar_amount 63 = .ok (.dreturn, 1) := by decide +kernel
theorem d_Ar_amount_64 : decode b_Ar_amount 64 = .ok (.aload_n 2, 1) := by decide +kernel
theorem d_Ar_amount_65 : decode b_Ar_amount 65 = .ok (.getfield 83, 3) := by decide +kernel
theorem d_Ar_amount_68 : decode b_Ar_amount 68 = .ok (.invokestatic 93, 3) := by decide +kernel
theorem d_Ar_amount_71 : decode b_Ar_amount 71 = .ok (.dreturn, 1) := by decide +kernel
theorem d_Ar_amount_72 : decode b_Ar_amount 72 = .ok (.dconst 0, 1) := by decide +kernel
theorem d_Ar_amount_73 : decode b_Ar_amount 73 = .ok (.dreturn, 1) := by decide +kernel
theorem w_Ar_amount (d : Nat) (a0 : Option Nat) (a1 : Int32) (h : gk_H) : gk_P gw_D (d + 6) y_Ar_amount b_Ar_amount 3 (some .double) [] (f_Ar_amount a0 a1 h) 0 [(0, va_rf a0), (1, .int a1)] [] h := by
  unfold f_Ar_amount
  refine gk_aload_n (pc := 0) 0 d_Ar_amount_0 rfl ?_
  refine gk_iload_n (pc := 1) 1 d_Ar_amount_1 rfl ?_
  refine gk_callV (pc := 2) (d := (d + 5)) (w' := gv_R) (as := [.int a1]) (n := 1) 4 d_Ar_amount_2 rfl rfl rfl rfl (Nat.le_of_ble_eq_true rfl) tw_791 tw_792 tw_793 tw_96 cw_Ar_sound hy_Ar_sound (Nat.le_of_ble_eq_true rfl) (p_Ar_sound (d + 4) a0 a1 h) fun x1 h1 => ?_
  refine gk_astore_n (pc := 5) (L' := [(2, va_rf x1), (0, va_rf a0), (1, .int a1)]) d_Ar_amount_5 (Nat.le_of_ble_eq_true rfl) rfl ?_
  refine gk_aload_n (pc := 6) 0 d_Ar_amount_6 rfl ?_
  refine gk_getI (pc := 7) 2 0 d_Ar_amount_7 rfl (Nat.le_of_ble_eq_true rfl) tw_191 fun x2 => ?_
  refine gk_ite (fun z10_0 => ?_) (fun z10_0 => ?_)
  · refine gk_tsw_in (pc := 10) (1 : Int32) 36 d_Ar_amount_10 z10_0 (by decide) (by decide) rfl rfl ?_
    refine gk_aload_n (pc := 36) 0 d_Ar_amount_36 rfl ?_
    refine gk_getD (pc := 37) 2 2 d_Ar_amount_37 rfl (Nat.le_of_ble_eq_true rfl) tw_201 fun x3 => ?_
    exact gk_dret (pc := 40) rfl d_Ar_amount_40 rfl
  ·
    refine gk_ite (fun z10_1 => ?_) (fun z10_1 => ?_)
    · refine gk_tsw_in (pc := 10) (2 : Int32) 47 d_Ar_amount_10 z10_1 (by decide) (by decide) rfl rfl ?_
      refine gk_aload_n (pc := 47) 0 d_Ar_amount_47 rfl ?_
      refine gk_getR (pc := 48) 2 3 d_Ar_amount_48 rfl (Nat.le_of_ble_eq_true rfl) tw_208 fun x4 => ?_
      refine gk_callS (pc := 51) (d := (d + 5)) (w' := gv_I) (as := [va_rf x4]) (n := 1) d_Ar_amount_51 rfl rfl (Nat.le_of_ble_eq_true rfl) tw_803 tw_804 tw_116 cw_Le_isNumeral hy_Le_isNumeral (Nat.le_of_ble_eq_true rfl) (p_Le_isNumeral d x4 h1) fun x5 h2 => ?_
      refine gk_if_ne (pc := 54) 64 d_Ar_amount_54 rfl (fun _ => ?_) (fun _ => ?_)
      · refine gk_aload_n (pc := 57) 1 d_Ar_amount_57 rfl ?_
        refine gk_iconst (pc := 58) (3 : Int32) d_Ar_amount_58 rfl ?_
        refine gk_callV (pc := 59) (d := (d + 5)) (w' := gv_V) (as := [.int (3 : Int32)]) (n := 1) 4 d_Ar_amount_59 rfl rfl rfl rfl (Nat.le_of_ble_eq_true rfl) tw_799 tw_800 tw_801 tw_96 cw_Ar_blame hy_Ar_blame (Nat.le_of_ble_eq_true rfl) (p_Ar_blame (d + 5) a0 (3 : Int32) h2) fun _ h3 => ?_
        refine gk_dconst0 (pc := 62) d_Ar_amount_62 ?_
        exact gk_dret (pc := 63) rfl d_Ar_amount_63 rfl
      · refine gk_aload_n (pc := 64) 0 d_Ar_amount_64 rfl ?_
        refine gk_getR (pc := 65) 2 3 d_Ar_amount_65 rfl (Nat.le_of_ble_eq_true rfl) tw_208 fun x6 => ?_
        refine gk_callS (pc := 68) (d := (d + 5)) (w' := gv_D) (as := [va_rf x6]) (n := 1) d_Ar_amount_68 rfl rfl (Nat.le_of_ble_eq_true rfl) tw_828 tw_829 tw_116 cw_Le_numeral hy_Le_numeral (Nat.le_of_ble_eq_true rfl) (p_Le_numeral (d + 1) x6 h2) fun x7 h4 => ?_
        exact gk_dret (pc := 71) rfl d_Ar_amount_71 rfl
    ·
      refine gk_ite (fun z10_2 => ?_) (fun z10_2 => ?_)
      · refine gk_tsw_in (pc := 10) (3 : Int32) 41 d_Ar_amount_10 z10_2 (by decide) (by decide) rfl rfl ?_
        refine gk_aload_n (pc := 41) 0 d_Ar_amount_41 rfl ?_
        refine gk_getI (pc := 42) 2 1 d_Ar_amount_42 rfl (Nat.le_of_ble_eq_true rfl) tw_196 fun x8 => ?_
        refine gk_i2d (pc := 45) d_Ar_amount_45 ?_
        exact gk_dret (pc := 46) rfl d_Ar_amount_46 rfl
      ·
        refine gk_tsw_out (pc := 10) 72 d_Ar_amount_10 (by have e0 := gk_neT z10_0 (by decide : (1 : Int32).toInt = 1); have e1 := gk_neT z10_1 (by decide : (2 : Int32).toInt = 2); have e2 := gk_neT z10_2 (by decide : (3 : Int32).toInt = 3); omega) rfl ?_
        refine gk_dconst0 (pc := 72) d_Ar_amount_72 ?_
        exact gk_dret (pc := 73) rfl d_Ar_amount_73 rfl
theorem p_Ar_amount (d : Nat) (a0 : Option Nat) (a1 : Int32) (h : gk_H) : ∀ r h1, f_Ar_amount a0 a1 h = some (r, h1) → gk_M (d + 6) y_Ar_amount b_Ar_amount 3 (some .double) [va_rf a0, .int a1] h (.inl (gv_D r)) h1 :=
  fun r h1 e => gk_M_of2 (by decide +kernel) (by simp [lv_args, gk_cat_rf, gk_catI, gk_catJ, gk_catD, gv_V, gv_I, gv_J, gv_D, gv_R]) (by simp [lg_sl, gk_cat_rf, gk_catI, gk_catJ, gk_catD, gv_V, gv_I, gv_J, gv_D, gv_R]) (w_Ar_amount d a0 a1 h r h1 e)
theorem d_Le_canBeWritten_0 : decode b_Le_canBeWritten 0 = .ok (.dload_n 0, 1) := by decide +kernel
theorem d_Le_canBeWritten_1 : decode b_Le_canBeWritten 1 = .ok (.ldc2_w 53, 3) := by decide +kernel
theorem d_Le_canBeWritten_4 : decode b_Le_canBeWritten 4 = .ok (.dcmp .g, 1) := by decide +kernel
theorem d_Le_canBeWritten_5 : decode b_Le_canBeWritten 5 = .ok (.ifCond .ge 15, 3) := by decide +kernel
theorem d_Le_canBeWritten_8 : decode b_Le_canBeWritten 8 = .ok (.dload_n 0, 1) := by decide +kernel
theorem d_Le_canBeWritten_9 : decode b_Le_canBeWritten 9 = .ok (.ldc2_w 55, 3) := by decide +kernel
theorem d_Le_canBeWritten_12 : decode b_Le_canBeWritten 12 = .ok (.dcmp .l, 1) := by decide +kernel
theorem d_Le_canBeWritten_13 : decode b_Le_canBeWritten 13 = .ok (.ifCond .le 7, 3) := by decide +kernel
theorem d_Le_canBeWritten_16 : decode b_Le_canBeWritten 16 = .ok (.iconst 1, 1) := by decide +kernel
theorem d_Le_canBeWritten_17 : decode b_Le_canBeWritten 17 = .ok (.goto 4, 3) := by decide +kernel
theorem d_Le_canBeWritten_20 : decode b_Le_canBeWritten 20 = .ok (.iconst 0, 1) := by decide +kernel
theorem d_Le_canBeWritten_21 : decode b_Le_canBeWritten 21 = .ok (.ireturn, 1) := by decide +kernel
theorem p_Le_canBeWritten_b21 (d : Nat)  (s0 : Int32) (h : gk_H) : gk_P gw_I d y_Le_canBeWritten b_Le_canBeWritten 2 (some .boolean) [] (f_Le_canBeWritten_b21  s0 h) 21 [] [.int s0] h := by
  unfold f_Le_canBeWritten_b21
  exact gk_zret (pc := 21) rfl d_Le_canBeWritten_21 rfl
theorem p_Le_canBeWritten_b20 (d : Nat)   (h : gk_H) : gk_P gw_I d y_Le_canBeWritten b_Le_canBeWritten 2 (some .boolean) [] (f_Le_canBeWritten_b20   h) 20 [] [] h := by
  unfold f_Le_canBeWritten_b20
  refine gk_iconst (pc := 20) (0 : Int32) d_Le_canBeWritten_20 rfl ?_
  exact p_Le_canBeWritten_b21 d (0 : Int32) h
theorem w_Le_canBeWritten (d : Nat) (a0 : UInt64) (h : gk_H) : gk_P gw_I d y_Le_canBeWritten b_Le_canBeWritten 2 (some .boolean) [] (f_Le_canBeWritten a0 h) 0 [(0, .double a0)] [] h := by
  unfold f_Le_canBeWritten
  refine gk_dload_n (pc := 0) 0 d_Le_canBeWritten_0 rfl ?_
  refine gk_ldc2d (pc := 1) tw_894 d_Le_canBeWritten_1 ?_
  refine gk_dcmp (pc := 4) d_Le_canBeWritten_4 ?_
  refine gk_if_ge (pc := 5) 20 d_Le_canBeWritten_5 rfl (fun _ => ?_) (fun _ => ?_)
  · refine gk_weak [] (L' := []) rfl ?_
    exact p_Le_canBeWritten_b20 d h
  · refine gk_dload_n (pc := 8) 0 d_Le_canBeWritten_8 rfl ?_
    refine gk_ldc2d (pc := 9) tw_895 d_Le_canBeWritten_9 ?_
    refine gk_dcmp (pc := 12) d_Le_canBeWritten_12 ?_
    refine gk_if_le (pc := 13) 20 d_Le_canBeWritten_13 rfl (fun _ => ?_) (fun _ => ?_)
    · refine gk_weak [] (L' := []) rfl ?_
      exact p_Le_canBeWritten_b20 d h
    · refine gk_iconst (pc := 16) (1 : Int32) d_Le_canBeWritten_16 rfl ?_
      refine gk_goto (pc := 17) 21 d_Le_canBeWritten_17 rfl ?_
      refine gk_weak [] (L' := []) rfl ?_
      exact p_Le_canBeWritten_b21 d (1 : Int32) h
theorem p_Le_canBeWritten (d : Nat) (a0 : UInt64) (h : gk_H) : ∀ r h1, f_Le_canBeWritten a0 h = some (r, h1) → gk_M d y_Le_canBeWritten b_Le_canBeWritten 2 (some .boolean) [.double a0] h (.inl (gv_I r)) h1 :=
  fun r h1 e => gk_M_of2 (by decide +kernel) (by simp [lv_args, gk_cat_rf, gk_catI, gk_catJ, gk_catD, gv_V, gv_I, gv_J, gv_D, gv_R]) (by simp [lg_sl, gk_cat_rf, gk_catI, gk_catJ, gk_catD, gv_V, gv_I, gv_J, gv_D, gv_R]) (w_Le_canBeWritten d a0 h r h1 e)
theorem d_Am_isWithinWhole_0 : decode b_Am_isWithinWhole 0 = .ok (.dload_n 0, 1) := by decide +kernel
theorem d_Am_isWithinWhole_1 : decode b_Am_isWithinWhole 1 = .ok (.ldc2_w 84, 3) := by decide +kernel
theorem d_Am_isWithinWhole_4 : decode b_Am_isWithinWhole 4 = .ok (.dcmp .g, 1) := by decide +kernel
theorem d_Am_isWithinWhole_5 : decode b_Am_isWithinWhole 5 = .ok (.ifCond .ge 15, 3) := by decide +kernel
theorem d_Am_isWithinWhole_8 : decode b_Am_isWithinWhole 8 = .ok (.dload_n 0, 1) := by decide +kernel
theorem d_Am_isWithinWhole_9 : decode b_Am_isWithinWhole 9 = .ok (.ldc2_w 86, 3) := by decide +kernel
theorem d_Am_isWithinWhole_12 : decode b_Am_isWithinWhole 12 = .ok (.dcmp .l, 1) := by decide +kernel
theorem d_Am_isWithinWhole_13 : decode b_Am_isWithinWhole 13 = .ok (.ifCond .le 7, 3) := by decide +kernel
theorem d_Am_isWithinWhole_16 : decode b_Am_isWithinWhole 16 = .ok (.iconst 1, 1) := by decide +kernel
theorem d_Am_isWithinWhole_17 : decode b_Am_isWithinWhole 17 = .ok (.goto 4, 3) := by decide +kernel
theorem d_Am_isWithinWhole_20 : decode b_Am_isWithinWhole 20 = .ok (.iconst 0, 1) := by decide +kernel
theorem d_Am_isWithinWhole_21 : decode b_Am_isWithinWhole 21 = .ok (.ireturn, 1) := by decide +kernel
theorem p_Am_isWithinWhole_b21 (d : Nat)  (s0 : Int32) (h : gk_H) : gk_P gw_I d y_Am_isWithinWhole b_Am_isWithinWhole 2 (some .boolean) [] (f_Am_isWithinWhole_b21  s0 h) 21 [] [.int s0] h := by
  unfold f_Am_isWithinWhole_b21
  exact gk_zret (pc := 21) rfl d_Am_isWithinWhole_21 rfl
theorem p_Am_isWithinWhole_b20 (d : Nat)   (h : gk_H) : gk_P gw_I d y_Am_isWithinWhole b_Am_isWithinWhole 2 (some .boolean) [] (f_Am_isWithinWhole_b20   h) 20 [] [] h := by
  unfold f_Am_isWithinWhole_b20
  refine gk_iconst (pc := 20) (0 : Int32) d_Am_isWithinWhole_20 rfl ?_
  exact p_Am_isWithinWhole_b21 d (0 : Int32) h
theorem w_Am_isWithinWhole (d : Nat) (a0 : UInt64) (h : gk_H) : gk_P gw_I d y_Am_isWithinWhole b_Am_isWithinWhole 2 (some .boolean) [] (f_Am_isWithinWhole a0 h) 0 [(0, .double a0)] [] h := by
  unfold f_Am_isWithinWhole
  refine gk_dload_n (pc := 0) 0 d_Am_isWithinWhole_0 rfl ?_
  refine gk_ldc2d (pc := 1) tw_908 d_Am_isWithinWhole_1 ?_
  refine gk_dcmp (pc := 4) d_Am_isWithinWhole_4 ?_
  refine gk_if_ge (pc := 5) 20 d_Am_isWithinWhole_5 rfl (fun _ => ?_) (fun _ => ?_)
  · refine gk_weak [] (L' := []) rfl ?_
    exact p_Am_isWithinWhole_b20 d h
  · refine gk_dload_n (pc := 8) 0 d_Am_isWithinWhole_8 rfl ?_
    refine gk_ldc2d (pc := 9) tw_909 d_Am_isWithinWhole_9 ?_
    refine gk_dcmp (pc := 12) d_Am_isWithinWhole_12 ?_
    refine gk_if_le (pc := 13) 20 d_Am_isWithinWhole_13 rfl (fun _ => ?_) (fun _ => ?_)
    · refine gk_weak [] (L' := []) rfl ?_
      exact p_Am_isWithinWhole_b20 d h
    · refine gk_iconst (pc := 16) (1 : Int32) d_Am_isWithinWhole_16 rfl ?_
      refine gk_goto (pc := 17) 21 d_Am_isWithinWhole_17 rfl ?_
      refine gk_weak [] (L' := []) rfl ?_
      exact p_Am_isWithinWhole_b21 d (1 : Int32) h
theorem p_Am_isWithinWhole (d : Nat) (a0 : UInt64) (h : gk_H) : ∀ r h1, f_Am_isWithinWhole a0 h = some (r, h1) → gk_M d y_Am_isWithinWhole b_Am_isWithinWhole 2 (some .boolean) [.double a0] h (.inl (gv_I r)) h1 :=
  fun r h1 e => gk_M_of2 (by decide +kernel) (by simp [lv_args, gk_cat_rf, gk_catI, gk_catJ, gk_catD, gv_V, gv_I, gv_J, gv_D, gv_R]) (by simp [lg_sl, gk_cat_rf, gk_catI, gk_catJ, gk_catD, gv_V, gv_I, gv_J, gv_D, gv_R]) (w_Am_isWithinWhole d a0 h r h1 e)
theorem d_Am_wholePart_0 : decode b_Am_wholePart 0 = .ok (.dload_n 0, 1) := by decide +kernel
theorem d_Am_wholePart_1 : decode b_Am_wholePart 1 = .ok (.invokestatic 88, 3) := by decide +kernel
theorem d_Am_wholePart_4 : decode b_Am_wholePart 4 = .ok (.ifCond .eq 9, 3) := by decide +kernel
theorem d_Am_wholePart_7 : decode b_Am_wholePart 7 = .ok (.dload_n 0, 1) := by decide +kernel
theorem d_Am_wholePart_8 : decode b_Am_wholePart 8 = .ok (.d2l, 1) := by decide +kernel
theorem d_Am_wholePart_9 : decode b_Am_wholePart 9 = .ok (.l2d, 1) := by decide +kernel
theorem d_Am_wholePart_10 : decode b_Am_wholePart 10 = .ok (.goto 4, 3) := by decide +kernel
theorem d_Am_wholePart_13 : decode b_Am_wholePart 13 = .ok (.dload_n 0, 1) := by decide +kernel
theorem d_Am_wholePart_14 : decode b_Am_wholePart 14 = .ok (.dreturn, 1) := by decide +kernel
theorem p_Am_wholePart_b14 (d : Nat)  (s0 : UInt64) (h : gk_H) : gk_P gw_D (d + 1) y_Am_wholePart b_Am_wholePart 2 (some .double) [] (f_Am_wholePart_b14  s0 h) 14 [] [.double s0] h := by
  unfold f_Am_wholePart_b14
  exact gk_dret (pc := 14) rfl d_Am_wholePart_14 rfl
theorem w_Am_wholePart (d : Nat) (a0 : UInt64) (h : gk_H) : gk_P gw_D (d + 1) y_Am_wholePart b_Am_wholePart 2 (some .double) [] (f_Am_wholePart a0 h) 0 [(0, .double a0)] [] h := by
  unfold f_Am_wholePart
  refine gk_dload_n (pc := 0) 0 d_Am_wholePart_0 rfl ?_
  refine gk_callS (pc := 1) (d := d) (w' := gv_I) (as := [.double a0]) (n := 1) d_Am_wholePart_1 rfl rfl (Nat.le_of_ble_eq_true rfl) tw_905 tw_906 tw_117 cw_Am_isWithinWhole hy_Am_isWithinWhole (Nat.le_of_ble_eq_true rfl) (p_Am_isWithinWhole d a0 h) fun x1 h1 => ?_
  refine gk_if_eq (pc := 4) 13 d_Am_wholePart_4 rfl (fun _ => ?_) (fun _ => ?_)
  · refine gk_dload_n (pc := 13) 0 d_Am_wholePart_13 rfl ?_
    refine gk_weak [] (L' := []) rfl ?_
    exact p_Am_wholePart_b14 d a0 h1
  · refine gk_dload_n (pc := 7) 0 d_Am_wholePart_7 rfl ?_
    refine gk_d2l (pc := 8) d_Am_wholePart_8 ?_
    refine gk_l2d (pc := 9) d_Am_wholePart_9 ?_
    refine gk_goto (pc := 10) 14 d_Am_wholePart_10 rfl ?_
    refine gk_weak [] (L' := []) rfl ?_
    exact p_Am_wholePart_b14 d (FP.l2d (FP.d2l a0)) h1
theorem p_Am_wholePart (d : Nat) (a0 : UInt64) (h : gk_H) : ∀ r h1, f_Am_wholePart a0 h = some (r, h1) → gk_M (d + 1) y_Am_wholePart b_Am_wholePart 2 (some .double) [.double a0] h (.inl (gv_D r)) h1 :=
  fun r h1 e => gk_M_of2 (by decide +kernel) (by simp [lv_args, gk_cat_rf, gk_catI, gk_catJ, gk_catD, gv_V, gv_I, gv_J, gv_D, gv_R]) (by simp [lg_sl, gk_cat_rf, gk_catI, gk_catJ, gk_catD, gv_V, gv_I, gv_J, gv_D, gv_R]) (w_Am_wholePart d a0 h r h1 e)
theorem d_Le_appendBackwards_0 : decode b_Le_appendBackwards 0 = .ok (.lload_n 1, 1) := by decide +kernel
theorem d_Le_appendBackwards_1 : decode b_Le_appendBackwards 1 = .ok (.lstore 4, 2) := by decide +kernel
theorem d_Le_appendBackwards_3 : decode b_Le_appendBackwards 3 = .ok (.iconst 0, 1) := by decide +kernel
theorem d_Le_appendBackwards_4 : decode b_Le_appendBackwards 4 = .ok (.istore 6, 2) := by decide +kernel
theorem d_Le_appendBackwards_6 : decode b_Le_appendBackwards 6 = .ok (.iload 6, 2) := by decide +kernel
theorem d_Le_appendBackwards_8 : decode b_Le_appendBackwards 8 = .ok (.bipush 19, 2) := by decide +kernel
theorem d_Le_appendBackwards_10 : decode b_Le_appendBackwards 10 = .ok (.if_icmp .ge 65, 3) := by decide +kernel
theorem d_Le_appendBackwards_13 : decode b_Le_appendBackwards 13 = .ok (.lload 4, 2) := by decide +kernel
theorem d_Le_appendBackwards_15 : decode b_Le_appendBackwards 15 = .ok (.lconst 0, 1) := by decide +kernel
theorem d_Le_appendBackwards_16 : decode b_Le_appendBackwards 16 = .ok (.lcmp, 1) := by decide +kernel
theorem d_Le_appendBackwards_17 : decode b_Le_appendBackwards 17 = .ok (.ifCond .gt 14, 3) := by decide +kernel
theorem d_Le_appendBackwards_20 : decode b_Le_appendBackwards 20 = .ok (.iload 6, 2) := by decide +kernel
theorem d_Le_appendBackwards_22 : decode b_Le_appendBackwards 22 = .ok (.iload_n 3, 1) := by decide +kernel
theorem d_Le_appendBackwards_23 : decode b_Le_appendBackwards 23 = .ok (.if_icmp .le 8, 3) := by decide +kernel
theorem d_Le_appendBackwards_26 : decode b_Le_appendBackwards 26 = .ok (.iload 6, 2) := by decide +kernel
theorem d_Le_appendBackwards_28 : decode b_Le_appendBackwards 28 = .ok (.ifCond .ne 47, 3) := by decide +kernel
theorem d_Le_appendBackwards_31 : decode b_Le_appendBackwards 31 = .ok (.iload 6, 2) := by decide +kernel
theorem d_Le_appendBackwards_33 : decode b_Le_appendBackwards 33 = .ok (.iload_n 3, 1) := by decide +kernel
theorem d_Le_appendBackwards_34 : decode b_Le_appendBackwards 34 = .ok (.if_icmp .ne 10, 3) := by decide +kernel
theorem d_Le_appendBackwards_37 : decode b_Le_appendBackwards 37 = .ok (.aload_n 0, 1) := by decide +kernel
theorem d_Le_appendBackwards_38 : decode b_Le_appendBackwards 38 = .ok (.bipush 46, 2) := by decide +kernel
theorem d_Le_appendBackwards_40 : decode b_Le_appendBackwards 40 = .ok (.invokevirtual 74, 3) := by decide +kernel
theorem d_Le_appendBackwards_43 : decode b_Le_appendBackwards 43 = .ok (.pop, 1) := by decide +kernel
theorem d_Le_appendBackwards_44 : decode b_Le_appendBackwards 44 = .ok (.aload_n 0, 1) := by decide +kernel
theorem d_Le_appendBackwards_45 : decode b_Le_appendBackwards 45 = .ok (.ldc2_w 90, 3) := by decide +kernel
theorem d_Le_appendBackwards_48 : decode b_Le_appendBackwards 48 = .ok (.lload 4, 2) := by decide +kernel
theorem d_Le_appendBackwards_50 : decode b_Le_appendBackwards 50 = .ok (.ldc2_w 39, 3) := by decide +kernel
theorem d_Le_appendBackwards_53 : decode b_Le_appendBackwards 53 = .ok (.lrem, 1) := by decide +kernel
theorem d_Le_appendBackwards_54 : decode b_Le_appendBackwards 54 = .ok (.ladd, 1) := by decide +kernel
theorem d_Le_appendBackwards_55 : decode b_Le_appendBackwards 55 = .ok (.l2i, 1) := by decide +kernel
theorem d_Le_appendBackwards_56 : decode b_Le_appendBackwards 56 = .ok (.i2c, 1) := by decide +kernel
theorem d_Le_appendBackwards_57 : decode b_Le_appendBackwards 57 = .ok (.invokevirtual 74, 3) := by decide +kernel
theorem d_Le_appendBackwards_60 : decode b_Le_appendBackwards 60 = .ok (.pop, 1) := by decide +kernel
theorem d_Le_appendBackwards_61 : decode b_Le_appendBackwards 61 = .ok (.lload 4, 2) := by decide +kernel
theorem d_Le_appendBackwards_63 : decode b_Le_appendBackwards 63 = .ok (.ldc2_w 39, 3) := by decide +kernel
theorem d_Le_appendBackwards_66 : decode b_Le_appendBackwards 66 = .ok (.ldiv, 1) := by decide +kernel
theorem d_Le_appendBackwards_67 : decode b_Le_appendBackwards 67 = .ok (.lstore 4, 2) := by decide +kernel
theorem d_Le_appendBackwards_69 : decode b_Le_appendBackwards 69 = .ok (.iinc 6 1, 3) := by decide +kernel
theorem d_Le_appendBackwards_72 : decode b_Le_appendBackwards 72 = .ok (.goto (-66), 3) := by decide +kernel
theorem d_Le_appendBackwards_75 : decode b_Le_appendBackwards 75 = .ok (.return_, 1) := by decide +kernel
theorem p_Le_appendBackwards_b75 (d : Nat)   (h : gk_H) : gk_P gw_V (d + 6) y_Le_appendBackwards b_Le_appendBackwards 7 none [] (f_Le_appendBackwards_b75   h) 75 [] [] h := by
  unfold f_Le_appendBackwards_b75
  exact gk_vret (pc := 75) rfl d_Le_appendBackwards_75 rfl
theorem p_Le_appendBackwards_b44 (d : Nat) (b6 : Option Nat → Int32 → Int64 → Int32 → gk_H → Option (Unit × gk_H)) (q6 : ∀ (v0 : Option Nat) (v3 : Int32) (v4 : Int64) (v6 : Int32) (h : gk_H), gk_P gw_V (d + 6) y_Le_appendBackwards b_Le_appendBackwards 7 none [] (b6 v0 v3 v4 v6 h) 6 [(0, va_rf v0), (3, .int v3), (4, .long v4), (6, .int v6)] [] h) (v0 : Option Nat) (v3 : Int32) (v4 : Int64) (v6 : Int32) (h : gk_H) : gk_P gw_V (d + 6) y_Le_appendBackwards b_Le_appendBackwards 7 none [] (f_Le_appendBackwards_b44 b6 v0 v3 v4 v6 h) 44 [(0, va_rf v0), (3, .int v3), (4, .long v4), (6, .int v6)] [] h := by
  unfold f_Le_appendBackwards_b44
  refine gk_aload_n (pc := 44) 0 d_Le_appendBackwards_44 rfl ?_
  refine gk_ldc2 (pc := 45) tw_914 d_Le_appendBackwards_45 ?_
  refine gk_lload (pc := 48) 2 d_Le_appendBackwards_48 rfl ?_
  refine gk_ldc2 (pc := 50) tw_831 d_Le_appendBackwards_50 ?_
  refine gk_lrem (pc := 53) (by decide) d_Le_appendBackwards_53 ?_
  refine gk_ladd (pc := 54) d_Le_appendBackwards_54 ?_
  refine gk_l2i (pc := 55) d_Le_appendBackwards_55 ?_
  refine gk_i2c (pc := 56) d_Le_appendBackwards_56 ?_
  refine gk_callV (pc := 57) (d := (d + 5)) (w' := gv_R) (as := [.int (UInt32.toInt32 (Int32.toUInt32 (Int64.toInt32 ((48 : Int64) + (v4 - v4 / (10 : Int64) * (10 : Int64)))) % 65536))]) (n := 1) 1 d_Le_appendBackwards_57 rfl rfl rfl rfl (Nat.le_of_ble_eq_true rfl) tw_913 tw_430 tw_431 tw_93 cw_SB_append_C hy_SB_append_C (Nat.le_of_ble_eq_true rfl) (p_SB_append_C d v0 (UInt32.toInt32 (Int32.toUInt32 (Int64.toInt32 ((48 : Int64) + (v4 - v4 / (10 : Int64) * (10 : Int64)))) % 65536)) h) fun x1 h1 => ?_
  refine gk_pop (pc := 60) d_Le_appendBackwards_60 (gk_cat_rf _) ?_
  refine gk_lload (pc := 61) 2 d_Le_appendBackwards_61 rfl ?_
  refine gk_ldc2 (pc := 63) tw_831 d_Le_appendBackwards_63 ?_
  refine gk_ldiv (pc := 66) (by decide) d_Le_appendBackwards_66 ?_
  refine gk_topJ (pc := 67) fun x2 => ?_
  refine gk_lstore (pc := 67) (L' := [(4, .long x2), (0, va_rf v0), (3, .int v3), (6, .int v6)]) d_Le_appendBackwards_67 (Nat.le_of_ble_eq_true rfl) rfl ?_
  refine gk_iincN (pc := 69) 3 (1 : Int32) (L' := fun x3 => [(6, .int x3), (4, .long x2), (0, va_rf v0), (3, .int v3)]) d_Le_appendBackwards_69 rfl rfl (Nat.le_of_ble_eq_true rfl) (fun _ => rfl) fun x3 => ?_
  refine gk_goto (pc := 72) 6 d_Le_appendBackwards_72 rfl ?_
  refine gk_weak [2, 3, 1, 0] (L' := [(0, va_rf v0), (3, .int v3), (4, .long x2), (6, .int x3)]) rfl ?_
  exact q6 v0 v3 x2 x3 h1
theorem p_Le_appendBackwards_b31 (d : Nat) (b6 : Option Nat → Int32 → Int64 → Int32 → gk_H → Option (Unit × gk_H)) (q6 : ∀ (v0 : Option Nat) (v3 : Int32) (v4 : Int64) (v6 : Int32) (h : gk_H), gk_P gw_V (d + 6) y_Le_appendBackwards b_Le_appendBackwards 7 none [] (b6 v0 v3 v4 v6 h) 6 [(0, va_rf v0), (3, .int v3), (4, .long v4), (6, .int v6)] [] h) (v0 : Option Nat) (v3 : Int32) (v4 : Int64) (v6 : Int32) (h : gk_H) : gk_P gw_V (d + 6) y_Le_appendBackwards b_Le_appendBackwards 7 none [] (f_Le_appendBackwards_b31 b6 v0 v3 v4 v6 h) 31 [(0, va_rf v0), (3, .int v3), (4, .long v4), (6, .int v6)] [] h := by
  unfold f_Le_appendBackwards_b31
  refine gk_iload (pc := 31) 3 d_Le_appendBackwards_31 rfl ?_
  refine gk_iload_n (pc := 33) 1 d_Le_appendBackwards_33 rfl ?_
  refine gk_icmp_ne (pc := 34) 44 d_Le_appendBackwards_34 rfl (fun _ => ?_) (fun _ => ?_)
  · refine gk_aload_n (pc := 37) 0 d_Le_appendBackwards_37 rfl ?_
    refine gk_bipush (pc := 38) (46 : Int32) d_Le_appendBackwards_38 rfl ?_
    refine gk_callV (pc := 40) (d := (d + 5)) (w' := gv_R) (as := [.int (46 : Int32)]) (n := 1) 1 d_Le_appendBackwards_40 rfl rfl rfl rfl (Nat.le_of_ble_eq_true rfl) tw_913 tw_430 tw_431 tw_93 cw_SB_append_C hy_SB_append_C (Nat.le_of_ble_eq_true rfl) (p_SB_append_C d v0 (46 : Int32) h) fun x1 h1 => ?_
    refine gk_pop (pc := 43) d_Le_appendBackwards_43 (gk_cat_rf _) ?_
    exact p_Le_appendBackwards_b44 d b6 q6 v0 v3 v4 v6 h1
  · exact p_Le_appendBackwards_b44 d b6 q6 v0 v3 v4 v6 h
theorem p_Le_appendBackwards_b6 (d : Nat)  : ∀ (fu : Nat) (v0 : Option Nat) (v3 : Int32) (v4 : Int64) (v6 : Int32) (h : gk_H), gk_P gw_V (d + 6) y_Le_appendBackwards b_Le_appendBackwards 7 none [] (f_Le_appendBackwards_b6  fu v0 v3 v4 v6 h) 6 [(0, va_rf v0), (3, .int v3), (4, .long v4), (6, .int v6)] [] h := by
  intro fu
  induction fu with
  | zero => intros; exact gk_none
  | succ fu q6 =>
    intro v0 v3 v4 v6 h
    rw [f_Le_appendBackwards_b6]
    refine gk_iload (pc := 6) 3 d_Le_appendBackwards_6 rfl ?_
    refine gk_bipush (pc := 8) (19 : Int32) d_Le_appendBackwards_8 rfl ?_
    refine gk_icmp_ge (pc := 10) 75 d_Le_appendBackwards_10 rfl (fun _ => ?_) (fun _ => ?_)
    · refine gk_weak [] (L' := []) rfl ?_
      exact p_Le_appendBackwards_b75 d h
    · refine gk_lload (pc := 13) 2 d_Le_appendBackwards_13 rfl ?_
      refine gk_lconst (pc := 15) (0 : Int64) d_Le_appendBackwards_15 rfl ?_
      refine gk_lcmp (pc := 16) d_Le_appendBackwards_16 ?_
      refine gk_if_gt (pc := 17) 31 d_Le_appendBackwards_17 rfl (fun _ => ?_) (fun _ => ?_)
      · exact p_Le_appendBackwards_b31 d (f_Le_appendBackwards_b6 fu) q6 v0 v3 v4 v6 h
      · refine gk_iload (pc := 20) 3 d_Le_appendBackwards_20 rfl ?_
        refine gk_iload_n (pc := 22) 1 d_Le_appendBackwards_22 rfl ?_
        refine gk_icmp_le (pc := 23) 31 d_Le_appendBackwards_23 rfl (fun _ => ?_) (fun _ => ?_)
        · exact p_Le_appendBackwards_b31 d (f_Le_appendBackwards_b6 fu) q6 v0 v3 v4 v6 h
        · refine gk_iload (pc := 26) 3 d_Le_appendBackwards_26 rfl ?_
          refine gk_if_ne (pc := 28) 75 d_Le_appendBackwards_28 rfl (fun _ => ?_) (fun _ => ?_)
          · exact p_Le_appendBackwards_b31 d (f_Le_appendBackwards_b6 fu) q6 v0 v3 v4 v6 h
          · refine gk_weak [] (L' := []) rfl ?_
            exact p_Le_appendBackwards_b75 d h
theorem w_Le_appendBackwards (d : Nat) (a0 : Option Nat) (a1 : Int64) (a2 : Int32) (h : gk_H) : gk_P gw_V (d + 6) y_Le_appendBackwards b_Le_appendBackwards 7 none [] (f_Le_appendBackwards a0 a1 a2 h) 0 [(0, va_rf a0), (1, .long a1), (3, .int a2)] [] h := by
  unfold f_Le_appendBackwards
  refine gk_lload_n (pc := 0) 1 d_Le_appendBackwards_0 rfl ?_
  refine gk_lstore (pc := 1) (L' := [(4, .long a1), (0, va_rf a0), (1, .long a1), (3, .int a2)]) d_Le_appendBackwards_1 (Nat.le_of_ble_eq_true rfl) rfl ?_
  refine gk_iconst (pc := 3) (0 : Int32) d_Le_appendBackwards_3 rfl ?_
  refine gk_istore (pc := 4) (L' := [(6, .int (0 : Int32)), (4, .long a1), (0, va_rf a0), (1, .long a1), (3, .int a2)]) d_Le_appendBackwards_4 (Nat.le_of_ble_eq_true rfl) rfl ?_
  refine gk_weak [2, 4, 1, 0] (L' := [(0, va_rf a0), (3, .int a2), (4, .long a1), (6, .int (0 : Int32))]) rfl ?_
  exact p_Le_appendBackwards_b6 d gk_F a0 a2 a1 (0 : Int32) h
theorem p_Le_appendBackwards (d : Nat) (a0 : Option Nat) (a1 : Int64) (a2 : Int32) (h : gk_H) : ∀ r h1, f_Le_appendBackwards a0 a1 a2 h = some (r, h1) → gk_M (d + 6) y_Le_appendBackwards b_Le_appendBackwards 7 none [va_rf a0, .long a1, .int a2] h (.inl (gv_V r)) h1 :=
  fun r h1 e => gk_M_of2 (by decide +kernel) (by simp [lv_args, gk_cat_rf, gk_catI, gk_catJ, gk_catD, gv_V, gv_I, gv_J, gv_D, gv_R]) (by simp [lg_sl, gk_cat_rf, gk_catI, gk_catJ, gk_catD, gv_V, gv_I, gv_J, gv_D, gv_R]) (w_Le_appendBackwards d a0 a1 a2 h r h1 e)
