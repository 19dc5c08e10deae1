theorem d_Le_leaveOutZeros_0 : decode b_Le_leaveOutZeros 0 = .ok (.aload_n 0, 1) := by decide +kernel
theorem d_Le_leaveOutZeros_1 : decode b_Le_leaveOutZeros 1 = .ok (.invokevirtual 92, 3) := by decide +kernel
theorem d_Le_leaveOutZeros_4 : decode b_Le_leaveOutZeros 4 = .ok (.istore_n 1, 1) := by decide +kernel
theorem d_Le_leaveOutZeros_5 : decode b_Le_leaveOutZeros 5 = .ok (.iload_n 1, 1) := by decide +kernel
theorem d_Le_leaveOutZeros_6 : decode b_Le_leaveOutZeros 6 = .ok (.iconst 1, 1) := by decide +kernel
theorem d_Le_leaveOutZeros_7 : decode b_Le_leaveOutZeros 7 = .ok (.if_icmp .le 21, 3) := by decide +kernel
theorem d_Le_leaveOutZeros_10 : decode b_Le_leaveOutZeros 10 = .ok (.aload_n 0, 1) := by decide +kernel
theorem d_Le_leaveOutZeros_11 : decode b_Le_leaveOutZeros 11 = .ok (.iload_n 1, 1) := by decide +kernel
theorem d_Le_leaveOutZeros_12 : decode b_Le_leaveOutZeros 12 = .ok (.iconst 1, 1) := by decide +kernel
theorem d_Le_leaveOutZeros_13 : decode b_Le_leaveOutZeros 13 = .ok (.isub, 1) := by decide +kernel
theorem d_Le_leaveOutZeros_14 : decode b_Le_leaveOutZeros 14 = .ok (.invokevirtual 93, 3) := by decide +kernel
theorem d_Le_leaveOutZeros_17 : decode b_Le_leaveOutZeros 17 = .ok (.bipush 48, 2) := by decide +kernel
theorem d_Le_leaveOutZeros_19 : decode b_Le_leaveOutZeros 19 = .ok (.if_icmp .ne 9, 3) := by decide +kernel
theorem d_Le_leaveOutZeros_22 : decode b_Le_leaveOutZeros 22 = .ok (.iinc 1 (-1), 3) := by decide +kernel
theorem d_Le_leaveOutZeros_25 : decode b_Le_leaveOutZeros 25 = .ok (.goto (-20), 3) := by decide +kernel
theorem d_Le_leaveOutZeros_28 : decode b_Le_leaveOutZeros 28 = .ok (.iload_n 1, 1) := by decide +kernel
theorem d_Le_leaveOutZeros_29 : decode b_Le_leaveOutZeros 29 = .ok (.iconst 1, 1) := by decide +kernel
theorem d_Le_leaveOutZeros_30 : decode b_Le_leaveOutZeros 30 = .ok (.if_icmp .le 18, 3) := by decide +kernel
theorem d_Le_leaveOutZeros_33 : decode b_Le_leaveOutZeros 33 = .ok (.aload_n 0, 1) := by decide +kernel
theorem d_Le_leaveOutZeros_34 : decode b_Le_leaveOutZeros 34 = .ok (.iload_n 1, 1) := by decide +kernel
theorem d_Le_leaveOutZeros_35 : decode b_Le_leaveOutZeros 35 = .ok (.iconst 1, 1) := by decide +kernel
theorem d_Le_leaveOutZeros_36 : decode b_Le_leaveOutZeros 36 = .ok (.isub, 1) := by decide +kernel
theorem d_Le_leaveOutZeros_37 : decode b_Le_leaveOutZeros 37 = .ok (.invokevirtual 93, 3) := by decide +kernel
theorem d_Le_leaveOutZeros_40 : decode b_Le_leaveOutZeros 40 = .ok (.bipush 46, 2) := by decide +kernel
theorem d_Le_leaveOutZeros_42 : decode b_Le_leaveOutZeros 42 = .ok (.if_icmp .ne 6, 3) := by decide +kernel
theorem d_Le_leaveOutZeros_45 : decode b_Le_leaveOutZeros 45 = .ok (.iinc 1 (-1), 3) := by decide +kernel
theorem d_Le_leaveOutZeros_48 : decode b_Le_leaveOutZeros 48 = .ok (.aload_n 0, 1) := by decide +kernel
theorem d_Le_leaveOutZeros_49 : decode b_Le_leaveOutZeros 49 = .ok (.iload_n 1, 1) := by decide +kernel
theorem d_Le_leaveOutZeros_50 : decode b_Le_leaveOutZeros 50 = .ok (.invokevirtual 94, 3) := by decide +kernel
theorem d_Le_leaveOutZeros_53 : decode b_Le_leaveOutZeros 53 = .ok (.return_, 1) := by decide +kernel
theorem p_Le_leaveOutZeros_b48 (d : Nat)  (v0 : Option Nat) (v1 : Int32) (h : gk_H) : gk_P gw_V (d + 6) y_Le_leaveOutZeros b_Le_leaveOutZeros 2 none [] (f_Le_leaveOutZeros_b48  v0 v1 h) 48 [(0, va_rf v0), (1, .int v1)] [] h := by
  unfold f_Le_leaveOutZeros_b48
  refine gk_aload_n (pc := 48) 0 d_Le_leaveOutZeros_48 rfl ?_
  refine gk_iload_n (pc := 49) 1 d_Le_leaveOutZeros_49 rfl ?_
  refine gk_callV (pc := 50) (d := (d + 5)) (w' := gv_V) (as := [.int v1]) (n := 1) 1 d_Le_leaveOutZeros_50 rfl rfl rfl rfl (Nat.le_of_ble_eq_true rfl) tw_962 tw_667 tw_668 tw_93 cw_SB_setLength hy_SB_setLength (Nat.le_of_ble_eq_true rfl) (p_SB_setLength d v0 v1 h) fun _ h1 => ?_
  exact gk_vret (pc := 53) rfl d_Le_leaveOutZeros_53 rfl
theorem p_Le_leaveOutZeros_b28 (d : Nat)  (v0 : Option Nat) (v1 : Int32) (h : gk_H) : gk_P gw_V (d + 6) y_Le_leaveOutZeros b_Le_leaveOutZeros 2 none [] (f_Le_leaveOutZeros_b28  v0 v1 h) 28 [(0, va_rf v0), (1, .int v1)] [] h := by
  unfold f_Le_leaveOutZeros_b28
  refine gk_iload_n (pc := 28) 1 d_Le_leaveOutZeros_28 rfl ?_
  refine gk_iconst (pc := 29) (1 : Int32) d_Le_leaveOutZeros_29 rfl ?_
  refine gk_icmp_le (pc := 30) 48 d_Le_leaveOutZeros_30 rfl (fun _ => ?_) (fun _ => ?_)
  · exact p_Le_leaveOutZeros_b48 d v0 v1 h
  · refine gk_aload_n (pc := 33) 0 d_Le_leaveOutZeros_33 rfl ?_
    refine gk_iload_n (pc := 34) 1 d_Le_leaveOutZeros_34 rfl ?_
    refine gk_iconst (pc := 35) (1 : Int32) d_Le_leaveOutZeros_35 rfl ?_
    refine gk_isub (pc := 36) d_Le_leaveOutZeros_36 ?_
    refine gk_callV (pc := 37) (d := (d + 5)) (w' := gv_I) (as := [.int (v1 - (1 : Int32))]) (n := 1) 1 d_Le_leaveOutZeros_37 rfl rfl rfl rfl (Nat.le_of_ble_eq_true rfl) tw_952 tw_953 tw_954 tw_93 cw_SB_charAt hy_SB_charAt (Nat.le_of_ble_eq_true rfl) (p_SB_charAt (d + 2) v0 (v1 - (1 : Int32)) h) fun x1 h1 => ?_
    refine gk_bipush (pc := 40) (46 : Int32) d_Le_leaveOutZeros_40 rfl ?_
    refine gk_icmp_ne (pc := 42) 48 d_Le_leaveOutZeros_42 rfl (fun _ => ?_) (fun _ => ?_)
    · refine gk_iincN (pc := 45) 1 (-1 : Int32) (L' := fun x2 => [(1, .int x2), (0, va_rf v0)]) d_Le_leaveOutZeros_45 rfl rfl (Nat.le_of_ble_eq_true rfl) (fun _ => by simp [gk_s1, gk_cat_rf, gk_catI, gk_catJ, gk_catD] <;> decide) fun x2 => ?_
      refine gk_weak [1, 0] (L' := [(0, va_rf v0), (1, .int x2)]) rfl ?_
      exact p_Le_leaveOutZeros_b48 d v0 x2 h1
    · exact p_Le_leaveOutZeros_b48 d v0 v1 h1
theorem p_Le_leaveOutZeros_b5 (d : Nat)  : ∀ (fu : Nat) (v0 : Option Nat) (v1 : Int32) (h : gk_H), gk_P gw_V (d + 6) y_Le_leaveOutZeros b_Le_leaveOutZeros 2 none [] (f_Le_leaveOutZeros_b5  fu v0 v1 h) 5 [(0, va_rf v0), (1, .int v1)] [] h := by
  intro fu
  induction fu with
  | zero => intros; exact gk_none
  | succ fu q5 =>
    intro v0 v1 h
    rw [f_Le_leaveOutZeros_b5]
    refine gk_iload_n (pc := 5) 1 d_Le_leaveOutZeros_5 rfl ?_
    refine gk_iconst (pc := 6) (1 : Int32) d_Le_leaveOutZeros_6 rfl ?_
    refine gk_icmp_le (pc := 7) 28 d_Le_leaveOutZeros_7 rfl (fun _ => ?_) (fun _ => ?_)
    · exact p_Le_leaveOutZeros_b28 d v0 v1 h
    · refine gk_aload_n (pc := 10) 0 d_Le_leaveOutZeros_10 rfl ?_
      refine gk_iload_n (pc := 11) 1 d_Le_leaveOutZeros_11 rfl ?_
      refine gk_iconst (pc := 12) (1 : Int32) d_Le_leaveOutZeros_12 rfl ?_
      refine gk_isub (pc := 13) d_Le_leaveOutZeros_13 ?_
      refine gk_callV (pc := 14) (d := (d + 5)) (w' := gv_I) (as := [.int (v1 - (1 : Int32))]) (n := 1) 1 d_Le_leaveOutZeros_14 rfl rfl rfl rfl (Nat.le_of_ble_eq_true rfl) tw_952 tw_953 tw_954 tw_93 cw_SB_charAt hy_SB_charAt (Nat.le_of_ble_eq_true rfl) (p_SB_charAt (d + 2) v0 (v1 - (1 : Int32)) h) fun x1 h1 => ?_
      refine gk_bipush (pc := 17) (48 : Int32) d_Le_leaveOutZeros_17 rfl ?_
      refine gk_icmp_ne (pc := 19) 28 d_Le_leaveOutZeros_19 rfl (fun _ => ?_) (fun _ => ?_)
      · refine gk_iincN (pc := 22) 1 (-1 : Int32) (L' := fun x2 => [(1, .int x2), (0, va_rf v0)]) d_Le_leaveOutZeros_22 rfl rfl (Nat.le_of_ble_eq_true rfl) (fun _ => by simp [gk_s1, gk_cat_rf, gk_catI, gk_catJ, gk_catD] <;> decide) fun x2 => ?_
        refine gk_goto (pc := 25) 5 d_Le_leaveOutZeros_25 rfl ?_
        refine gk_weak [1, 0] (L' := [(0, va_rf v0), (1, .int x2)]) rfl ?_
        exact q5 v0 x2 h1
      · exact p_Le_leaveOutZeros_b28 d v0 v1 h1
theorem w_Le_leaveOutZeros (d : Nat) (a0 : Option Nat) (h : gk_H) : gk_P gw_V (d + 6) y_Le_leaveOutZeros b_Le_leaveOutZeros 2 none [] (f_Le_leaveOutZeros a0 h) 0 [(0, va_rf a0)] [] h := by
  unfold f_Le_leaveOutZeros
  refine gk_aload_n (pc := 0) 0 d_Le_leaveOutZeros_0 rfl ?_
  refine gk_callV (pc := 1) (d := (d + 5)) (w' := gv_I) (as := []) (n := 0) 1 d_Le_leaveOutZeros_1 rfl rfl rfl rfl (Nat.le_of_ble_eq_true rfl) tw_951 tw_422 tw_423 tw_93 cw_SB_length hy_SB_length (Nat.le_of_ble_eq_true rfl) (p_SB_length (d + 4) a0 h) fun x1 h1 => ?_
  refine gk_istore_n (pc := 4) (L' := [(1, .int x1), (0, va_rf a0)]) d_Le_leaveOutZeros_4 (Nat.le_of_ble_eq_true rfl) (by simp [gk_s1, gk_s2, gk_cat_rf, gk_catI, gk_catJ, gk_catD] <;> decide) ?_
  refine gk_weak [1, 0] (L' := [(0, va_rf a0), (1, .int x1)]) rfl ?_
  exact p_Le_leaveOutZeros_b5 d gk_F a0 x1 h1
theorem p_Le_leaveOutZeros (d : Nat) (a0 : Option Nat) (h : gk_H) : ∀ r h1, f_Le_leaveOutZeros a0 h = some (r, h1) → gk_M (d + 6) y_Le_leaveOutZeros b_Le_leaveOutZeros 2 none [va_rf a0] h (.inl (gv_V r)) h1 :=
  fun r h1 e => gk_M_of2 (by decide +kernel) (by simp [lv_args, gk_cat_rf, gk_catI, gk_catJ, gk_catD, gv_V, gv_I, gv_J, gv_D, gv_R]) (by simp [lg_sl, gk_cat_rf, gk_catI, gk_catJ, gk_catD, gv_V, gv_I, gv_J, gv_D, gv_R]) (w_Le_leaveOutZeros d a0 h r h1 e)
theorem d_Le_written_0 : decode b_Le_written 0 = .ok (.new 57, 3) := by decide +kernel
theorem d_Le_written_3 : decode b_Le_written 3 = .ok (.dup, 1) := by decide +kernel
theorem d_Le_written_4 : decode b_Le_written 4 = .ok (.invokespecial 59, 3) := by decide +kernel
theorem d_Le_written_7 : decode b_Le_written 7 = .ok (.astore_n 2, 1) := by decide +kernel
theorem d_Le_written_8 : decode b_Le_written 8 = .ok (.dload_n 0, 1) := by decide +kernel
theorem d_Le_written_9 : decode b_Le_written 9 = .ok (.dconst 0, 1) := by decide +kernel
theorem d_Le_written_10 : decode b_Le_written 10 = .ok (.dcmp .g, 1) := by decide +kernel
theorem d_Le_written_11 : decode b_Le_written 11 = .ok (.ifCond .ge 9, 3) := by decide +kernel
theorem d_Le_written_14 : decode b_Le_written 14 = .ok (.dconst 0, 1) := by decide +kernel
theorem d_Le_written_15 : decode b_Le_written 15 = .ok (.dload_n 0, 1) := by decide +kernel
theorem d_Le_written_16 : decode b_Le_written 16 = .ok (.dsub, 1) := by decide +kernel
theorem d_Le_written_17 : decode b_Le_written 17 = .ok (.goto 4, 3) := by decide +kernel
theorem d_Le_written_20 : decode b_Le_written 20 = .ok (.dload_n 0, 1) := by decide +kernel
theorem d_Le_written_21 : decode b_Le_written 21 = .ok (.dstore_n 3, 1) := by decide +kernel
theorem d_Le_written_22 : decode b_Le_written 22 = .ok (.dload_n 3, 1) := by decide +kernel
theorem d_Le_written_23 : decode b_Le_written 23 = .ok (.dload_n 3, 1) := by decide +kernel
theorem d_Le_written_24 : decode b_Le_written 24 = .ok (.invokestatic 60, 3) := by decide +kernel
theorem d_Le_written_27 : decode b_Le_written 27 = .ok (.dcmp .l, 1) := by decide +kernel
theorem d_Le_written_28 : decode b_Le_written 28 = .ok (.ifCond .ne 13, 3) := by decide +kernel
theorem d_Le_written_31 : decode b_Le_written 31 = .ok (.aload_n 2, 1) := by decide +kernel
theorem d_Le_written_32 : decode b_Le_written 32 = .ok (.dload_n 3, 1) := by decide +kernel
theorem d_Le_written_33 : decode b_Le_written 33 = .ok (.d2l, 1) := by decide +kernel
theorem d_Le_written_34 : decode b_Le_written 34 = .ok (.iconst (-1), 1) := by decide +kernel
theorem d_Le_written_35 : decode b_Le_written 35 = .ok (.invokestatic 64, 3) := by decide +kernel
theorem d_Le_written_38 : decode b_Le_written 38 = .ok (.goto 41, 3) := by decide +kernel
theorem d_Le_written_41 : decode b_Le_written 41 = .ok (.dload_n 3, 1) := by decide +kernel
theorem d_Le_written_42 : decode b_Le_written 42 = .ok (.ldc2_w 68, 3) := by decide +kernel
theorem d_Le_written_45 : decode b_Le_written 45 = .ok (.dcmp .g, 1) := by decide +kernel
theorem d_Le_written_46 : decode b_Le_written 46 = .ok (.ifCond .ge 22, 3) := by decide +kernel
theorem d_Le_written_49 : decode b_Le_written 49 = .ok (.aload_n 2, 1) := by decide +kernel
theorem d_Le_written_50 : decode b_Le_written 50 = .ok (.dload_n 3, 1) := by decide +kernel
theorem d_Le_written_51 : decode b_Le_written 51 = .ok (.ldc2_w 70, 3) := by decide +kernel
theorem d_Le_written_54 : decode b_Le_written 54 = .ok (.dmul, 1) := by decide +kernel
theorem d_Le_written_55 : decode b_Le_written 55 = .ok (.ldc2_w 72, 3) := by decide +kernel
theorem d_Le_written_58 : decode b_Le_written 58 = .ok (.dadd, 1) := by decide +kernel
theorem d_Le_written_59 : decode b_Le_written 59 = .ok (.d2l, 1) := by decide +kernel
theorem d_Le_written_60 : decode b_Le_written 60 = .ok (.bipush 9, 2) := by decide +kernel
theorem d_Le_written_62 : decode b_Le_written 62 = .ok (.invokestatic 64, 3) := by decide +kernel
theorem d_Le_written_65 : decode b_Le_written 65 = .ok (.goto 14, 3) := by decide +kernel
theorem d_Le_written_68 : decode b_Le_written 68 = .ok (.aload_n 2, 1) := by decide +kernel
theorem d_Le_written_69 : decode b_Le_written 69 = .ok (.dload_n 3, 1) := by decide +kernel
theorem d_Le_written_70 : decode b_Le_written 70 = .ok (.ldc2_w 72, 3) := by decide +kernel
theorem d_Le_written_73 : decode b_Le_written 73 = .ok (.dadd, 1) := by decide +kernel
theorem d_Le_written_74 : decode b_Le_written 74 = .ok (.d2l, 1) := by decide +kernel
theorem d_Le_written_75 : decode b_Le_written 75 = .ok (.iconst (-1), 1) := by decide +kernel
theorem d_Le_written_76 : decode b_Le_written 76 = .ok (.invokestatic 64, 3) := by decide +kernel
theorem d_Le_written_79 : decode b_Le_written 79 = .ok (.dload_n 0, 1) := by decide +kernel
theorem d_Le_written_80 : decode b_Le_written 80 = .ok (.dconst 0, 1) := by decide +kernel
theorem d_Le_written_81 : decode b_Le_written 81 = .ok (.dcmp .g, 1) := by decide +kernel
theorem d_Le_written_82 : decode b_Le_written 82 = .ok (.ifCond .ge 10, 3) := by decide +kernel
theorem d_Le_written_85 : decode b_Le_written 85 = .ok (.aload_n 2, 1) := by decide +kernel
theorem d_Le_written_86 : decode b_Le_written 86 = .ok (.bipush 45, 2) := by decide +kernel
theorem d_Le_written_88 : decode b_Le_written 88 = .ok (.invokevirtual 74, 3) := by decide +kernel
theorem d_Le_written_91 : decode b_Le_written 91 = .ok (.pop, 1) := by decide +kernel
theorem d_Le_written_92 : decode b_Le_written 92 = .ok (.aload_n 2, 1) := by decide +kernel
theorem d_Le_written_93 : decode b_Le_written 93 = .ok (.invokevirtual 78, 3) := by decide +kernel
theorem d_Le_written_96 : decode b_Le_written 96 = .ok (.pop, 1) := by decide +kernel
theorem d_Le_written_97 : decode b_Le_written 97 = .ok (.dload_n 3, 1) := by decide +kernel
theorem d_Le_written_98 : decode b_Le_written 98 = .ok (.dload_n 3, 1) := by decide +kernel
theorem d_Le_written_99 : decode b_Le_written 99 = .ok (.invokestatic 60, 3) := by decide +kernel
theorem d_Le_written_102 : decode b_Le_written 102 = .ok (.dcmp .l, 1) := by decide +kernel
theorem d_Le_written_103 : decode b_Le_written 103 = .ok (.ifCond .eq 15, 3) := by decide +kernel
theorem d_Le_written_106 : decode b_Le_written 106 = .ok (.dload_n 3, 1) := by decide +kernel
theorem d_Le_written_107 : decode b_Le_written 107 = .ok (.ldc2_w 68, 3) := by decide +kernel
theorem d_Le_written_110 : decode b_Le_written 110 = .ok (.dcmp .g, 1) := by decide +kernel
theorem d_Le_written_111 : decode b_Le_written 111 = .ok (.ifCond .ge 7, 3) := by decide +kernel
theorem d_Le_written_114 : decode b_Le_written 114 = .ok (.aload_n 2, 1) := by decide +kernel
theorem d_Le_written_115 : decode b_Le_written 115 = .ok (.invokestatic 82, 3) := by decide +kernel
theorem d_Le_written_118 : decode b_Le_written 118 = .ok (.aload_n 2, 1) := by decide +kernel
theorem d_Le_written_119 : decode b_Le_written 119 = .ok (.invokevirtual 86, 3) := by decide +kernel
theorem d_Le_written_122 : decode b_Le_written 122 = .ok (.areturn, 1) := by decide +kernel
theorem p_Le_written_b118 (d : Nat)  (v2 : Option Nat) (h : gk_H) : gk_P gw_R (d + 7) y_Le_written b_Le_written 5 (some (.object "java/lang/String")) [] (f_Le_written_b118  v2 h) 118 [(2, va_rf v2)] [] h := by
  unfold f_Le_written_b118
  refine gk_aload_n (pc := 118) 0 d_Le_written_118 rfl ?_
  refine gk_callV (pc := 119) (d := (d + 6)) (w' := gv_R) (as := []) (n := 0) 1 d_Le_written_119 rfl rfl rfl rfl (Nat.le_of_ble_eq_true rfl) tw_963 tw_532 tw_533 tw_93 cw_SB_toString hy_SB_toString (Nat.le_of_ble_eq_true rfl) (p_SB_toString (d + 1) v2 h) fun x1 h1 => ?_
  exact gk_aret (pc := 122) rfl d_Le_written_122 rfl (Or.inl ⟨_, rfl⟩)
theorem p_Le_written_b92 (d : Nat)  (v2 : Option Nat) (v3 : UInt64) (h : gk_H) : gk_P gw_R (d + 7) y_Le_written b_Le_written 5 (some (.object "java/lang/String")) [] (f_Le_written_b92  v2 v3 h) 92 [(2, va_rf v2), (3, .double v3)] [] h := by
  unfold f_Le_written_b92
  refine gk_aload_n (pc := 92) 0 d_Le_written_92 rfl ?_
  refine gk_callV (pc := 93) (d := (d + 6)) (w' := gv_R) (as := []) (n := 0) 1 d_Le_written_93 rfl rfl rfl rfl (Nat.le_of_ble_eq_true rfl) tw_918 tw_919 tw_920 tw_93 cw_SB_reverse hy_SB_reverse (Nat.le_of_ble_eq_true rfl) (p_SB_reverse (d + 4) v2 h) fun x1 h1 => ?_
  refine gk_pop (pc := 96) d_Le_written_96 (gk_cat_rf _) ?_
  refine gk_dload_n (pc := 97) 1 d_Le_written_97 rfl ?_
  refine gk_dload_n (pc := 98) 1 d_Le_written_98 rfl ?_
  refine gk_callS (pc := 99) (d := (d + 6)) (w' := gv_D) (as := [.double v3]) (n := 1) d_Le_written_99 rfl rfl (Nat.le_of_ble_eq_true rfl) tw_902 tw_903 tw_117 cw_Am_wholePart hy_Am_wholePart (Nat.le_of_ble_eq_true rfl) (p_Am_wholePart (d + 5) v3 h1) fun x2 h2 => ?_
  refine gk_dcmp (pc := 102) d_Le_written_102 ?_
  refine gk_if_eq (pc := 103) 118 d_Le_written_103 rfl (fun _ => ?_) (fun _ => ?_)
  · refine gk_weak [0] (L' := [(2, va_rf v2)]) rfl ?_
    exact p_Le_written_b118 d v2 h2
  · refine gk_dload_n (pc := 106) 1 d_Le_written_106 rfl ?_
    refine gk_ldc2d (pc := 107) tw_915 d_Le_written_107 ?_
    refine gk_dcmp (pc := 110) d_Le_written_110 ?_
    refine gk_if_ge (pc := 111) 118 d_Le_written_111 rfl (fun _ => ?_) (fun _ => ?_)
    · refine gk_weak [0] (L' := [(2, va_rf v2)]) rfl ?_
      exact p_Le_written_b118 d v2 h2
    · refine gk_aload_n (pc := 114) 0 d_Le_written_114 rfl ?_
      refine gk_callS (pc := 115) (d := (d + 6)) (w' := gv_V) (as := [va_rf v2]) (n := 1) d_Le_written_115 rfl rfl (Nat.le_of_ble_eq_true rfl) tw_948 tw_949 tw_116 cw_Le_leaveOutZeros hy_Le_leaveOutZeros (Nat.le_of_ble_eq_true rfl) (p_Le_leaveOutZeros d v2 h2) fun _ h3 => ?_
      refine gk_weak [0] (L' := [(2, va_rf v2)]) rfl ?_
      exact p_Le_written_b118 d v2 h3
theorem p_Le_written_b79 (d : Nat)  (v0 : UInt64) (v2 : Option Nat) (v3 : UInt64) (h : gk_H) : gk_P gw_R (d + 7) y_Le_written b_Le_written 5 (some (.object "java/lang/String")) [] (f_Le_written_b79  v0 v2 v3 h) 79 [(0, .double v0), (2, va_rf v2), (3, .double v3)] [] h := by
  unfold f_Le_written_b79
  refine gk_dload_n (pc := 79) 0 d_Le_written_79 rfl ?_
  refine gk_dconst0 (pc := 80) d_Le_written_80 ?_
  refine gk_dcmp (pc := 81) d_Le_written_81 ?_
  refine gk_if_ge (pc := 82) 92 d_Le_written_82 rfl (fun _ => ?_) (fun _ => ?_)
  · refine gk_weak [1, 2] (L' := [(2, va_rf v2), (3, .double v3)]) rfl ?_
    exact p_Le_written_b92 d v2 v3 h
  · refine gk_aload_n (pc := 85) 1 d_Le_written_85 rfl ?_
    refine gk_bipush (pc := 86) (45 : Int32) d_Le_written_86 rfl ?_
    refine gk_callV (pc := 88) (d := (d + 6)) (w' := gv_R) (as := [.int (45 : Int32)]) (n := 1) 1 d_Le_written_88 rfl rfl rfl rfl (Nat.le_of_ble_eq_true rfl) tw_913 tw_430 tw_431 tw_93 cw_SB_append_C hy_SB_append_C (Nat.le_of_ble_eq_true rfl) (p_SB_append_C (d + 1) v2 (45 : Int32) h) fun x1 h1 => ?_
    refine gk_pop (pc := 91) d_Le_written_91 (gk_cat_rf _) ?_
    refine gk_weak [1, 2] (L' := [(2, va_rf v2), (3, .double v3)]) rfl ?_
    exact p_Le_written_b92 d v2 v3 h1
theorem p_Le_written_b21 (d : Nat)  (v0 : UInt64) (v2 : Option Nat) (s0 : UInt64) (h : gk_H) : gk_P gw_R (d + 7) y_Le_written b_Le_written 5 (some (.object "java/lang/String")) [] (f_Le_written_b21  v0 v2 s0 h) 21 [(0, .double v0), (2, va_rf v2)] [.double s0] h := by
  unfold f_Le_written_b21
  refine gk_dstore_n (pc := 21) (L' := [(3, .double s0), (0, .double v0), (2, va_rf v2)]) d_Le_written_21 (Nat.le_of_ble_eq_true rfl) (by simp [gk_s1, gk_s2, gk_cat_rf, gk_catI, gk_catJ, gk_catD] <;> decide) ?_
  refine gk_dload_n (pc := 22) 0 d_Le_written_22 rfl ?_
  refine gk_dload_n (pc := 23) 0 d_Le_written_23 rfl ?_
  refine gk_callS (pc := 24) (d := (d + 6)) (w' := gv_D) (as := [.double s0]) (n := 1) d_Le_written_24 rfl rfl (Nat.le_of_ble_eq_true rfl) tw_902 tw_903 tw_117 cw_Am_wholePart hy_Am_wholePart (Nat.le_of_ble_eq_true rfl) (p_Am_wholePart (d + 5) s0 h) fun x1 h1 => ?_
  refine gk_dcmp (pc := 27) d_Le_written_27 ?_
  refine gk_if_ne (pc := 28) 41 d_Le_written_28 rfl (fun _ => ?_) (fun _ => ?_)
  · refine gk_aload_n (pc := 31) 2 d_Le_written_31 rfl ?_
    refine gk_dload_n (pc := 32) 0 d_Le_written_32 rfl ?_
    refine gk_d2l (pc := 33) d_Le_written_33 ?_
    refine gk_iconst (pc := 34) (-1 : Int32) d_Le_written_34 rfl ?_
    refine gk_callS (pc := 35) (d := (d + 6)) (w' := gv_V) (as := [va_rf v2, .long (FP.d2l s0), .int (-1 : Int32)]) (n := 3) d_Le_written_35 rfl rfl (Nat.le_of_ble_eq_true rfl) tw_910 tw_911 tw_116 cw_Le_appendBackwards hy_Le_appendBackwards (Nat.le_of_ble_eq_true rfl) (p_Le_appendBackwards d v2 (FP.d2l s0) (-1 : Int32) h1) fun _ h2 => ?_
    refine gk_goto (pc := 38) 79 d_Le_written_38 rfl ?_
    refine gk_weak [1, 2, 0] (L' := [(0, .double v0), (2, va_rf v2), (3, .double s0)]) rfl ?_
    exact p_Le_written_b79 d v0 v2 s0 h2
  · refine gk_dload_n (pc := 41) 0 d_Le_written_41 rfl ?_
    refine gk_ldc2d (pc := 42) tw_915 d_Le_written_42 ?_
    refine gk_dcmp (pc := 45) d_Le_written_45 ?_
    refine gk_if_ge (pc := 46) 68 d_Le_written_46 rfl (fun _ => ?_) (fun _ => ?_)
    · refine gk_aload_n (pc := 68) 2 d_Le_written_68 rfl ?_
      refine gk_dload_n (pc := 69) 0 d_Le_written_69 rfl ?_
      refine gk_ldc2d (pc := 70) tw_917 d_Le_written_70 ?_
      refine gk_daddN (pc := 73) d_Le_written_73 fun x2 => ?_
      refine gk_d2l (pc := 74) d_Le_written_74 ?_
      refine gk_iconst (pc := 75) (-1 : Int32) d_Le_written_75 rfl ?_
      refine gk_callS (pc := 76) (d := (d + 6)) (w' := gv_V) (as := [va_rf v2, .long (FP.d2l x2), .int (-1 : Int32)]) (n := 3) d_Le_written_76 rfl rfl (Nat.le_of_ble_eq_true rfl) tw_910 tw_911 tw_116 cw_Le_appendBackwards hy_Le_appendBackwards (Nat.le_of_ble_eq_true rfl) (p_Le_appendBackwards d v2 (FP.d2l x2) (-1 : Int32) h1) fun _ h3 => ?_
      refine gk_weak [1, 2, 0] (L' := [(0, .double v0), (2, va_rf v2), (3, .double s0)]) rfl ?_
      exact p_Le_written_b79 d v0 v2 s0 h3
    · refine gk_aload_n (pc := 49) 2 d_Le_written_49 rfl ?_
      refine gk_dload_n (pc := 50) 0 d_Le_written_50 rfl ?_
      refine gk_ldc2d (pc := 51) tw_916 d_Le_written_51 ?_
      refine gk_dmulN (pc := 54) d_Le_written_54 fun x3 => ?_
      refine gk_ldc2d (pc := 55) tw_917 d_Le_written_55 ?_
      refine gk_daddN (pc := 58) d_Le_written_58 fun x4 => ?_
      refine gk_d2l (pc := 59) d_Le_written_59 ?_
      refine gk_bipush (pc := 60) (9 : Int32) d_Le_written_60 rfl ?_
      refine gk_callS (pc := 62) (d := (d + 6)) (w' := gv_V) (as := [va_rf v2, .long (FP.d2l x4), .int (9 : Int32)]) (n := 3) d_Le_written_62 rfl rfl (Nat.le_of_ble_eq_true rfl) tw_910 tw_911 tw_116 cw_Le_appendBackwards hy_Le_appendBackwards (Nat.le_of_ble_eq_true rfl) (p_Le_appendBackwards d v2 (FP.d2l x4) (9 : Int32) h1) fun _ h4 => ?_
      refine gk_goto (pc := 65) 79 d_Le_written_65 rfl ?_
      refine gk_weak [1, 2, 0] (L' := [(0, .double v0), (2, va_rf v2), (3, .double s0)]) rfl ?_
      exact p_Le_written_b79 d v0 v2 s0 h4
theorem w_Le_written (d : Nat) (a0 : UInt64) (h : gk_H) : gk_P gw_R (d + 7) y_Le_written b_Le_written 5 (some (.object "java/lang/String")) [] (f_Le_written a0 h) 0 [(0, .double a0)] [] h := by
  unfold f_Le_written
  refine gk_newO (pc := 0) 1 4 d_Le_written_0 rfl tw_900 tw_136 tw_93 fun x1 h1 => ?_
  refine gk_dup (pc := 3) d_Le_written_3 (gk_cat_rf _) ?_
  refine gk_callI (pc := 4) (d := (d + 6)) (w' := gv_V) (as := []) (n := 0) 1 d_Le_written_4 rfl rfl (by simp [gk_cat_rf, gk_catI, gk_catJ, gk_catD, gv_V, gv_I, gv_J, gv_D, gv_R]) tw_901 tw_138 tw_93 cw_SB_init rfl hy_SB_init (Nat.le_of_ble_eq_true rfl) (p_SB_init (d + 4) x1 h1) fun _ h2 => ?_
  refine gk_astore_n (pc := 7) (L' := [(2, va_rf x1), (0, .double a0)]) d_Le_written_7 (Nat.le_of_ble_eq_true rfl) rfl ?_
  refine gk_dload_n (pc := 8) 1 d_Le_written_8 rfl ?_
  refine gk_dconst0 (pc := 9) d_Le_written_9 ?_
  refine gk_dcmp (pc := 10) d_Le_written_10 ?_
  refine gk_if_ge (pc := 11) 20 d_Le_written_11 rfl (fun _ => ?_) (fun _ => ?_)
  · refine gk_dload_n (pc := 20) 1 d_Le_written_20 rfl ?_
    refine gk_weak [1, 0] (L' := [(0, .double a0), (2, va_rf x1)]) rfl ?_
    exact p_Le_written_b21 d a0 x1 a0 h2
  · refine gk_dconst0 (pc := 14) d_Le_written_14 ?_
    refine gk_dload_n (pc := 15) 1 d_Le_written_15 rfl ?_
    refine gk_dsubN (pc := 16) d_Le_written_16 fun x2 => ?_
    refine gk_goto (pc := 17) 21 d_Le_written_17 rfl ?_
    refine gk_weak [1, 0] (L' := [(0, .double a0), (2, va_rf x1)]) rfl ?_
    exact p_Le_written_b21 d a0 x1 x2 h2
theorem p_Le_written (d : Nat) (a0 : UInt64) (h : gk_H) : ∀ r h1, f_Le_written a0 h = some (r, h1) → gk_M (d + 7) y_Le_written b_Le_written 5 (some (.object "java/lang/String")) [.double a0] h (.inl (gv_R r)) h1 :=
  fun r h1 e => gk_M_of2 (by decide +kernel) (by simp [lv_args, gk_cat_rf, gk_catI, gk_catJ, gk_catD, gv_V, gv_I, gv_J, gv_D, gv_R]) (by simp [lg_sl, gk_cat_rf, gk_catI, gk_catJ, gk_catD, gv_V, gv_I, gv_J, gv_D, gv_R]) (w_Le_written d a0 h r h1 e)
theorem d_Ar_lettersOf_0 : decode b_Ar_lettersOf 0 = .ok (.aload_n 0, 1) := by decide +kernel
theorem d_Ar_lettersOf_1 : decode b_Ar_lettersOf 1 = .ok (.iload_n 1, 1) := by decide +kernel
theorem d_Ar_lettersOf_2 : decode b_Ar_lettersOf 2 = .ok (.invokevirtual 76, 3) := by decide +kernel
theorem d_Ar_lettersOf_5 : decode b_Ar_lettersOf 5 = .ok (.astore_n 2, 1) := by decide +kernel
theorem d_Ar_lettersOf_6 : decode b_Ar_lettersOf 6 = .ok (.aload_n 2, 1) := by decide +kernel
theorem d_Ar_lettersOf_7 : decode b_Ar_lettersOf 7 = .ok (.getfield 66, 3) := by decide +kernel
theorem d_Ar_lettersOf_10 : decode b_Ar_lettersOf 10 = .ok (.lookupswitch 68 #[(1, 42), (3, 26)], 26) := by decide +kernel
theorem d_Ar_lettersOf_36 : decode b_Ar_lettersOf 36 = .ok (.aload_n 2, 1) := by decide +kernel
theorem d_Ar_lettersOf_37 : decode b_Ar_lettersOf 37 = .ok (.getfield 69, 3) := by decide +kernel
theorem d_Ar_lettersOf_40 : decode b_Ar_lettersOf 40 = .ok (.iconst 1, 1) := by decide +kernel
theorem d_Ar_lettersOf_41 : decode b_Ar_lettersOf 41 = .ok (.if_icmp .ne 8, 3) := by decide +kernel
theorem d_Ar_lettersOf_44 : decode b_Ar_lettersOf 44 = .ok (.ldc 110, 2) := by decide +kernel
theorem d_Ar_lettersOf_46 : decode b_Ar_lettersOf 46 = .ok (.goto 5, 3) := by decide +kernel
theorem d_Ar_lettersOf_49 : decode b_Ar_lettersOf 49 = .ok (.ldc 112, 2) := by decide +kernel
theorem d_Ar_lettersOf_51 : decode b_Ar_lettersOf 51 = .ok (.areturn, 1) := by decide +kernel
theorem d_Ar_lettersOf_52 : decode b_Ar_lettersOf 52 = .ok (.aload_n 2, 1) := by decide +kernel
theorem d_Ar_lettersOf_53 : decode b_Ar_lettersOf 53 = .ok (.getfield 79, 3) := by decide +kernel
theorem d_Ar_lettersOf_56 : decode b_Ar_lettersOf 56 = .ok (.invokestatic 114, 3) := by decide +kernel
theorem d_Ar_lettersOf_59 : decode b_Ar_lettersOf 59 = .ok (.ifCond .ne 11, 3) := by decide +kernel
theorem d_Ar_lettersOf_62 : decode b_Ar_lettersOf 62 = .ok (.aload_n 0, 1) := by decide +kernel
theorem d_Ar_lettersOf_63 : decode b_Ar_lettersOf 63 = .ok (.iconst 3, 1) := by decide +kernel
theorem d_Ar_lettersOf_64 : decode b_Ar_lettersOf 64 = .ok (.invokevirtual 72, 3) := by decide +kernel
theorem d_Ar_lettersOf_67 : decode b_Ar_lettersOf 67 = .ok (.ldc 117, 2) := by decide +kernel
theorem d_Ar_lettersOf_69 : decode b_Ar_lettersOf 69 = .ok (.areturn, 1) := by decide +kernel
theorem d_Ar_lettersOf_70 : decode b_Ar_lettersOf 70 = .ok (.aload_n 2, 1) := by decide +kernel
theorem d_Ar_lettersOf_71 : decode b_Ar_lettersOf 71 = .ok (.getfield 79, 3) := by decide +kernel
theorem d_Ar_lettersOf_74 : decode b_Ar_lettersOf 74 = .ok (.invokestatic 119, 3) := by decide +kernel
theorem d_Ar_lettersOf_77 : decode b_Ar_lettersOf 77 = .ok (.areturn, 1) := by decide +kernel
theorem d_Ar_lettersOf_78 : decode b_Ar_lettersOf 78 = .ok (.aload_n 2, 1) := by decide +kernel
theorem d_Ar_lettersOf_79 : decode b_Ar_lettersOf 79 = .ok (.getfield 83, 3) := by decide +kernel
theorem d_Ar_lettersOf_82 : decode b_Ar_lettersOf 82 = .ok (.areturn, 1) := by decide +kernel
theorem p_Ar_lettersOf_b51 (d : Nat)  (s0 : Option Nat) (h : gk_H) : gk_P gw_R (d + 8) y_Ar_lettersOf b_Ar_lettersOf 3 (some (.object "java/lang/String")) [] (f_Ar_lettersOf_b51  s0 h) 51 [] [va_rf s0] h := by
  unfold f_Ar_lettersOf_b51
  exact gk_aret (pc := 51) rfl d_Ar_lettersOf_51 rfl (Or.inl ⟨_, rfl⟩)
theorem w_Ar_lettersOf (d : Nat) (a0 : Option Nat) (a1 : Int32) (h : gk_H) : gk_P gw_R (d + 8) y_Ar_lettersOf b_Ar_lettersOf 3 (some (.object "java/lang/String")) [] (f_Ar_lettersOf a0 a1 h) 0 [(0, va_rf a0), (1, .int a1)] [] h := by
  unfold f_Ar_lettersOf
  refine gk_aload_n (pc := 0) 0 d_Ar_lettersOf_0 rfl ?_
  refine gk_iload_n (pc := 1) 1 d_Ar_lettersOf_1 rfl ?_
  refine gk_callV (pc := 2) (d := (d + 7)) (w' := gv_R) (as := [.int a1]) (n := 1) 4 d_Ar_lettersOf_2 rfl rfl rfl rfl (Nat.le_of_ble_eq_true rfl) tw_791 tw_792 tw_793 tw_96 cw_Ar_sound hy_Ar_sound (Nat.le_of_ble_eq_true rfl) (p_Ar_sound (d + 6) a0 a1 h) fun x1 h1 => ?_
  refine gk_astore_n (pc := 5) (L' := [(2, va_rf x1), (0, va_rf a0), (1, .int a1)]) d_Ar_lettersOf_5 (Nat.le_of_ble_eq_true rfl) rfl ?_
  refine gk_aload_n (pc := 6) 0 d_Ar_lettersOf_6 rfl ?_
  refine gk_getI (pc := 7) 2 0 d_Ar_lettersOf_7 rfl (Nat.le_of_ble_eq_true rfl) tw_191 fun x2 => ?_
  refine gk_ite (fun z10_0 => ?_) (fun z10_0 => ?_)
  · refine gk_lsw (pc := 10) 52 d_Ar_lettersOf_10 (by decide) (by rw [z10_0]) rfl ?_
    refine gk_aload_n (pc := 52) 0 d_Ar_lettersOf_52 rfl ?_
    refine gk_getD (pc := 53) 2 2 d_Ar_lettersOf_53 rfl (Nat.le_of_ble_eq_true rfl) tw_201 fun x3 => ?_
    refine gk_callS (pc := 56) (d := (d + 7)) (w' := gv_I) (as := [.double x3]) (n := 1) d_Ar_lettersOf_56 rfl rfl (Nat.le_of_ble_eq_true rfl) tw_891 tw_892 tw_116 cw_Le_canBeWritten hy_Le_canBeWritten (Nat.le_of_ble_eq_true rfl) (p_Le_canBeWritten (d + 7) x3 h1) fun x4 h2 => ?_
    refine gk_if_ne (pc := 59) 70 d_Ar_lettersOf_59 rfl (fun _ => ?_) (fun _ => ?_)
    · refine gk_aload_n (pc := 62) 1 d_Ar_lettersOf_62 rfl ?_
      refine gk_iconst (pc := 63) (3 : Int32) d_Ar_lettersOf_63 rfl ?_
      refine gk_callV (pc := 64) (d := (d + 7)) (w' := gv_V) (as := [.int (3 : Int32)]) (n := 1) 4 d_Ar_lettersOf_64 rfl rfl rfl rfl (Nat.le_of_ble_eq_true rfl) tw_799 tw_800 tw_801 tw_96 cw_Ar_blame hy_Ar_blame (Nat.le_of_ble_eq_true rfl) (p_Ar_blame (d + 7) a0 (3 : Int32) h2) fun _ h3 => ?_
      refine gk_ldcS (pc := 67) "" 10 d_Ar_lettersOf_67 (by decide +kernel) ?_
      exact gk_aret (pc := 69) rfl d_Ar_lettersOf_69 rfl (Or.inl ⟨_, rfl⟩)
    · refine gk_aload_n (pc := 70) 0 d_Ar_lettersOf_70 rfl ?_
      refine gk_getD (pc := 71) 2 2 d_Ar_lettersOf_71 rfl (Nat.le_of_ble_eq_true rfl) tw_201 fun x5 => ?_
      refine gk_callS (pc := 74) (d := (d + 7)) (w' := gv_R) (as := [.double x5]) (n := 1) d_Ar_lettersOf_74 rfl rfl (Nat.le_of_ble_eq_true rfl) tw_897 tw_898 tw_116 cw_Le_written hy_Le_written (Nat.le_of_ble_eq_true rfl) (p_Le_written d x5 h2) fun x6 h4 => ?_
      exact gk_aret (pc := 77) rfl d_Ar_lettersOf_77 rfl (Or.inl ⟨_, rfl⟩)
  ·
    refine gk_ite (fun z10_1 => ?_) (fun z10_1 => ?_)
    · refine gk_lsw (pc := 10) 36 d_Ar_lettersOf_10 (by decide) (by rw [z10_1]) rfl ?_
      refine gk_aload_n (pc := 36) 0 d_Ar_lettersOf_36 rfl ?_
      refine gk_getI (pc := 37) 2 1 d_Ar_lettersOf_37 rfl (Nat.le_of_ble_eq_true rfl) tw_196 fun x7 => ?_
      refine gk_iconst (pc := 40) (1 : Int32) d_Ar_lettersOf_40 rfl ?_
      refine gk_icmp_ne (pc := 41) 49 d_Ar_lettersOf_41 rfl (fun _ => ?_) (fun _ => ?_)
      · refine gk_ldcS (pc := 44) "TRUE" 6 d_Ar_lettersOf_44 (by decide +kernel) ?_
        refine gk_goto (pc := 46) 51 d_Ar_lettersOf_46 rfl ?_
        refine gk_weak [] (L' := []) rfl ?_
        exact p_Ar_lettersOf_b51 d (some 6) h1
      · refine gk_ldcS (pc := 49) "FALSE" 8 d_Ar_lettersOf_49 (by decide +kernel) ?_
        refine gk_weak [] (L' := []) rfl ?_
        exact p_Ar_lettersOf_b51 d (some 8) h1
    ·
      refine gk_lsw (pc := 10) 78 d_Ar_lettersOf_10 (by decide) (by show Op.lookupswitch.offset [(1, 42), (3, 26)] _ _ = _; rw [lv_osw z10_0 (by decide), lv_osw z10_1 (by decide)]) rfl ?_
      refine gk_aload_n (pc := 78) 0 d_Ar_lettersOf_78 rfl ?_
      refine gk_getR (pc := 79) 2 3 d_Ar_lettersOf_79 rfl (Nat.le_of_ble_eq_true rfl) tw_208 fun x8 => ?_
      exact gk_aret (pc := 82) rfl d_Ar_lettersOf_82 rfl (Or.inl ⟨_, rfl⟩)
theorem p_Ar_lettersOf (d : Nat) (a0 : Option Nat) (a1 : Int32) (h : gk_H) : ∀ r h1, f_Ar_lettersOf a0 a1 h = some (r, h1) → gk_M (d + 8) y_Ar_lettersOf b_Ar_lettersOf 3 (some (.object "java/lang/String")) [va_rf a0, .int a1] h (.inl (gv_R r)) h1 :=
  fun r h1 e => gk_M_of2 (by decide +kernel) (by simp [lv_args, gk_cat_rf, gk_catI, gk_catJ, gk_catD, gv_V, gv_I, gv_J, gv_D, gv_R]) (by simp [lg_sl, gk_cat_rf, gk_catI, gk_catJ, gk_catD, gv_V, gv_I, gv_J, gv_D, gv_R]) (w_Ar_lettersOf d a0 a1 h r h1 e)
theorem d_Op_joined_0 : decode b_Op_joined 0 = .ok (.new 55, 3) := by decide +kernel
theorem d_Op_joined_3 : decode b_Op_joined 3 = .ok (.dup, 1) := by decide +kernel
theorem d_Op_joined_4 : decode b_Op_joined 4 = .ok (.invokespecial 57, 3) := by decide +kernel
theorem d_Op_joined_7 : decode b_Op_joined 7 = .ok (.astore_n 2, 1) := by decide +kernel
theorem d_Op_joined_8 : decode b_Op_joined 8 = .ok (.aload_n 2, 1) := by decide +kernel
theorem d_Op_joined_9 : decode b_Op_joined 9 = .ok (.aload_n 0, 1) := by decide +kernel
theorem d_Op_joined_10 : decode b_Op_joined 10 = .ok (.invokevirtual 58, 3) := by decide +kernel
theorem d_Op_joined_13 : decode b_Op_joined 13 = .ok (.pop, 1) := by decide +kernel
theorem d_Op_joined_14 : decode b_Op_joined 14 = .ok (.aload_n 2, 1) := by decide +kernel
theorem d_Op_joined_15 : decode b_Op_joined 15 = .ok (.aload_n 1, 1) := by decide +kernel
theorem d_Op_joined_16 : decode b_Op_joined 16 = .ok (.invokevirtual 58, 3) := by decide +kernel
theorem d_Op_joined_19 : decode b_Op_joined 19 = .ok (.pop, 1) := by decide +kernel
theorem d_Op_joined_20 : decode b_Op_joined 20 = .ok (.aload_n 2, 1) := by decide +kernel
theorem d_Op_joined_21 : decode b_Op_joined 21 = .ok (.invokevirtual 62, 3) := by decide +kernel
theorem d_Op_joined_24 : decode b_Op_joined 24 = .ok (.invokestatic 66, 3) := by decide +kernel
theorem d_Op_joined_27 : decode b_Op_joined 27 = .ok (.areturn, 1) := by decide +kernel
theorem w_Op_joined (d : Nat) (a0 : Option Nat) (a1 : Option Nat) (h : gk_H) : gk_P gw_R (d + 6) y_Op_joined b_Op_joined 3 (some (.object "ValueAlgebra$Value")) [] (f_Op_joined a0 a1 h) 0 [(0, va_rf a0), (1, va_rf a1)] [] h := by
  unfold f_Op_joined
  refine gk_newO (pc := 0) 1 4 d_Op_joined_0 rfl tw_967 tw_136 tw_93 fun x1 h1 => ?_
  refine gk_dup (pc := 3) d_Op_joined_3 (gk_cat_rf _) ?_
  refine gk_callI (pc := 4) (d := (d + 5)) (w' := gv_V) (as := []) (n := 0) 1 d_Op_joined_4 rfl rfl (by simp [gk_cat_rf, gk_catI, gk_catJ, gk_catD, gv_V, gv_I, gv_J, gv_D, gv_R]) tw_968 tw_138 tw_93 cw_SB_init rfl hy_SB_init (Nat.le_of_ble_eq_true rfl) (p_SB_init (d + 3) x1 h1) fun _ h2 => ?_
  refine gk_astore_n (pc := 7) (L' := [(2, va_rf x1), (0, va_rf a0), (1, va_rf a1)]) d_Op_joined_7 (Nat.le_of_ble_eq_true rfl) (by simp [gk_s1, gk_s2, gk_cat_rf, gk_catI, gk_catJ, gk_catD] <;> decide) ?_
  refine gk_aload_n (pc := 8) 0 d_Op_joined_8 rfl ?_
  refine gk_aload_n (pc := 9) 1 d_Op_joined_9 rfl ?_
  refine gk_callV (pc := 10) (d := (d + 5)) (w' := gv_R) (as := [va_rf a0]) (n := 1) 1 d_Op_joined_10 rfl rfl rfl rfl (Nat.le_of_ble_eq_true rfl) tw_969 tw_599 tw_600 tw_93 cw_SB_append_String hy_SB_append_String (Nat.le_of_ble_eq_true rfl) (p_SB_append_String d x1 a0 h2) fun x2 h3 => ?_
  refine gk_pop (pc := 13) d_Op_joined_13 (gk_cat_rf _) ?_
  refine gk_aload_n (pc := 14) 0 d_Op_joined_14 rfl ?_
  refine gk_aload_n (pc := 15) 2 d_Op_joined_15 rfl ?_
  refine gk_callV (pc := 16) (d := (d + 5)) (w' := gv_R) (as := [va_rf a1]) (n := 1) 1 d_Op_joined_16 rfl rfl rfl rfl (Nat.le_of_ble_eq_true rfl) tw_969 tw_599 tw_600 tw_93 cw_SB_append_String hy_SB_append_String (Nat.le_of_ble_eq_true rfl) (p_SB_append_String d x1 a1 h3) fun x3 h4 => ?_
  refine gk_pop (pc := 19) d_Op_joined_19 (gk_cat_rf _) ?_
  refine gk_aload_n (pc := 20) 0 d_Op_joined_20 rfl ?_
  refine gk_callV (pc := 21) (d := (d + 5)) (w' := gv_R) (as := []) (n := 0) 1 d_Op_joined_21 rfl rfl rfl rfl (Nat.le_of_ble_eq_true rfl) tw_970 tw_532 tw_533 tw_93 cw_SB_toString hy_SB_toString (Nat.le_of_ble_eq_true rfl) (p_SB_toString d x1 h4) fun x4 h5 => ?_
  refine gk_callS (pc := 24) (d := (d + 5)) (w' := gv_R) (as := [va_rf x4]) (n := 1) d_Op_joined_24 rfl rfl (Nat.le_of_ble_eq_true rfl) tw_971 tw_663 tw_97 cw_Va_ofText hy_Va_ofText (Nat.le_of_ble_eq_true rfl) (p_Va_ofText (d + 3) x4 h5) fun x5 h6 => ?_
  exact gk_aret (pc := 27) rfl d_Op_joined_27 rfl (Or.inl ⟨_, rfl⟩)
theorem p_Op_joined (d : Nat) (a0 : Option Nat) (a1 : Option Nat) (h : gk_H) : ∀ r h1, f_Op_joined a0 a1 h = some (r, h1) → gk_M (d + 6) y_Op_joined b_Op_joined 3 (some (.object "ValueAlgebra$Value")) [va_rf a0, va_rf a1] h (.inl (gv_R r)) h1 :=
  fun r h1 e => gk_M_of2 (by decide +kernel) (by simp [lv_args, gk_cat_rf, gk_catI, gk_catJ, gk_catD, gv_V, gv_I, gv_J, gv_D, gv_R]) (by simp [lg_sl, gk_cat_rf, gk_catI, gk_catJ, gk_catD, gv_V, gv_I, gv_J, gv_D, gv_R]) (w_Op_joined d a0 a1 h r h1 e)
theorem d_Le_great_0 : decode b_Le_great 0 = .ok (.iload_n 0, 1) := by decide +kernel
theorem d_Le_great_1 : decode b_Le_great 1 = .ok (.bipush 97, 2) := by decide +kernel
theorem d_Le_great_3 : decode b_Le_great 3 = .ok (.if_icmp .lt 20, 3) := by decide +kernel
theorem d_Le_great_6 : decode b_Le_great 6 = .ok (.iload_n 0, 1) := by decide +kernel
theorem d_Le_great_7 : decode b_Le_great 7 = .ok (.bipush 122, 2) := by decide +kernel
theorem d_Le_great_9 : decode b_Le_great 9 = .ok (.if_icmp .gt 14, 3) := by decide +kernel
theorem d_Le_great_12 : decode b_Le_great 12 = .ok (.iload_n 0, 1) := by decide +kernel
theorem d_Le_great_13 : decode b_Le_great 13 = .ok (.bipush 97, 2) := by decide +kernel
theorem d_Le_great_15 : decode b_Le_great 15 = .ok (.isub, 1) := by decide +kernel
theorem d_Le_great_16 : decode b_Le_great 16 = .ok (.bipush 65, 2) := by decide +kernel
theorem d_Le_great_18 : decode b_Le_great 18 = .ok (.iadd, 1) := by decide +kernel
theorem d_Le_great_19 : decode b_Le_great 19 = .ok (.i2c, 1) := by decide +kernel
theorem d_Le_great_20 : decode b_Le_great 20 = .ok (.goto 4, 3) := by decide +kernel
theorem d_Le_great_23 : decode b_Le_great 23 = .ok (.iload_n 0, 1) := by decide +kernel
theorem d_Le_great_24 : decode b_Le_great 24 = .ok (.ireturn, 1) := by decide +kernel
theorem p_Le_great_b24 (d : Nat)  (s0 : Int32) (h : gk_H) : gk_P gw_I d y_Le_great b_Le_great 1 (some .char) [] (f_Le_great_b24  s0 h) 24 [] [.int s0] h := by
  unfold f_Le_great_b24
  exact gk_zret (pc := 24) rfl d_Le_great_24 rfl
theorem p_Le_great_b23 (d : Nat)  (v0 : Int32) (h : gk_H) : gk_P gw_I d y_Le_great b_Le_great 1 (some .char) [] (f_Le_great_b23  v0 h) 23 [(0, .int v0)] [] h := by
  unfold f_Le_great_b23
  refine gk_iload_n (pc := 23) 0 d_Le_great_23 rfl ?_
  refine gk_weak [] (L' := []) rfl ?_
  exact p_Le_great_b24 d v0 h
theorem w_Le_great (d : Nat) (a0 : Int32) (h : gk_H) : gk_P gw_I d y_Le_great b_Le_great 1 (some .char) [] (f_Le_great a0 h) 0 [(0, .int a0)] [] h := by
  unfold f_Le_great
  refine gk_iload_n (pc := 0) 0 d_Le_great_0 rfl ?_
  refine gk_bipush (pc := 1) (97 : Int32) d_Le_great_1 rfl ?_
  refine gk_icmp_lt (pc := 3) 23 d_Le_great_3 rfl (fun _ => ?_) (fun _ => ?_)
  · exact p_Le_great_b23 d a0 h
  · refine gk_iload_n (pc := 6) 0 d_Le_great_6 rfl ?_
    refine gk_bipush (pc := 7) (122 : Int32) d_Le_great_7 rfl ?_
    refine gk_icmp_gt (pc := 9) 23 d_Le_great_9 rfl (fun _ => ?_) (fun _ => ?_)
    · exact p_Le_great_b23 d a0 h
    · refine gk_iload_n (pc := 12) 0 d_Le_great_12 rfl ?_
      refine gk_bipush (pc := 13) (97 : Int32) d_Le_great_13 rfl ?_
      refine gk_isub (pc := 15) d_Le_great_15 ?_
      refine gk_bipush (pc := 16) (65 : Int32) d_Le_great_16 rfl ?_
      refine gk_iadd (pc := 18) d_Le_great_18 ?_
      refine gk_i2c (pc := 19) d_Le_great_19 ?_
      refine gk_goto (pc := 20) 24 d_Le_great_20 rfl ?_
      refine gk_weak [] (L' := []) rfl ?_
      exact p_Le_great_b24 d (UInt32.toInt32 (Int32.toUInt32 ((a0 - (97 : Int32)) + (65 : Int32)) % 65536)) h
theorem p_Le_great (d : Nat) (a0 : Int32) (h : gk_H) : ∀ r h1, f_Le_great a0 h = some (r, h1) → gk_M d y_Le_great b_Le_great 1 (some .char) [.int a0] h (.inl (gv_I r)) h1 :=
  fun r h1 e => gk_M_of2 (by decide +kernel) (by simp [lv_args, gk_cat_rf, gk_catI, gk_catJ, gk_catD, gv_V, gv_I, gv_J, gv_D, gv_R]) (by simp [lg_sl, gk_cat_rf, gk_catI, gk_catJ, gk_catD, gv_V, gv_I, gv_J, gv_D, gv_R]) (w_Le_great d a0 h r h1 e)
theorem d_Le_order_0 : decode b_Le_order 0 = .ok (.aload_n 0, 1) := by decide +kernel
theorem d_Le_order_1 : decode b_Le_order 1 = .ok (.invokevirtual 15, 3) := by decide +kernel
theorem d_Le_order_4 : decode b_Le_order 4 = .ok (.aload_n 1, 1) := by decide +kernel
theorem d_Le_order_5 : decode b_Le_order 5 = .ok (.invokevirtual 15, 3) := by decide +kernel
theorem d_Le_order_8 : decode b_Le_order 8 = .ok (.invokestatic 21, 3) := by decide +kernel
theorem d_Le_order_11 : decode b_Le_order 11 = .ok (.istore_n 2, 1) := by decide +kernel
theorem d_Le_order_12 : decode b_Le_order 12 = .ok (.iconst 0, 1) := by decide +kernel
theorem d_Le_order_13 : decode b_Le_order 13 = .ok (.istore_n 3, 1) := by decide +kernel
theorem d_Le_order_14 : decode b_Le_order 14 = .ok (.iload_n 3, 1) := by decide +kernel
theorem d_Le_order_15 : decode b_Le_order 15 = .ok (.iload_n 2, 1) := by decide +kernel
theorem d_Le_order_16 : decode b_Le_order 16 = .ok (.if_icmp .ge 36, 3) := by decide +kernel
theorem d_Le_order_19 : decode b_Le_order 19 = .ok (.aload_n 0, 1) := by decide +kernel
theorem d_Le_order_20 : decode b_Le_order 20 = .ok (.iload_n 3, 1) := by decide +kernel
theorem d_Le_order_21 : decode b_Le_order 21 = .ok (.invokevirtual 27, 3) := by decide +kernel
theorem d_Le_order_24 : decode b_Le_order 24 = .ok (.invokestatic 9, 3) := by decide +kernel
theorem d_Le_order_27 : decode b_Le_order 27 = .ok (.aload_n 1, 1) := by decide +kernel
theorem d_Le_order_28 : decode b_Le_order 28 = .ok (.iload_n 3, 1) := by decide +kernel
theorem d_Le_order_29 : decode b_Le_order 29 = .ok (.invokevirtual 27, 3) := by decide +kernel
theorem d_Le_order_32 : decode b_Le_order 32 = .ok (.invokestatic 9, 3) := by decide +kernel
theorem d_Le_order_35 : decode b_Le_order 35 = .ok (.isub, 1) := by decide +kernel
theorem d_Le_order_36 : decode b_Le_order 36 = .ok (.istore 4, 2) := by decide +kernel
theorem d_Le_order_38 : decode b_Le_order 38 = .ok (.iload 4, 2) := by decide +kernel
theorem d_Le_order_40 : decode b_Le_order 40 = .ok (.ifCond .eq 6, 3) := by decide +kernel
theorem d_Le_order_43 : decode b_Le_order 43 = .ok (.iload 4, 2) := by decide +kernel
theorem d_Le_order_45 : decode b_Le_order 45 = .ok (.ireturn, 1) := by decide +kernel
theorem d_Le_order_46 : decode b_Le_order 46 = .ok (.iinc 3 1, 3) := by decide +kernel
theorem d_Le_order_49 : decode b_Le_order 49 = .ok (.goto (-35), 3) := by decide +kernel
theorem d_Le_order_52 : decode b_Le_order 52 = .ok (.aload_n 0, 1) := by decide +kernel
theorem d_Le_order_53 : decode b_Le_order 53 = .ok (.invokevirtual 15, 3) := by decide +kernel
theorem d_Le_order_56 : decode b_Le_order 56 = .ok (.aload_n 1, 1) := by decide +kernel
theorem d_Le_order_57 : decode b_Le_order 57 = .ok (.invokevirtual 15, 3) := by decide +kernel
theorem d_Le_order_60 : decode b_Le_order 60 = .ok (.isub, 1) := by decide +kernel
theorem d_Le_order_61 : decode b_Le_order 61 = .ok (.ireturn, 1) := by decide +kernel
theorem p_Le_order_b14 (d : Nat)  : ∀ (fu : Nat) (v0 : Option Nat) (v1 : Option Nat) (v2 : Int32) (v3 : Int32) (h : gk_H), gk_P gw_I (d + 4) y_Le_order b_Le_order 5 (some .int) [] (f_Le_order_b14  fu v0 v1 v2 v3 h) 14 [(0, va_rf v0), (1, va_rf v1), (2, .int v2), (3, .int v3)] [] h := by
  intro fu
  induction fu with
  | zero => intros; exact gk_none
  | succ fu q14 =>
    intro v0 v1 v2 v3 h
    rw [f_Le_order_b14]
    refine gk_iload_n (pc := 14) 3 d_Le_order_14 rfl ?_
    refine gk_iload_n (pc := 15) 2 d_Le_order_15 rfl ?_
    refine gk_icmp_ge (pc := 16) 52 d_Le_order_16 rfl (fun _ => ?_) (fun _ => ?_)
    · refine gk_aload_n (pc := 52) 0 d_Le_order_52 rfl ?_
      refine gk_callV (pc := 53) (d := (d + 3)) (w' := gv_I) (as := []) (n := 0) 0 d_Le_order_53 rfl rfl rfl rfl (Nat.le_of_ble_eq_true rfl) tw_809 tw_613 tw_614 tw_94 cw_St_length hy_St_length (Nat.le_of_ble_eq_true rfl) (p_St_length (d + 2) v0 h) fun x1 h1 => ?_
      refine gk_aload_n (pc := 56) 1 d_Le_order_56 rfl ?_
      refine gk_callV (pc := 57) (d := (d + 3)) (w' := gv_I) (as := []) (n := 0) 0 d_Le_order_57 rfl rfl rfl rfl (Nat.le_of_ble_eq_true rfl) tw_809 tw_613 tw_614 tw_94 cw_St_length hy_St_length (Nat.le_of_ble_eq_true rfl) (p_St_length (d + 2) v1 h1) fun x2 h2 => ?_
      refine gk_isub (pc := 60) d_Le_order_60 ?_
      exact gk_iret (pc := 61) rfl d_Le_order_61 rfl
    · refine gk_aload_n (pc := 19) 0 d_Le_order_19 rfl ?_
      refine gk_iload_n (pc := 20) 3 d_Le_order_20 rfl ?_
      refine gk_callV (pc := 21) (d := (d + 3)) (w' := gv_I) (as := [.int v3]) (n := 1) 0 d_Le_order_21 rfl rfl rfl rfl (Nat.le_of_ble_eq_true rfl) tw_810 tw_811 tw_812 tw_94 cw_St_charAt hy_St_charAt (Nat.le_of_ble_eq_true rfl) (p_St_charAt d v0 v3 h) fun x3 h3 => ?_
      refine gk_callS (pc := 24) (d := (d + 3)) (w' := gv_I) (as := [.int x3]) (n := 1) d_Le_order_24 rfl rfl (Nat.le_of_ble_eq_true rfl) tw_980 tw_981 tw_116 cw_Le_great hy_Le_great (Nat.le_of_ble_eq_true rfl) (p_Le_great (d + 3) x3 h3) fun x4 h4 => ?_
      refine gk_aload_n (pc := 27) 1 d_Le_order_27 rfl ?_
      refine gk_iload_n (pc := 28) 3 d_Le_order_28 rfl ?_
      refine gk_callV (pc := 29) (d := (d + 3)) (w' := gv_I) (as := [.int v3]) (n := 1) 0 d_Le_order_29 rfl rfl rfl rfl (Nat.le_of_ble_eq_true rfl) tw_810 tw_811 tw_812 tw_94 cw_St_charAt hy_St_charAt (Nat.le_of_ble_eq_true rfl) (p_St_charAt d v1 v3 h4) fun x5 h5 => ?_
      refine gk_callS (pc := 32) (d := (d + 3)) (w' := gv_I) (as := [.int x5]) (n := 1) d_Le_order_32 rfl rfl (Nat.le_of_ble_eq_true rfl) tw_980 tw_981 tw_116 cw_Le_great hy_Le_great (Nat.le_of_ble_eq_true rfl) (p_Le_great (d + 3) x5 h5) fun x6 h6 => ?_
      refine gk_isub (pc := 35) d_Le_order_35 ?_
      refine gk_topI (pc := 36) fun x7 => ?_
      refine gk_istore (pc := 36) (L' := [(4, .int x7), (0, va_rf v0), (1, va_rf v1), (2, .int v2), (3, .int v3)]) d_Le_order_36 (Nat.le_of_ble_eq_true rfl) rfl ?_
      refine gk_iload (pc := 38) 0 d_Le_order_38 rfl ?_
      refine gk_if_eq (pc := 40) 46 d_Le_order_40 rfl (fun _ => ?_) (fun _ => ?_)
      · refine gk_iincN (pc := 46) 4 (1 : Int32) (L' := fun x8 => [(3, .int x8), (4, .int x7), (0, va_rf v0), (1, va_rf v1), (2, .int v2)]) d_Le_order_46 rfl rfl (Nat.le_of_ble_eq_true rfl) (fun _ => rfl) fun x8 => ?_
        refine gk_goto (pc := 49) 14 d_Le_order_49 rfl ?_
        refine gk_weak [2, 3, 4, 0] (L' := [(0, va_rf v0), (1, va_rf v1), (2, .int v2), (3, .int x8)]) rfl ?_
        exact q14 v0 v1 v2 x8 h6
      · refine gk_iload (pc := 43) 0 d_Le_order_43 rfl ?_
        exact gk_iret (pc := 45) rfl d_Le_order_45 rfl
theorem w_Le_order (d : Nat) (a0 : Option Nat) (a1 : Option Nat) (h : gk_H) : gk_P gw_I (d + 4) y_Le_order b_Le_order 5 (some .int) [] (f_Le_order a0 a1 h) 0 [(0, va_rf a0), (1, va_rf a1)] [] h := by
  unfold f_Le_order
  refine gk_aload_n (pc := 0) 0 d_Le_order_0 rfl ?_
  refine gk_callV (pc := 1) (d := (d + 3)) (w' := gv_I) (as := []) (n := 0) 0 d_Le_order_1 rfl rfl rfl rfl (Nat.le_of_ble_eq_true rfl) tw_809 tw_613 tw_614 tw_94 cw_St_length hy_St_length (Nat.le_of_ble_eq_true rfl) (p_St_length (d + 2) a0 h) fun x1 h1 => ?_
  refine gk_aload_n (pc := 4) 1 d_Le_order_4 rfl ?_
  refine gk_callV (pc := 5) (d := (d + 3)) (w' := gv_I) (as := []) (n := 0) 0 d_Le_order_5 rfl rfl rfl rfl (Nat.le_of_ble_eq_true rfl) tw_809 tw_613 tw_614 tw_94 cw_St_length hy_St_length (Nat.le_of_ble_eq_true rfl) (p_St_length (d + 2) a1 h1) fun x2 h2 => ?_
  refine gk_callS (pc := 8) (d := (d + 3)) (w' := gv_I) (as := [.int x1, .int x2]) (n := 2) d_Le_order_8 rfl rfl (Nat.le_of_ble_eq_true rfl) tw_979 tw_466 tw_106 cw_Ma_min_II hy_Ma_min_II (Nat.le_of_ble_eq_true rfl) (p_Ma_min_II (d + 3) x1 x2 h2) fun x3 h3 => ?_
  refine gk_istore_n (pc := 11) (L' := [(2, .int x3), (0, va_rf a0), (1, va_rf a1)]) d_Le_order_11 (Nat.le_of_ble_eq_true rfl) (by simp [gk_s1, gk_s2, gk_cat_rf, gk_catI, gk_catJ, gk_catD] <;> decide) ?_
  refine gk_iconst (pc := 12) (0 : Int32) d_Le_order_12 rfl ?_
  refine gk_istore_n (pc := 13) (L' := [(3, .int (0 : Int32)), (2, .int x3), (0, va_rf a0), (1, va_rf a1)]) d_Le_order_13 (Nat.le_of_ble_eq_true rfl) rfl ?_
  refine gk_weak [2, 3, 1, 0] (L' := [(0, va_rf a0), (1, va_rf a1), (2, .int x3), (3, .int (0 : Int32))]) rfl ?_
  exact p_Le_order_b14 d gk_F a0 a1 x3 (0 : Int32) h3
theorem p_Le_order (d : Nat) (a0 : Option Nat) (a1 : Option Nat) (h : gk_H) : ∀ r h1, f_Le_order a0 a1 h = some (r, h1) → gk_M (d + 4) y_Le_order b_Le_order 5 (some .int) [va_rf a0, va_rf a1] h (.inl (gv_I r)) h1 :=
  fun r h1 e => gk_M_of2 (by decide +kernel) (by simp [lv_args, gk_cat_rf, gk_catI, gk_catJ, gk_catD, gv_V, gv_I, gv_J, gv_D, gv_R]) (by simp [lg_sl, gk_cat_rf, gk_catI, gk_catJ, gk_catD, gv_V, gv_I, gv_J, gv_D, gv_R]) (w_Le_order d a0 a1 h r h1 e)
theorem d_Op_order_0 : decode b_Op_order 0 = .ok (.aload_n 0, 1) := by decide +kernel
theorem d_Op_order_1 : decode b_Op_order 1 = .ok (.getfield 79, 3) := by decide +kernel
theorem d_Op_order_4 : decode b_Op_order 4 = .ok (.ifCond .ne 10, 3) := by decide +kernel
theorem d_Op_order_7 : decode b_Op_order 7 = .ok (.aload_n 1, 1) := by decide +kernel
theorem d_Op_order_8 : decode b_Op_order 8 = .ok (.getfield 79, 3) := by decide +kernel
theorem d_Op_order_11 : decode b_Op_order 11 = .ok (.goto 7, 3) := by decide +kernel
theorem d_Op_order_14 : decode b_Op_order 14 = .ok (.aload_n 0, 1) := by decide +kernel
theorem d_Op_order_15 : decode b_Op_order 15 = .ok (.getfield 79, 3) := by decide +kernel
theorem d_Op_order_18 : decode b_Op_order 18 = .ok (.istore_n 2, 1) := by decide +kernel
theorem d_Op_order_19 : decode b_Op_order 19 = .ok (.aload_n 1, 1) := by decide +kernel
theorem d_Op_order_20 : decode b_Op_order 20 = .ok (.getfield 79, 3) := by decide +kernel
theorem d_Op_order_23 : decode b_Op_order 23 = .ok (.ifCond .ne 7, 3) := by decide +kernel
theorem d_Op_order_26 : decode b_Op_order 26 = .ok (.iload_n 2, 1) := by decide +kernel
theorem d_Op_order_27 : decode b_Op_order 27 = .ok (.goto 7, 3) := by decide +kernel
theorem d_Op_order_30 : decode b_Op_order 30 = .ok (.aload_n 1, 1) := by decide +kernel
theorem d_Op_order_31 : decode b_Op_order 31 = .ok (.getfield 79, 3) := by decide +kernel
theorem d_Op_order_34 : decode b_Op_order 34 = .ok (.istore_n 3, 1) := by decide +kernel
theorem d_Op_order_35 : decode b_Op_order 35 = .ok (.iload_n 2, 1) := by decide +kernel
theorem d_Op_order_36 : decode b_Op_order 36 = .ok (.iload_n 3, 1) := by decide +kernel
theorem d_Op_order_37 : decode b_Op_order 37 = .ok (.if_icmp .eq 7, 3) := by decide +kernel
theorem d_Op_order_40 : decode b_Op_order 40 = .ok (.iload_n 2, 1) := by decide +kernel
theorem d_Op_order_41 : decode b_Op_order 41 = .ok (.iload_n 3, 1) := by decide +kernel
theorem d_Op_order_42 : decode b_Op_order 42 = .ok (.isub, 1) := by decide +kernel
theorem d_Op_order_43 : decode b_Op_order 43 = .ok (.ireturn, 1) := by decide +kernel
theorem d_Op_order_44 : decode b_Op_order 44 = .ok (.iload_n 2, 1) := by decide +kernel
theorem d_Op_order_45 : decode b_Op_order 45 = .ok (.lookupswitch 73 #[(1, 27), (2, 61)], 27) := by decide +kernel
theorem d_Op_order_72 : decode b_Op_order 72 = .ok (.aload_n 0, 1) := by decide +kernel
theorem d_Op_order_73 : decode b_Op_order 73 = .ok (.getfield 83, 3) := by decide +kernel
theorem d_Op_order_76 : decode b_Op_order 76 = .ok (.aload_n 1, 1) := by decide +kernel
theorem d_Op_order_77 : decode b_Op_order 77 = .ok (.getfield 83, 3) := by decide +kernel
theorem d_Op_order_80 : decode b_Op_order 80 = .ok (.dcmp .g, 1) := by decide +kernel
theorem d_Op_order_81 : decode b_Op_order 81 = .ok (.ifCond .ge 7, 3) := by decide +kernel
theorem d_Op_order_84 : decode b_Op_order 84 = .ok (.iconst (-1), 1) := by decide +kernel
theorem d_Op_order_85 : decode b_Op_order 85 = .ok (.goto 20, 3) := by decide +kernel
theorem d_Op_order_88 : decode b_Op_order 88 = .ok (.aload_n 0, 1) := by decide +kernel
theorem d_Op_order_89 : decode b_Op_order 89 = .ok (.getfield 83, 3) := by decide +kernel
theorem d_Op_order_92 : decode b_Op_order 92 = .ok (.aload_n 1, 1) := by decide +kernel
theorem d_Op_order_93 : decode b_Op_order 93 = .ok (.getfield 83, 3) := by decide +kernel
theorem d_Op_order_96 : decode b_Op_order 96 = .ok (.dcmp .l, 1) := by decide +kernel
theorem d_Op_order_97 : decode b_Op_order 97 = .ok (.ifCond .le 7, 3) := by decide +kernel
theorem d_Op_order_100 : decode b_Op_order 100 = .ok (.iconst 1, 1) := by decide +kernel
theorem d_Op_order_101 : decode b_Op_order 101 = .ok (.goto 4, 3) := by decide +kernel
theorem d_Op_order_104 : decode b_Op_order 104 = .ok (.iconst 0, 1) := by decide +kernel
theorem d_Op_order_105 : decode b_Op_order 105 = .ok (.ireturn, 1) := by decide +kernel
theorem d_Op_order_106 : decode b_Op_order 106 = .ok (.aload_n 0, 1) := by decide +kernel
theorem d_Op_order_107 : decode b_Op_order 107 = .ok (.getfield 86, 3) := by decide +kernel
theorem d_Op_order_110 : decode b_Op_order 110 = .ok (.aload_n 1, 1) := by decide +kernel
theorem d_Op_order_111 : decode b_Op_order 111 = .ok (.getfield 86, 3) := by decide +kernel
theorem d_Op_order_114 : decode b_Op_order 114 = .ok (.invokestatic 90, 3) := by decide +kernel
theorem d_Op_order_117 : decode b_Op_order 117 = .ok (.ireturn, 1) := by decide +kernel
theorem d_Op_order_118 : decode b_Op_order 118 = .ok (.aload_n 0, 1) := by decide +kernel
theorem d_Op_order_119 : decode b_Op_order 119 = .ok (.getfield 95, 3) := by decide +kernel
theorem d_Op_order_122 : decode b_Op_order 122 = .ok (.aload_n 1, 1) := by decide +kernel
theorem d_Op_order_123 : decode b_Op_order 123 = .ok (.getfield 95, 3) := by decide +kernel
theorem d_Op_order_126 : decode b_Op_order 126 = .ok (.isub, 1) := by decide +kernel
theorem d_Op_order_127 : decode b_Op_order 127 = .ok (.ireturn, 1) := by decide +kernel
theorem p_Op_order_b105 (d : Nat)  (s0 : Int32) (h : gk_H) : gk_P gw_I (d + 5) y_Op_order b_Op_order 4 (some .int) [] (f_Op_order_b105  s0 h) 105 [] [.int s0] h := by
  unfold f_Op_order_b105
  exact gk_iret (pc := 105) rfl d_Op_order_105 rfl
theorem p_Op_order_b34 (d : Nat)  (v0 : Option Nat) (v1 : Option Nat) (v2 : Int32) (s0 : Int32) (h : gk_H) : gk_P gw_I (d + 5) y_Op_order b_Op_order 4 (some .int) [] (f_Op_order_b34  v0 v1 v2 s0 h) 34 [(0, va_rf v0), (1, va_rf v1), (2, .int v2)] [.int s0] h := by
  unfold f_Op_order_b34
  refine gk_istore_n (pc := 34) (L' := [(3, .int s0), (0, va_rf v0), (1, va_rf v1), (2, .int v2)]) d_Op_order_34 (Nat.le_of_ble_eq_true rfl) rfl ?_
  refine gk_iload_n (pc := 35) 3 d_Op_order_35 rfl ?_
  refine gk_iload_n (pc := 36) 0 d_Op_order_36 rfl ?_
  refine gk_icmp_eq (pc := 37) 44 d_Op_order_37 rfl (fun _ => ?_) (fun _ => ?_)
  · refine gk_iload_n (pc := 44) 3 d_Op_order_44 rfl ?_
    refine gk_ite (fun z45_0 => ?_) (fun z45_0 => ?_)
    · refine gk_lsw (pc := 45) 72 d_Op_order_45 (by decide) (by rw [z45_0]) rfl ?_
      refine gk_aload_n (pc := 72) 1 d_Op_order_72 rfl ?_
      refine gk_getD (pc := 73) 2 2 d_Op_order_73 rfl (Nat.le_of_ble_eq_true rfl) tw_199 fun x1 => ?_
      refine gk_aload_n (pc := 76) 2 d_Op_order_76 rfl ?_
      refine gk_getD (pc := 77) 2 2 d_Op_order_77 rfl (Nat.le_of_ble_eq_true rfl) tw_199 fun x2 => ?_
      refine gk_dcmp (pc := 80) d_Op_order_80 ?_
      refine gk_if_ge (pc := 81) 88 d_Op_order_81 rfl (fun _ => ?_) (fun _ => ?_)
      · refine gk_aload_n (pc := 88) 1 d_Op_order_88 rfl ?_
        refine gk_getD (pc := 89) 2 2 d_Op_order_89 rfl (Nat.le_of_ble_eq_true rfl) tw_199 fun x3 => ?_
        refine gk_aload_n (pc := 92) 2 d_Op_order_92 rfl ?_
        refine gk_getD (pc := 93) 2 2 d_Op_order_93 rfl (Nat.le_of_ble_eq_true rfl) tw_199 fun x4 => ?_
        refine gk_dcmp (pc := 96) d_Op_order_96 ?_
        refine gk_if_le (pc := 97) 104 d_Op_order_97 rfl (fun _ => ?_) (fun _ => ?_)
        · refine gk_iconst (pc := 104) (0 : Int32) d_Op_order_104 rfl ?_
          refine gk_weak [] (L' := []) rfl ?_
          exact p_Op_order_b105 d (0 : Int32) h
        · refine gk_iconst (pc := 100) (1 : Int32) d_Op_order_100 rfl ?_
          refine gk_goto (pc := 101) 105 d_Op_order_101 rfl ?_
          refine gk_weak [] (L' := []) rfl ?_
          exact p_Op_order_b105 d (1 : Int32) h
      · refine gk_iconst (pc := 84) (-1 : Int32) d_Op_order_84 rfl ?_
        refine gk_goto (pc := 85) 105 d_Op_order_85 rfl ?_
        refine gk_weak [] (L' := []) rfl ?_
        exact p_Op_order_b105 d (-1 : Int32) h
    ·
      refine gk_ite (fun z45_1 => ?_) (fun z45_1 => ?_)
      · refine gk_lsw (pc := 45) 106 d_Op_order_45 (by decide) (by rw [z45_1]) rfl ?_
        refine gk_aload_n (pc := 106) 1 d_Op_order_106 rfl ?_
        refine gk_getR (pc := 107) 2 3 d_Op_order_107 rfl (Nat.le_of_ble_eq_true rfl) tw_207 fun x5 => ?_
        refine gk_aload_n (pc := 110) 2 d_Op_order_110 rfl ?_
        refine gk_getR (pc := 111) 2 3 d_Op_order_111 rfl (Nat.le_of_ble_eq_true rfl) tw_207 fun x6 => ?_
        refine gk_callS (pc := 114) (d := (d + 4)) (w' := gv_I) (as := [va_rf x5, va_rf x6]) (n := 2) d_Op_order_114 rfl rfl (Nat.le_of_ble_eq_true rfl) tw_976 tw_977 tw_116 cw_Le_order hy_Le_order (Nat.le_of_ble_eq_true rfl) (p_Le_order d x5 x6 h) fun x7 h1 => ?_
        exact gk_iret (pc := 117) rfl d_Op_order_117 rfl
      ·
        refine gk_lsw (pc := 45) 118 d_Op_order_45 (by decide) (by show Op.lookupswitch.offset [(1, 27), (2, 61)] _ _ = _; rw [lv_osw z45_0 (by decide), lv_osw z45_1 (by decide)]) rfl ?_
        refine gk_aload_n (pc := 118) 1 d_Op_order_118 rfl ?_
        refine gk_getI (pc := 119) 2 1 d_Op_order_119 rfl (Nat.le_of_ble_eq_true rfl) tw_195 fun x8 => ?_
        refine gk_aload_n (pc := 122) 2 d_Op_order_122 rfl ?_
        refine gk_getI (pc := 123) 2 1 d_Op_order_123 rfl (Nat.le_of_ble_eq_true rfl) tw_195 fun x9 => ?_
        refine gk_isub (pc := 126) d_Op_order_126 ?_
        exact gk_iret (pc := 127) rfl d_Op_order_127 rfl
  · refine gk_iload_n (pc := 40) 3 d_Op_order_40 rfl ?_
    refine gk_iload_n (pc := 41) 0 d_Op_order_41 rfl ?_
    refine gk_isub (pc := 42) d_Op_order_42 ?_
    exact gk_iret (pc := 43) rfl d_Op_order_43 rfl
theorem p_Op_order_b18 (d : Nat)  (v0 : Option Nat) (v1 : Option Nat) (s0 : Int32) (h : gk_H) : gk_P gw_I (d + 5) y_Op_order b_Op_order 4 (some .int) [] (f_Op_order_b18  v0 v1 s0 h) 18 [(0, va_rf v0), (1, va_rf v1)] [.int s0] h := by
  unfold f_Op_order_b18
  refine gk_istore_n (pc := 18) (L' := [(2, .int s0), (0, va_rf v0), (1, va_rf v1)]) d_Op_order_18 (Nat.le_of_ble_eq_true rfl) (by simp [gk_s1, gk_s2, gk_cat_rf, gk_catI, gk_catJ, gk_catD] <;> decide) ?_
  refine gk_aload_n (pc := 19) 2 d_Op_order_19 rfl ?_
  refine gk_getI (pc := 20) 2 0 d_Op_order_20 rfl (Nat.le_of_ble_eq_true rfl) tw_188 fun x1 => ?_
  refine gk_if_ne (pc := 23) 30 d_Op_order_23 rfl (fun _ => ?_) (fun _ => ?_)
  · refine gk_iload_n (pc := 26) 0 d_Op_order_26 rfl ?_
    refine gk_goto (pc := 27) 34 d_Op_order_27 rfl ?_
    refine gk_weak [1, 2, 0] (L' := [(0, va_rf v0), (1, va_rf v1), (2, .int s0)]) rfl ?_
    exact p_Op_order_b34 d v0 v1 s0 s0 h
  · refine gk_aload_n (pc := 30) 2 d_Op_order_30 rfl ?_
    refine gk_getI (pc := 31) 2 0 d_Op_order_31 rfl (Nat.le_of_ble_eq_true rfl) tw_188 fun x2 => ?_
    refine gk_weak [1, 2, 0] (L' := [(0, va_rf v0), (1, va_rf v1), (2, .int s0)]) rfl ?_
    exact p_Op_order_b34 d v0 v1 s0 x2 h
theorem w_Op_order (d : Nat) (a0 : Option Nat) (a1 : Option Nat) (h : gk_H) : gk_P gw_I (d + 5) y_Op_order b_Op_order 4 (some .int) [] (f_Op_order a0 a1 h) 0 [(0, va_rf a0), (1, va_rf a1)] [] h := by
  unfold f_Op_order
  refine gk_aload_n (pc := 0) 0 d_Op_order_0 rfl ?_
  refine gk_getI (pc := 1) 2 0 d_Op_order_1 rfl (Nat.le_of_ble_eq_true rfl) tw_188 fun x1 => ?_
  refine gk_if_ne (pc := 4) 14 d_Op_order_4 rfl (fun _ => ?_) (fun _ => ?_)
  · refine gk_aload_n (pc := 7) 1 d_Op_order_7 rfl ?_
    refine gk_getI (pc := 8) 2 0 d_Op_order_8 rfl (Nat.le_of_ble_eq_true rfl) tw_188 fun x2 => ?_
    refine gk_goto (pc := 11) 18 d_Op_order_11 rfl ?_
    exact p_Op_order_b18 d a0 a1 x2 h
  · refine gk_aload_n (pc := 14) 0 d_Op_order_14 rfl ?_
    refine gk_getI (pc := 15) 2 0 d_Op_order_15 rfl (Nat.le_of_ble_eq_true rfl) tw_188 fun x3 => ?_
    exact p_Op_order_b18 d a0 a1 x3 h
theorem p_Op_order (d : Nat) (a0 : Option Nat) (a1 : Option Nat) (h : gk_H) : ∀ r h1, f_Op_order a0 a1 h = some (r, h1) → gk_M (d + 5) y_Op_order b_Op_order 4 (some .int) [va_rf a0, va_rf a1] h (.inl (gv_I r)) h1 :=
  fun r h1 e => gk_M_of2 (by decide +kernel) (by simp [lv_args, gk_cat_rf, gk_catI, gk_catJ, gk_catD, gv_V, gv_I, gv_J, gv_D, gv_R]) (by simp [lg_sl, gk_cat_rf, gk_catI, gk_catJ, gk_catD, gv_V, gv_I, gv_J, gv_D, gv_R]) (w_Op_order d a0 a1 h r h1 e)
theorem d_Op_stands_0 : decode b_Op_stands 0 = .ok (.iload_n 0, 1) := by decide +kernel
theorem d_Op_stands_1 : decode b_Op_stands 1 = .ok (.tableswitch 85 8 12 #[35, 45, 55, 65, 75], 35) := by decide +kernel
theorem d_Op_stands_36 : decode b_Op_stands 36 = .ok (.iload_n 1, 1) := by decide +kernel
theorem d_Op_stands_37 : decode b_Op_stands 37 = .ok (.ifCond .ne 7, 3) := by decide +kernel
theorem d_Op_stands_40 : decode b_Op_stands 40 = .ok (.iconst 1, 1) := by decide +kernel
theorem d_Op_stands_41 : decode b_Op_stands 41 = .ok (.goto 4, 3) := by decide +kernel
theorem d_Op_stands_44 : decode b_Op_stands 44 = .ok (.iconst 0, 1) := by decide +kernel
theorem d_Op_stands_45 : decode b_Op_stands 45 = .ok (.ireturn, 1) := by decide +kernel
theorem d_Op_stands_46 : decode b_Op_stands 46 = .ok (.iload_n 1, 1) := by decide +kernel
theorem d_Op_stands_47 : decode b_Op_stands 47 = .ok (.ifCond .eq 7, 3) := by decide +kernel
theorem d_Op_stands_50 : decode b_Op_stands 50 = .ok (.iconst 1, 1) := by decide +kernel
theorem d_Op_stands_51 : decode b_Op_stands 51 = .ok (.goto 4, 3) := by decide +kernel
theorem d_Op_stands_54 : decode b_Op_stands 54 = .ok (.iconst 0, 1) := by decide +kernel
theorem d_Op_stands_55 : decode b_Op_stands 55 = .ok (.ireturn, 1) := by decide +kernel
theorem d_Op_stands_56 : decode b_Op_stands 56 = .ok (.iload_n 1, 1) := by decide +kernel
theorem d_Op_stands_57 : decode b_Op_stands 57 = .ok (.ifCond .ge 7, 3) := by decide +kernel
theorem d_Op_stands_60 : decode b_Op_stands 60 = .ok (.iconst 1, 1) := by decide +kernel
theorem d_Op_stands_61 : decode b_Op_stands 61 = .ok (.goto 4, 3) := by decide +kernel
theorem d_Op_stands_64 : decode b_Op_stands 64 = .ok (.iconst 0, 1) := by decide +kernel
theorem d_Op_stands_65 : decode b_Op_stands 65 = .ok (.ireturn, 1) := by decide +kernel
theorem d_Op_stands_66 : decode b_Op_stands 66 = .ok (.iload_n 1, 1) := by decide +kernel
theorem d_Op_stands_67 : decode b_Op_stands 67 = .ok (.ifCond .le 7, 3) := by decide +kernel
theorem d_Op_stands_70 : decode b_Op_stands 70 = .ok (.iconst 1, 1) := by decide +kernel
theorem d_Op_stands_71 : decode b_Op_stands 71 = .ok (.goto 4, 3) := by decide +kernel
theorem d_Op_stands_74 : decode b_Op_stands 74 = .ok (.iconst 0, 1) := by decide +kernel
theorem d_Op_stands_75 : decode b_Op_stands 75 = .ok (.ireturn, 1) := by decide +kernel
theorem d_Op_stands_76 : decode b_Op_stands 76 = .ok (.iload_n 1, 1) := by decide +kernel
theorem d_Op_stands_77 : decode b_Op_stands 77 = .ok (.ifCond .gt 7, 3) := by decide +kernel
theorem d_Op_stands_80 : decode b_Op_stands 80 = .ok (.iconst 1, 1) := by decide +kernel
theorem d_Op_stands_81 : decode b_Op_stands 81 = .ok (.goto 4, 3) := by decide +kernel
theorem d_Op_stands_84 : decode b_Op_stands 84 = .ok (.iconst 0, 1) := by decide +kernel
theorem d_Op_stands_85 : decode b_Op_stands 85 = .ok (.ireturn, 1) := by decide +kernel
theorem d_Op_stands_86 : decode b_Op_stands 86 = .ok (.iload_n 1, 1) := by decide +kernel
theorem d_Op_stands_87 : decode b_Op_stands 87 = .ok (.ifCond .lt 7, 3) := by decide +kernel
theorem d_Op_stands_90 : decode b_Op_stands 90 = .ok (.iconst 1, 1) := by decide +kernel
theorem d_Op_stands_91 : decode b_Op_stands 91 = .ok (.goto 4, 3) := by decide +kernel
theorem d_Op_stands_94 : decode b_Op_stands 94 = .ok (.iconst 0, 1) := by decide +kernel
theorem d_Op_stands_95 : decode b_Op_stands 95 = .ok (.ireturn, 1) := by decide +kernel
theorem p_Op_stands_b95 (d : Nat)  (s0 : Int32) (h : gk_H) : gk_P gw_I d y_Op_stands b_Op_stands 2 (some .boolean) [] (f_Op_stands_b95  s0 h) 95 [] [.int s0] h := by
  unfold f_Op_stands_b95
  exact gk_zret (pc := 95) rfl d_Op_stands_95 rfl
theorem p_Op_stands_b45 (d : Nat)  (s0 : Int32) (h : gk_H) : gk_P gw_I d y_Op_stands b_Op_stands 2 (some .boolean) [] (f_Op_stands_b45  s0 h) 45 [] [.int s0] h := by
  unfold f_Op_stands_b45
  exact gk_zret (pc := 45) rfl d_Op_stands_45 rfl
theorem p_Op_stands_b55 (d : Nat)  (s0 : Int32) (h : gk_H) : gk_P gw_I d y_Op_stands b_Op_stands 2 (some .boolean) [] (f_Op_stands_b55  s0 h) 55 [] [.int s0] h := by
  unfold f_Op_stands_b55
  exact gk_zret (pc := 55) rfl d_Op_stands_55 rfl
theorem p_Op_stands_b65 (d : Nat)  (s0 : Int32) (h : gk_H) : gk_P gw_I d y_Op_stands b_Op_stands 2 (some .boolean) [] (f_Op_stands_b65  s0 h) 65 [] [.int s0] h := by
  unfold f_Op_stands_b65
  exact gk_zret (pc := 65) rfl d_Op_stands_65 rfl
theorem p_Op_stands_b75 (d : Nat)  (s0 : Int32) (h : gk_H) : gk_P gw_I d y_Op_stands b_Op_stands 2 (some .boolean) [] (f_Op_stands_b75  s0 h) 75 [] [.int s0] h := by
  unfold f_Op_stands_b75
  exact gk_zret (pc := 75) rfl d_Op_stands_75 rfl
theorem p_Op_stands_b85 (d : Nat)  (s0 : Int32) (h : gk_H) : gk_P gw_I d y_Op_stands b_Op_stands 2 (some .boolean) [] (f_Op_stands_b85  s0 h) 85 [] [.int s0] h := by
  unfold f_Op_stands_b85
  exact gk_zret (pc := 85) rfl d_Op_stands_85 rfl
theorem w_Op_stands (d : Nat) (a0 : Int32) (a1 : Int32) (h : gk_H) : gk_P gw_I d y_Op_stands b_Op_stands 2 (some .boolean) [] (f_Op_stands a0 a1 h) 0 [(0, .int a0), (1, .int a1)] [] h := by
  unfold f_Op_stands
  refine gk_iload_n (pc := 0) 0 d_Op_stands_0 rfl ?_
  refine gk_ite (fun z1_0 => ?_) (fun z1_0 => ?_)
  · refine gk_tsw_in (pc := 1) (8 : Int32) 36 d_Op_stands_1 z1_0 (by decide) (by decide) rfl rfl ?_
    refine gk_iload_n (pc := 36) 1 d_Op_stands_36 rfl ?_
    refine gk_if_ne (pc := 37) 44 d_Op_stands_37 rfl (fun _ => ?_) (fun _ => ?_)
    · refine gk_iconst (pc := 40) (1 : Int32) d_Op_stands_40 rfl ?_
      refine gk_goto (pc := 41) 45 d_Op_stands_41 rfl ?_
      refine gk_weak [] (L' := []) rfl ?_
      exact p_Op_stands_b45 d (1 : Int32) h
    · refine gk_iconst (pc := 44) (0 : Int32) d_Op_stands_44 rfl ?_
      refine gk_weak [] (L' := []) rfl ?_
      exact p_Op_stands_b45 d (0 : Int32) h
  ·
    refine gk_ite (fun z1_1 => ?_) (fun z1_1 => ?_)
    · refine gk_tsw_in (pc := 1) (9 : Int32) 46 d_Op_stands_1 z1_1 (by decide) (by decide) rfl rfl ?_
      refine gk_iload_n (pc := 46) 1 d_Op_stands_46 rfl ?_
      refine gk_if_eq (pc := 47) 54 d_Op_stands_47 rfl (fun _ => ?_) (fun _ => ?_)
      · refine gk_iconst (pc := 54) (0 : Int32) d_Op_stands_54 rfl ?_
        refine gk_weak [] (L' := []) rfl ?_
        exact p_Op_stands_b55 d (0 : Int32) h
      · refine gk_iconst (pc := 50) (1 : Int32) d_Op_stands_50 rfl ?_
        refine gk_goto (pc := 51) 55 d_Op_stands_51 rfl ?_
        refine gk_weak [] (L' := []) rfl ?_
        exact p_Op_stands_b55 d (1 : Int32) h
    ·
      refine gk_ite (fun z1_2 => ?_) (fun z1_2 => ?_)
      · refine gk_tsw_in (pc := 1) (10 : Int32) 56 d_Op_stands_1 z1_2 (by decide) (by decide) rfl rfl ?_
        refine gk_iload_n (pc := 56) 1 d_Op_stands_56 rfl ?_
        refine gk_if_ge (pc := 57) 64 d_Op_stands_57 rfl (fun _ => ?_) (fun _ => ?_)
        · refine gk_iconst (pc := 64) (0 : Int32) d_Op_stands_64 rfl ?_
          refine gk_weak [] (L' := []) rfl ?_
          exact p_Op_stands_b65 d (0 : Int32) h
        · refine gk_iconst (pc := 60) (1 : Int32) d_Op_stands_60 rfl ?_
          refine gk_goto (pc := 61) 65 d_Op_stands_61 rfl ?_
          refine gk_weak [] (L' := []) rfl ?_
          exact p_Op_stands_b65 d (1 : Int32) h
      ·
        refine gk_ite (fun z1_3 => ?_) (fun z1_3 => ?_)
        · refine gk_tsw_in (pc := 1) (11 : Int32) 66 d_Op_stands_1 z1_3 (by decide) (by decide) rfl rfl ?_
          refine gk_iload_n (pc := 66) 1 d_Op_stands_66 rfl ?_
          refine gk_if_le (pc := 67) 74 d_Op_stands_67 rfl (fun _ => ?_) (fun _ => ?_)
          · refine gk_iconst (pc := 74) (0 : Int32) d_Op_stands_74 rfl ?_
            refine gk_weak [] (L' := []) rfl ?_
            exact p_Op_stands_b75 d (0 : Int32) h
          · refine gk_iconst (pc := 70) (1 : Int32) d_Op_stands_70 rfl ?_
            refine gk_goto (pc := 71) 75 d_Op_stands_71 rfl ?_
            refine gk_weak [] (L' := []) rfl ?_
            exact p_Op_stands_b75 d (1 : Int32) h
        ·
          refine gk_ite (fun z1_4 => ?_) (fun z1_4 => ?_)
          · refine gk_tsw_in (pc := 1) (12 : Int32) 76 d_Op_stands_1 z1_4 (by decide) (by decide) rfl rfl ?_
            refine gk_iload_n (pc := 76) 1 d_Op_stands_76 rfl ?_
            refine gk_if_gt (pc := 77) 84 d_Op_stands_77 rfl (fun _ => ?_) (fun _ => ?_)
            · refine gk_iconst (pc := 84) (0 : Int32) d_Op_stands_84 rfl ?_
              refine gk_weak [] (L' := []) rfl ?_
              exact p_Op_stands_b85 d (0 : Int32) h
            · refine gk_iconst (pc := 80) (1 : Int32) d_Op_stands_80 rfl ?_
              refine gk_goto (pc := 81) 85 d_Op_stands_81 rfl ?_
              refine gk_weak [] (L' := []) rfl ?_
              exact p_Op_stands_b85 d (1 : Int32) h
          ·
            refine gk_tsw_out (pc := 1) 86 d_Op_stands_1 (by have e0 := gk_neT z1_0 (by decide : (8 : Int32).toInt = 8); have e1 := gk_neT z1_1 (by decide : (9 : Int32).toInt = 9); have e2 := gk_neT z1_2 (by decide : (10 : Int32).toInt = 10); have e3 := gk_neT z1_3 (by decide : (11 : Int32).toInt = 11); have e4 := gk_neT z1_4 (by decide : (12 : Int32).toInt = 12); omega) rfl ?_
            refine gk_iload_n (pc := 86) 1 d_Op_stands_86 rfl ?_
            refine gk_if_lt (pc := 87) 94 d_Op_stands_87 rfl (fun _ => ?_) (fun _ => ?_)
            · refine gk_iconst (pc := 94) (0 : Int32) d_Op_stands_94 rfl ?_
              refine gk_weak [] (L' := []) rfl ?_
              exact p_Op_stands_b95 d (0 : Int32) h
            · refine gk_iconst (pc := 90) (1 : Int32) d_Op_stands_90 rfl ?_
              refine gk_goto (pc := 91) 95 d_Op_stands_91 rfl ?_
              refine gk_weak [] (L' := []) rfl ?_
              exact p_Op_stands_b95 d (1 : Int32) h
theorem p_Op_stands (d : Nat) (a0 : Int32) (a1 : Int32) (h : gk_H) : ∀ r h1, f_Op_stands a0 a1 h = some (r, h1) → gk_M d y_Op_stands b_Op_stands 2 (some .boolean) [.int a0, .int a1] h (.inl (gv_I r)) h1 :=
  fun r h1 e => gk_M_of2 (by decide +kernel) (by simp [lv_args, gk_cat_rf, gk_catI, gk_catJ, gk_catD, gv_V, gv_I, gv_J, gv_D, gv_R]) (by simp [lg_sl, gk_cat_rf, gk_catI, gk_catJ, gk_catD, gv_V, gv_I, gv_J, gv_D, gv_R]) (w_Op_stands d a0 a1 h r h1 e)
theorem d_Am_sizeOf_0 : decode b_Am_sizeOf 0 = .ok (.dload_n 0, 1) := by decide +kernel
theorem d_Am_sizeOf_1 : decode b_Am_sizeOf 1 = .ok (.dconst 0, 1) := by decide +kernel
theorem d_Am_sizeOf_2 : decode b_Am_sizeOf 2 = .ok (.dcmp .g, 1) := by decide +kernel
theorem d_Am_sizeOf_3 : decode b_Am_sizeOf 3 = .ok (.ifCond .ge 9, 3) := by decide +kernel
theorem d_Am_sizeOf_6 : decode b_Am_sizeOf 6 = .ok (.dconst 0, 1) := by decide +kernel
theorem d_Am_sizeOf_7 : decode b_Am_sizeOf 7 = .ok (.dload_n 0, 1) := by decide +kernel
theorem d_Am_sizeOf_8 : decode b_Am_sizeOf 8 = .ok (.dsub, 1) := by decide +kernel
theorem d_Am_sizeOf_9 : decode b_Am_sizeOf 9 = .ok (.goto 4, 3) := by decide +kernel
theorem d_Am_sizeOf_12 : decode b_Am_sizeOf 12 = .ok (.dload_n 0, 1) := by decide +kernel
theorem d_Am_sizeOf_13 : decode b_Am_sizeOf 13 = .ok (.dreturn, 1) := by decide +kernel
theorem p_Am_sizeOf_b13 (d : Nat)  (s0 : UInt64) (h : gk_H) : gk_P gw_D d y_Am_sizeOf b_Am_sizeOf 2 (some .double) [] (f_Am_sizeOf_b13  s0 h) 13 [] [.double s0] h := by
  unfold f_Am_sizeOf_b13
  exact gk_dret (pc := 13) rfl d_Am_sizeOf_13 rfl
theorem w_Am_sizeOf (d : Nat) (a0 : UInt64) (h : gk_H) : gk_P gw_D d y_Am_sizeOf b_Am_sizeOf 2 (some .double) [] (f_Am_sizeOf a0 h) 0 [(0, .double a0)] [] h := by
  unfold f_Am_sizeOf
  refine gk_dload_n (pc := 0) 0 d_Am_sizeOf_0 rfl ?_
  refine gk_dconst0 (pc := 1) d_Am_sizeOf_1 ?_
  refine gk_dcmp (pc := 2) d_Am_sizeOf_2 ?_
  refine gk_if_ge (pc := 3) 12 d_Am_sizeOf_3 rfl (fun _ => ?_) (fun _ => ?_)
  · refine gk_dload_n (pc := 12) 0 d_Am_sizeOf_12 rfl ?_
    refine gk_weak [] (L' := []) rfl ?_
    exact p_Am_sizeOf_b13 d a0 h
  · refine gk_dconst0 (pc := 6) d_Am_sizeOf_6 ?_
    refine gk_dload_n (pc := 7) 0 d_Am_sizeOf_7 rfl ?_
    refine gk_dsubN (pc := 8) d_Am_sizeOf_8 fun x1 => ?_
    refine gk_goto (pc := 9) 13 d_Am_sizeOf_9 rfl ?_
    refine gk_weak [] (L' := []) rfl ?_
    exact p_Am_sizeOf_b13 d x1 h
theorem p_Am_sizeOf (d : Nat) (a0 : UInt64) (h : gk_H) : ∀ r h1, f_Am_sizeOf a0 h = some (r, h1) → gk_M d y_Am_sizeOf b_Am_sizeOf 2 (some .double) [.double a0] h (.inl (gv_D r)) h1 :=
  fun r h1 e => gk_M_of2 (by decide +kernel) (by simp [lv_args, gk_cat_rf, gk_catI, gk_catJ, gk_catD, gv_V, gv_I, gv_J, gv_D, gv_R]) (by simp [lg_sl, gk_cat_rf, gk_catI, gk_catJ, gk_catD, gv_V, gv_I, gv_J, gv_D, gv_R]) (w_Am_sizeOf d a0 h r h1 e)
theorem d_Am_powerOfSize_0 : decode b_Am_powerOfSize 0 = .ok (.dconst 1, 1) := by decide +kernel
theorem d_Am_powerOfSize_1 : decode b_Am_powerOfSize 1 = .ok (.dstore_n 3, 1) := by decide +kernel
theorem d_Am_powerOfSize_2 : decode b_Am_powerOfSize 2 = .ok (.dload_n 0, 1) := by decide +kernel
theorem d_Am_powerOfSize_3 : decode b_Am_powerOfSize 3 = .ok (.dstore 5, 2) := by decide +kernel
theorem d_Am_powerOfSize_5 : decode b_Am_powerOfSize 5 = .ok (.iload_n 2, 1) := by decide +kernel
theorem d_Am_powerOfSize_6 : decode b_Am_powerOfSize 6 = .ok (.istore 7, 2) := by decide +kernel
theorem d_Am_powerOfSize_8 : decode b_Am_powerOfSize 8 = .ok (.iload 7, 2) := by decide +kernel
theorem d_Am_powerOfSize_10 : decode b_Am_powerOfSize 10 = .ok (.ifCond .le 58, 3) := by decide +kernel
theorem d_Am_powerOfSize_13 : decode b_Am_powerOfSize 13 = .ok (.iload 7, 2) := by decide +kernel
theorem d_Am_powerOfSize_15 : decode b_Am_powerOfSize 15 = .ok (.iconst 2, 1) := by decide +kernel
theorem d_Am_powerOfSize_16 : decode b_Am_powerOfSize 16 = .ok (.irem, 1) := by decide +kernel
theorem d_Am_powerOfSize_17 : decode b_Am_powerOfSize 17 = .ok (.iconst 1, 1) := by decide +kernel
theorem d_Am_powerOfSize_18 : decode b_Am_powerOfSize 18 = .ok (.if_icmp .ne 8, 3) := by decide +kernel
theorem d_Am_powerOfSize_21 : decode b_Am_powerOfSize 21 = .ok (.dload_n 3, 1) := by decide +kernel
theorem d_Am_powerOfSize_22 : decode b_Am_powerOfSize 22 = .ok (.dload 5, 2) := by decide +kernel
theorem d_Am_powerOfSize_24 : decode b_Am_powerOfSize 24 = .ok (.dmul, 1) := by decide +kernel
theorem d_Am_powerOfSize_25 : decode b_Am_powerOfSize 25 = .ok (.dstore_n 3, 1) := by decide +kernel
theorem d_Am_powerOfSize_26 : decode b_Am_powerOfSize 26 = .ok (.dload_n 3, 1) := by decide +kernel
theorem d_Am_powerOfSize_27 : decode b_Am_powerOfSize 27 = .ok (.invokestatic 105, 3) := by decide +kernel
theorem d_Am_powerOfSize_30 : decode b_Am_powerOfSize 30 = .ok (.ifCond .ne 5, 3) := by decide +kernel
theorem d_Am_powerOfSize_33 : decode b_Am_powerOfSize 33 = .ok (.dload_n 3, 1) := by decide +kernel
theorem d_Am_powerOfSize_34 : decode b_Am_powerOfSize 34 = .ok (.dreturn, 1) := by decide +kernel
theorem d_Am_powerOfSize_35 : decode b_Am_powerOfSize 35 = .ok (.iload 7, 2) := by decide +kernel
theorem d_Am_powerOfSize_37 : decode b_Am_powerOfSize 37 = .ok (.iconst 1, 1) := by decide +kernel
theorem d_Am_powerOfSize_38 : decode b_Am_powerOfSize 38 = .ok (.if_icmp .le 10, 3) := by decide +kernel
theorem d_Am_powerOfSize_41 : decode b_Am_powerOfSize 41 = .ok (.dload 5, 2) := by decide +kernel
theorem d_Am_powerOfSize_43 : decode b_Am_powerOfSize 43 = .ok (.dload 5, 2) := by decide +kernel
theorem d_Am_powerOfSize_45 : decode b_Am_powerOfSize 45 = .ok (.dmul, 1) := by decide +kernel
theorem d_Am_powerOfSize_46 : decode b_Am_powerOfSize 46 = .ok (.dstore 5, 2) := by decide +kernel
theorem d_Am_powerOfSize_48 : decode b_Am_powerOfSize 48 = .ok (.dload 5, 2) := by decide +kernel
theorem d_Am_powerOfSize_50 : decode b_Am_powerOfSize 50 = .ok (.invokestatic 105, 3) := by decide +kernel
theorem d_Am_powerOfSize_53 : decode b_Am_powerOfSize 53 = .ok (.ifCond .ne 6, 3) := by decide +kernel
theorem d_Am_powerOfSize_56 : decode b_Am_powerOfSize 56 = .ok (.dload 5, 2) := by decide +kernel
theorem d_Am_powerOfSize_58 : decode b_Am_powerOfSize 58 = .ok (.dreturn, 1) := by decide +kernel
theorem d_Am_powerOfSize_59 : decode b_Am_powerOfSize 59 = .ok (.iload 7, 2) := by decide +kernel
theorem d_Am_powerOfSize_61 : decode b_Am_powerOfSize 61 = .ok (.iconst 2, 1) := by decide +kernel
theorem d_Am_powerOfSize_62 : decode b_Am_powerOfSize 62 = .ok (.idiv, 1) := by decide +kernel
theorem d_Am_powerOfSize_63 : decode b_Am_powerOfSize 63 = .ok (.istore 7, 2) := by decide +kernel
theorem d_Am_powerOfSize_65 : decode b_Am_powerOfSize 65 = .ok (.goto (-57), 3) := by decide +kernel
theorem d_Am_powerOfSize_68 : decode b_Am_powerOfSize 68 = .ok (.dload_n 3, 1) := by decide +kernel
theorem d_Am_powerOfSize_69 : decode b_Am_powerOfSize 69 = .ok (.dreturn, 1) := by decide +kernel
theorem p_Am_powerOfSize_b48 (d : Nat) (b8 : UInt64 → UInt64 → Int32 → gk_H → Option (UInt64 × gk_H)) (q8 : ∀ (v3 : UInt64) (v5 : UInt64) (v7 : Int32) (h : gk_H), gk_P gw_D (d + 1) y_Am_powerOfSize b_Am_powerOfSize 8 (some .double) [] (b8 v3 v5 v7 h) 8 [(3, .double v3), (5, .double v5), (7, .int v7)] [] h) (v3 : UInt64) (v5 : UInt64) (v7 : Int32) (h : gk_H) : gk_P gw_D (d + 1) y_Am_powerOfSize b_Am_powerOfSize 8 (some .double) [] (f_Am_powerOfSize_b48 b8 v3 v5 v7 h) 48 [(3, .double v3), (5, .double v5), (7, .int v7)] [] h := by
  unfold f_Am_powerOfSize_b48
  refine gk_dload (pc := 48) 1 d_Am_powerOfSize_48 rfl ?_
  refine gk_callS (pc := 50) (d := d) (w' := gv_I) (as := [.double v5]) (n := 1) d_Am_powerOfSize_50 rfl rfl (Nat.le_of_ble_eq_true rfl) tw_1003 tw_320 tw_97 cw_Va_isFinite hy_Va_isFinite (Nat.le_of_ble_eq_true rfl) (p_Va_isFinite d v5 h) fun x1 h1 => ?_
  refine gk_if_ne (pc := 53) 59 d_Am_powerOfSize_53 rfl (fun _ => ?_) (fun _ => ?_)
  · refine gk_dload (pc := 56) 1 d_Am_powerOfSize_56 rfl ?_
    exact gk_dret (pc := 58) rfl d_Am_powerOfSize_58 rfl
  · refine gk_iload (pc := 59) 2 d_Am_powerOfSize_59 rfl ?_
    refine gk_iconst (pc := 61) (2 : Int32) d_Am_powerOfSize_61 rfl ?_
    refine gk_idiv (pc := 62) (by decide) d_Am_powerOfSize_62 ?_
    refine gk_topI (pc := 63) fun x2 => ?_
    refine gk_istore (pc := 63) (L' := [(7, .int x2), (3, .double v3), (5, .double v5)]) d_Am_powerOfSize_63 (Nat.le_of_ble_eq_true rfl) rfl ?_
    refine gk_goto (pc := 65) 8 d_Am_powerOfSize_65 rfl ?_
    refine gk_weak [1, 2, 0] (L' := [(3, .double v3), (5, .double v5), (7, .int x2)]) rfl ?_
    exact q8 v3 v5 x2 h1
theorem p_Am_powerOfSize_b26 (d : Nat) (b8 : UInt64 → UInt64 → Int32 → gk_H → Option (UInt64 × gk_H)) (q8 : ∀ (v3 : UInt64) (v5 : UInt64) (v7 : Int32) (h : gk_H), gk_P gw_D (d + 1) y_Am_powerOfSize b_Am_powerOfSize 8 (some .double) [] (b8 v3 v5 v7 h) 8 [(3, .double v3), (5, .double v5), (7, .int v7)] [] h) (v3 : UInt64) (v5 : UInt64) (v7 : Int32) (h : gk_H) : gk_P gw_D (d + 1) y_Am_powerOfSize b_Am_powerOfSize 8 (some .double) [] (f_Am_powerOfSize_b26 b8 v3 v5 v7 h) 26 [(3, .double v3), (5, .double v5), (7, .int v7)] [] h := by
  unfold f_Am_powerOfSize_b26
  refine gk_dload_n (pc := 26) 0 d_Am_powerOfSize_26 rfl ?_
  refine gk_callS (pc := 27) (d := d) (w' := gv_I) (as := [.double v3]) (n := 1) d_Am_powerOfSize_27 rfl rfl (Nat.le_of_ble_eq_true rfl) tw_1003 tw_320 tw_97 cw_Va_isFinite hy_Va_isFinite (Nat.le_of_ble_eq_true rfl) (p_Va_isFinite d v3 h) fun x1 h1 => ?_
  refine gk_if_ne (pc := 30) 35 d_Am_powerOfSize_30 rfl (fun _ => ?_) (fun _ => ?_)
  · refine gk_dload_n (pc := 33) 0 d_Am_powerOfSize_33 rfl ?_
    exact gk_dret (pc := 34) rfl d_Am_powerOfSize_34 rfl
  · refine gk_iload (pc := 35) 2 d_Am_powerOfSize_35 rfl ?_
    refine gk_iconst (pc := 37) (1 : Int32) d_Am_powerOfSize_37 rfl ?_
    refine gk_icmp_le (pc := 38) 48 d_Am_powerOfSize_38 rfl (fun _ => ?_) (fun _ => ?_)
    · exact p_Am_powerOfSize_b48 d b8 q8 v3 v5 v7 h1
    · refine gk_dload (pc := 41) 1 d_Am_powerOfSize_41 rfl ?_
      refine gk_dload (pc := 43) 1 d_Am_powerOfSize_43 rfl ?_
      refine gk_dmulN (pc := 45) d_Am_powerOfSize_45 fun x2 => ?_
      refine gk_dstore (pc := 46) (L' := [(5, .double x2), (3, .double v3), (7, .int v7)]) d_Am_powerOfSize_46 (Nat.le_of_ble_eq_true rfl) rfl ?_
      refine gk_weak [1, 0, 2] (L' := [(3, .double v3), (5, .double x2), (7, .int v7)]) rfl ?_
      exact p_Am_powerOfSize_b48 d b8 q8 v3 x2 v7 h1
theorem p_Am_powerOfSize_b8 (d : Nat)  : ∀ (fu : Nat) (v3 : UInt64) (v5 : UInt64) (v7 : Int32) (h : gk_H), gk_P gw_D (d + 1) y_Am_powerOfSize b_Am_powerOfSize 8 (some .double) [] (f_Am_powerOfSize_b8  fu v3 v5 v7 h) 8 [(3, .double v3), (5, .double v5), (7, .int v7)] [] h := by
  intro fu
  induction fu with
  | zero => intros; exact gk_none
  | succ fu q8 =>
    intro v3 v5 v7 h
    rw [f_Am_powerOfSize_b8]
    refine gk_iload (pc := 8) 2 d_Am_powerOfSize_8 rfl ?_
    refine gk_if_le (pc := 10) 68 d_Am_powerOfSize_10 rfl (fun _ => ?_) (fun _ => ?_)
    · refine gk_dload_n (pc := 68) 0 d_Am_powerOfSize_68 rfl ?_
      exact gk_dret (pc := 69) rfl d_Am_powerOfSize_69 rfl
    · refine gk_iload (pc := 13) 2 d_Am_powerOfSize_13 rfl ?_
      refine gk_iconst (pc := 15) (2 : Int32) d_Am_powerOfSize_15 rfl ?_
      refine gk_irem (pc := 16) (by decide) d_Am_powerOfSize_16 ?_
      refine gk_iconst (pc := 17) (1 : Int32) d_Am_powerOfSize_17 rfl ?_
      refine gk_icmp_ne (pc := 18) 26 d_Am_powerOfSize_18 rfl (fun _ => ?_) (fun _ => ?_)
      · refine gk_dload_n (pc := 21) 0 d_Am_powerOfSize_21 rfl ?_
        refine gk_dload (pc := 22) 1 d_Am_powerOfSize_22 rfl ?_
        refine gk_dmulN (pc := 24) d_Am_powerOfSize_24 fun x1 => ?_
        refine gk_dstore_n (pc := 25) (L' := [(3, .double x1), (5, .double v5), (7, .int v7)]) d_Am_powerOfSize_25 (Nat.le_of_ble_eq_true rfl) rfl ?_
        exact p_Am_powerOfSize_b26 d (f_Am_powerOfSize_b8 fu) q8 x1 v5 v7 h
      · exact p_Am_powerOfSize_b26 d (f_Am_powerOfSize_b8 fu) q8 v3 v5 v7 h
theorem w_Am_powerOfSize (d : Nat) (a0 : UInt64) (a1 : Int32) (h : gk_H) : gk_P gw_D (d + 1) y_Am_powerOfSize b_Am_powerOfSize 8 (some .double) [] (f_Am_powerOfSize a0 a1 h) 0 [(0, .double a0), (2, .int a1)] [] h := by
  unfold f_Am_powerOfSize
  refine gk_dconst1 (pc := 0) d_Am_powerOfSize_0 ?_
  refine gk_dstore_n (pc := 1) (L' := [(3, .double (0x3ff0000000000000)), (0, .double a0), (2, .int a1)]) d_Am_powerOfSize_1 (Nat.le_of_ble_eq_true rfl) rfl ?_
  refine gk_dload_n (pc := 2) 1 d_Am_powerOfSize_2 rfl ?_
  refine gk_dstore (pc := 3) (L' := [(5, .double a0), (3, .double (0x3ff0000000000000)), (0, .double a0), (2, .int a1)]) d_Am_powerOfSize_3 (Nat.le_of_ble_eq_true rfl) rfl ?_
  refine gk_iload_n (pc := 5) 3 d_Am_powerOfSize_5 rfl ?_
  refine gk_istore (pc := 6) (L' := [(7, .int a1), (5, .double a0), (3, .double (0x3ff0000000000000)), (0, .double a0), (2, .int a1)]) d_Am_powerOfSize_6 (Nat.le_of_ble_eq_true rfl) rfl ?_
  refine gk_weak [2, 1, 0] (L' := [(3, .double (0x3ff0000000000000)), (5, .double a0), (7, .int a1)]) rfl ?_
  exact p_Am_powerOfSize_b8 d gk_F (0x3ff0000000000000) a0 a1 h
theorem p_Am_powerOfSize (d : Nat) (a0 : UInt64) (a1 : Int32) (h : gk_H) : ∀ r h1, f_Am_powerOfSize a0 a1 h = some (r, h1) → gk_M (d + 1) y_Am_powerOfSize b_Am_powerOfSize 8 (some .double) [.double a0, .int a1] h (.inl (gv_D r)) h1 :=
  fun r h1 e => gk_M_of2 (by decide +kernel) (by simp [lv_args, gk_cat_rf, gk_catI, gk_catJ, gk_catD, gv_V, gv_I, gv_J, gv_D, gv_R]) (by simp [lg_sl, gk_cat_rf, gk_catI, gk_catJ, gk_catD, gv_V, gv_I, gv_J, gv_D, gv_R]) (w_Am_powerOfSize d a0 a1 h r h1 e)
theorem d_Am_power_0 : decode b_Am_power 0 = .ok (.dload_n 2, 1) := by decide +kernel
theorem d_Am_power_1 : decode b_Am_power 1 = .ok (.ldc2_w 97, 3) := by decide +kernel
theorem d_Am_power_4 : decode b_Am_power 4 = .ok (.dcmp .g, 1) := by decide +kernel
theorem d_Am_power_5 : decode b_Am_power 5 = .ok (.ifCond .lt 20, 3) := by decide +kernel
theorem d_Am_power_8 : decode b_Am_power 8 = .ok (.dload_n 2, 1) := by decide +kernel
theorem d_Am_power_9 : decode b_Am_power 9 = .ok (.ldc2_w 99, 3) := by decide +kernel
theorem d_Am_power_12 : decode b_Am_power 12 = .ok (.dcmp .l, 1) := by decide +kernel
theorem d_Am_power_13 : decode b_Am_power 13 = .ok (.ifCond .gt 12, 3) := by decide +kernel
theorem d_Am_power_16 : decode b_Am_power 16 = .ok (.dload_n 2, 1) := by decide +kernel
theorem d_Am_power_17 : decode b_Am_power 17 = .ok (.invokestatic 92, 3) := by decide +kernel
theorem d_Am_power_20 : decode b_Am_power 20 = .ok (.dload_n 2, 1) := by decide +kernel
theorem d_Am_power_21 : decode b_Am_power 21 = .ok (.dcmp .l, 1) := by decide +kernel
theorem d_Am_power_22 : decode b_Am_power 22 = .ok (.ifCond .eq 9, 3) := by decide +kernel
theorem d_Am_power_25 : decode b_Am_power 25 = .ok (.bipush 6, 2) := by decide +kernel
theorem d_Am_power_27 : decode b_Am_power 27 = .ok (.invokestatic 80, 3) := by decide +kernel
theorem d_Am_power_30 : decode b_Am_power 30 = .ok (.areturn, 1) := by decide +kernel
theorem d_Am_power_31 : decode b_Am_power 31 = .ok (.dload_n 0, 1) := by decide +kernel
theorem d_Am_power_32 : decode b_Am_power 32 = .ok (.dconst 0, 1) := by decide +kernel
theorem d_Am_power_33 : decode b_Am_power 33 = .ok (.dcmp .l, 1) := by decide +kernel
theorem d_Am_power_34 : decode b_Am_power 34 = .ok (.ifCond .ne 25, 3) := by decide +kernel
theorem d_Am_power_37 : decode b_Am_power 37 = .ok (.dload_n 2, 1) := by decide +kernel
theorem d_Am_power_38 : decode b_Am_power 38 = .ok (.dconst 0, 1) := by decide +kernel
theorem d_Am_power_39 : decode b_Am_power 39 = .ok (.dcmp .g, 1) := by decide +kernel
theorem d_Am_power_40 : decode b_Am_power 40 = .ok (.ifCond .gt 19, 3) := by decide +kernel
theorem d_Am_power_43 : decode b_Am_power 43 = .ok (.dload_n 2, 1) := by decide +kernel
theorem d_Am_power_44 : decode b_Am_power 44 = .ok (.dconst 0, 1) := by decide +kernel
theorem d_Am_power_45 : decode b_Am_power 45 = .ok (.dcmp .l, 1) := by decide +kernel
theorem d_Am_power_46 : decode b_Am_power 46 = .ok (.ifCond .ne 8, 3) := by decide +kernel
theorem d_Am_power_49 : decode b_Am_power 49 = .ok (.bipush 6, 2) := by decide +kernel
theorem d_Am_power_51 : decode b_Am_power 51 = .ok (.goto 4, 3) := by decide +kernel
theorem d_Am_power_54 : decode b_Am_power 54 = .ok (.iconst 2, 1) := by decide +kernel
theorem d_Am_power_55 : decode b_Am_power 55 = .ok (.invokestatic 80, 3) := by decide +kernel
theorem d_Am_power_58 : decode b_Am_power 58 = .ok (.areturn, 1) := by decide +kernel
theorem d_Am_power_59 : decode b_Am_power 59 = .ok (.dload_n 0, 1) := by decide +kernel
theorem d_Am_power_60 : decode b_Am_power 60 = .ok (.dload_n 2, 1) := by decide +kernel
theorem d_Am_power_61 : decode b_Am_power 61 = .ok (.invokestatic 13, 3) := by decide +kernel
theorem d_Am_power_64 : decode b_Am_power 64 = .ok (.d2i, 1) := by decide +kernel
theorem d_Am_power_65 : decode b_Am_power 65 = .ok (.invokestatic 101, 3) := by decide +kernel
theorem d_Am_power_68 : decode b_Am_power 68 = .ok (.dstore 4, 2) := by decide +kernel
theorem d_Am_power_70 : decode b_Am_power 70 = .ok (.dload 4, 2) := by decide +kernel
theorem d_Am_power_72 : decode b_Am_power 72 = .ok (.invokestatic 105, 3) := by decide +kernel
theorem d_Am_power_75 : decode b_Am_power 75 = .ok (.ifCond .eq 16, 3) := by decide +kernel
theorem d_Am_power_78 : decode b_Am_power 78 = .ok (.dload_n 2, 1) := by decide +kernel
theorem d_Am_power_79 : decode b_Am_power 79 = .ok (.dconst 0, 1) := by decide +kernel
theorem d_Am_power_80 : decode b_Am_power 80 = .ok (.dcmp .g, 1) := by decide +kernel
theorem d_Am_power_81 : decode b_Am_power 81 = .ok (.ifCond .ge 16, 3) := by decide +kernel
theorem d_Am_power_84 : decode b_Am_power 84 = .ok (.dload 4, 2) := by decide +kernel
theorem d_Am_power_86 : decode b_Am_power 86 = .ok (.dconst 0, 1) := by decide +kernel
theorem d_Am_power_87 : decode b_Am_power 87 = .ok (.dcmp .l, 1) := by decide +kernel
theorem d_Am_power_88 : decode b_Am_power 88 = .ok (.ifCond .ne 9, 3) := by decide +kernel
theorem d_Am_power_91 : decode b_Am_power 91 = .ok (.bipush 6, 2) := by decide +kernel
theorem d_Am_power_93 : decode b_Am_power 93 = .ok (.invokestatic 80, 3) := by decide +kernel
theorem d_Am_power_96 : decode b_Am_power 96 = .ok (.areturn, 1) := by decide +kernel
theorem d_Am_power_97 : decode b_Am_power 97 = .ok (.dload_n 2, 1) := by decide +kernel
theorem d_Am_power_98 : decode b_Am_power 98 = .ok (.dconst 0, 1) := by decide +kernel
theorem d_Am_power_99 : decode b_Am_power 99 = .ok (.dcmp .g, 1) := by decide +kernel
theorem d_Am_power_100 : decode b_Am_power 100 = .ok (.ifCond .ge 10, 3) := by decide +kernel
theorem d_Am_power_103 : decode b_Am_power 103 = .ok (.dconst 1, 1) := by decide +kernel
theorem d_Am_power_104 : decode b_Am_power 104 = .ok (.dload 4, 2) := by decide +kernel
theorem d_Am_power_106 : decode b_Am_power 106 = .ok (.ddiv, 1) := by decide +kernel
theorem d_Am_power_107 : decode b_Am_power 107 = .ok (.goto 5, 3) := by decide +kernel
theorem d_Am_power_110 : decode b_Am_power 110 = .ok (.dload 4, 2) := by decide +kernel
theorem d_Am_power_112 : decode b_Am_power 112 = .ok (.invokestatic 19, 3) := by decide +kernel
theorem d_Am_power_115 : decode b_Am_power 115 = .ok (.areturn, 1) := by decide +kernel
theorem p_Am_power_b25 (d : Nat)   (h : gk_H) : gk_P gw_R (d + 3) y_Am_power b_Am_power 6 (some (.object "ValueAlgebra$Value")) [] (f_Am_power_b25   h) 25 [] [] h := by
  unfold f_Am_power_b25
  refine gk_bipush (pc := 25) (6 : Int32) d_Am_power_25 rfl ?_
  refine gk_callS (pc := 27) (d := (d + 2)) (w' := gv_R) (as := [.int (6 : Int32)]) (n := 1) d_Am_power_27 rfl rfl (Nat.le_of_ble_eq_true rfl) tw_996 tw_236 tw_97 cw_Va_ofError hy_Va_ofError (Nat.le_of_ble_eq_true rfl) (p_Va_ofError d (6 : Int32) h) fun x1 h1 => ?_
  exact gk_aret (pc := 30) rfl d_Am_power_30 rfl (Or.inl ⟨_, rfl⟩)
theorem p_Am_power_b91 (d : Nat)   (h : gk_H) : gk_P gw_R (d + 3) y_Am_power b_Am_power 6 (some (.object "ValueAlgebra$Value")) [] (f_Am_power_b91   h) 91 [] [] h := by
  unfold f_Am_power_b91
  refine gk_bipush (pc := 91) (6 : Int32) d_Am_power_91 rfl ?_
  refine gk_callS (pc := 93) (d := (d + 2)) (w' := gv_R) (as := [.int (6 : Int32)]) (n := 1) d_Am_power_93 rfl rfl (Nat.le_of_ble_eq_true rfl) tw_996 tw_236 tw_97 cw_Va_ofError hy_Va_ofError (Nat.le_of_ble_eq_true rfl) (p_Va_ofError d (6 : Int32) h) fun x1 h1 => ?_
  exact gk_aret (pc := 96) rfl d_Am_power_96 rfl (Or.inl ⟨_, rfl⟩)
theorem p_Am_power_b112 (d : Nat)  (s0 : UInt64) (h : gk_H) : gk_P gw_R (d + 3) y_Am_power b_Am_power 6 (some (.object "ValueAlgebra$Value")) [] (f_Am_power_b112  s0 h) 112 [] [.double s0] h := by
  unfold f_Am_power_b112
  refine gk_callS (pc := 112) (d := (d + 2)) (w' := gv_R) (as := [.double s0]) (n := 1) d_Am_power_112 rfl rfl (Nat.le_of_ble_eq_true rfl) tw_1004 tw_317 tw_97 cw_Va_ofNumber hy_Va_ofNumber (Nat.le_of_ble_eq_true rfl) (p_Va_ofNumber d s0 h) fun x1 h1 => ?_
  exact gk_aret (pc := 115) rfl d_Am_power_115 rfl (Or.inl ⟨_, rfl⟩)
theorem p_Am_power_b97 (d : Nat)  (v2 : UInt64) (v4 : UInt64) (h : gk_H) : gk_P gw_R (d + 3) y_Am_power b_Am_power 6 (some (.object "ValueAlgebra$Value")) [] (f_Am_power_b97  v2 v4 h) 97 [(2, .double v2), (4, .double v4)] [] h := by
  unfold f_Am_power_b97
  refine gk_dload_n (pc := 97) 0 d_Am_power_97 rfl ?_
  refine gk_dconst0 (pc := 98) d_Am_power_98 ?_
  refine gk_dcmp (pc := 99) d_Am_power_99 ?_
  refine gk_if_ge (pc := 100) 110 d_Am_power_100 rfl (fun _ => ?_) (fun _ => ?_)
  · refine gk_dload (pc := 110) 1 d_Am_power_110 rfl ?_
    refine gk_weak [] (L' := []) rfl ?_
    exact p_Am_power_b112 d v4 h
  · refine gk_dconst1 (pc := 103) d_Am_power_103 ?_
    refine gk_dload (pc := 104) 1 d_Am_power_104 rfl ?_
    refine gk_ddivN (pc := 106) d_Am_power_106 fun x1 => ?_
    refine gk_goto (pc := 107) 112 d_Am_power_107 rfl ?_
    refine gk_weak [] (L' := []) rfl ?_
    exact p_Am_power_b112 d x1 h
theorem p_Am_power_b59 (d : Nat)  (v0 : UInt64) (v2 : UInt64) (h : gk_H) : gk_P gw_R (d + 3) y_Am_power b_Am_power 6 (some (.object "ValueAlgebra$Value")) [] (f_Am_power_b59  v0 v2 h) 59 [(0, .double v0), (2, .double v2)] [] h := by
  unfold f_Am_power_b59
  refine gk_dload_n (pc := 59) 0 d_Am_power_59 rfl ?_
  refine gk_dload_n (pc := 60) 1 d_Am_power_60 rfl ?_
  refine gk_callS (pc := 61) (d := (d + 2)) (w' := gv_D) (as := [.double v2]) (n := 1) d_Am_power_61 rfl rfl (Nat.le_of_ble_eq_true rfl) tw_997 tw_998 tw_117 cw_Am_sizeOf hy_Am_sizeOf (Nat.le_of_ble_eq_true rfl) (p_Am_sizeOf (d + 2) v2 h) fun x1 h1 => ?_
  refine gk_d2i (pc := 64) d_Am_power_64 ?_
  refine gk_callS (pc := 65) (d := (d + 2)) (w' := gv_D) (as := [.double v0, .int (FP.d2i x1)]) (n := 2) d_Am_power_65 rfl rfl (Nat.le_of_ble_eq_true rfl) tw_1000 tw_1001 tw_117 cw_Am_powerOfSize hy_Am_powerOfSize (Nat.le_of_ble_eq_true rfl) (p_Am_powerOfSize (d + 1) v0 (FP.d2i x1) h1) fun x2 h2 => ?_
  refine gk_dstore (pc := 68) (L' := [(4, .double x2), (0, .double v0), (2, .double v2)]) d_Am_power_68 (Nat.le_of_ble_eq_true rfl) rfl ?_
  refine gk_dload (pc := 70) 0 d_Am_power_70 rfl ?_
  refine gk_callS (pc := 72) (d := (d + 2)) (w' := gv_I) (as := [.double x2]) (n := 1) d_Am_power_72 rfl rfl (Nat.le_of_ble_eq_true rfl) tw_1003 tw_320 tw_97 cw_Va_isFinite hy_Va_isFinite (Nat.le_of_ble_eq_true rfl) (p_Va_isFinite (d + 2) x2 h2) fun x3 h3 => ?_
  refine gk_if_eq (pc := 75) 91 d_Am_power_75 rfl (fun _ => ?_) (fun _ => ?_)
  · refine gk_weak [] (L' := []) rfl ?_
    exact p_Am_power_b91 d h3
  · refine gk_dload_n (pc := 78) 2 d_Am_power_78 rfl ?_
    refine gk_dconst0 (pc := 79) d_Am_power_79 ?_
    refine gk_dcmp (pc := 80) d_Am_power_80 ?_
    refine gk_if_ge (pc := 81) 97 d_Am_power_81 rfl (fun _ => ?_) (fun _ => ?_)
    · refine gk_weak [2, 0] (L' := [(2, .double v2), (4, .double x2)]) rfl ?_
      exact p_Am_power_b97 d v2 x2 h3
    · refine gk_dload (pc := 84) 0 d_Am_power_84 rfl ?_
      refine gk_dconst0 (pc := 86) d_Am_power_86 ?_
      refine gk_dcmp (pc := 87) d_Am_power_87 ?_
      refine gk_if_ne (pc := 88) 97 d_Am_power_88 rfl (fun _ => ?_) (fun _ => ?_)
      · refine gk_weak [] (L' := []) rfl ?_
        exact p_Am_power_b91 d h3
      · refine gk_weak [2, 0] (L' := [(2, .double v2), (4, .double x2)]) rfl ?_
        exact p_Am_power_b97 d v2 x2 h3
theorem p_Am_power_b55 (d : Nat)  (s0 : Int32) (h : gk_H) : gk_P gw_R (d + 3) y_Am_power b_Am_power 6 (some (.object "ValueAlgebra$Value")) [] (f_Am_power_b55  s0 h) 55 [] [.int s0] h := by
  unfold f_Am_power_b55
  refine gk_callS (pc := 55) (d := (d + 2)) (w' := gv_R) (as := [.int s0]) (n := 1) d_Am_power_55 rfl rfl (Nat.le_of_ble_eq_true rfl) tw_996 tw_236 tw_97 cw_Va_ofError hy_Va_ofError (Nat.le_of_ble_eq_true rfl) (p_Va_ofError d s0 h) fun x1 h1 => ?_
  exact gk_aret (pc := 58) rfl d_Am_power_58 rfl (Or.inl ⟨_, rfl⟩)
theorem w_Am_power (d : Nat) (a0 : UInt64) (a1 : UInt64) (h : gk_H) : gk_P gw_R (d + 3) y_Am_power b_Am_power 6 (some (.object "ValueAlgebra$Value")) [] (f_Am_power a0 a1 h) 0 [(0, .double a0), (2, .double a1)] [] h := by
  unfold f_Am_power
  refine gk_dload_n (pc := 0) 1 d_Am_power_0 rfl ?_
  refine gk_ldc2d (pc := 1) tw_993 d_Am_power_1 ?_
  refine gk_dcmp (pc := 4) d_Am_power_4 ?_
  refine gk_if_lt (pc := 5) 25 d_Am_power_5 rfl (fun _ => ?_) (fun _ => ?_)
  · refine gk_weak [] (L' := []) rfl ?_
    exact p_Am_power_b25 d h
  · refine gk_dload_n (pc := 8) 1 d_Am_power_8 rfl ?_
    refine gk_ldc2d (pc := 9) tw_994 d_Am_power_9 ?_
    refine gk_dcmp (pc := 12) d_Am_power_12 ?_
    refine gk_if_gt (pc := 13) 25 d_Am_power_13 rfl (fun _ => ?_) (fun _ => ?_)
    · refine gk_weak [] (L' := []) rfl ?_
      exact p_Am_power_b25 d h
    · refine gk_dload_n (pc := 16) 1 d_Am_power_16 rfl ?_
      refine gk_callS (pc := 17) (d := (d + 2)) (w' := gv_D) (as := [.double a1]) (n := 1) d_Am_power_17 rfl rfl (Nat.le_of_ble_eq_true rfl) tw_995 tw_903 tw_117 cw_Am_wholePart hy_Am_wholePart (Nat.le_of_ble_eq_true rfl) (p_Am_wholePart (d + 1) a1 h) fun x1 h1 => ?_
      refine gk_dload_n (pc := 20) 1 d_Am_power_20 rfl ?_
      refine gk_dcmp (pc := 21) d_Am_power_21 ?_
      refine gk_if_eq (pc := 22) 31 d_Am_power_22 rfl (fun _ => ?_) (fun _ => ?_)
      · refine gk_dload_n (pc := 31) 0 d_Am_power_31 rfl ?_
        refine gk_dconst0 (pc := 32) d_Am_power_32 ?_
        refine gk_dcmp (pc := 33) d_Am_power_33 ?_
        refine gk_if_ne (pc := 34) 59 d_Am_power_34 rfl (fun _ => ?_) (fun _ => ?_)
        · refine gk_dload_n (pc := 37) 1 d_Am_power_37 rfl ?_
          refine gk_dconst0 (pc := 38) d_Am_power_38 ?_
          refine gk_dcmp (pc := 39) d_Am_power_39 ?_
          refine gk_if_gt (pc := 40) 59 d_Am_power_40 rfl (fun _ => ?_) (fun _ => ?_)
          · exact p_Am_power_b59 d a0 a1 h1
          · refine gk_dload_n (pc := 43) 1 d_Am_power_43 rfl ?_
            refine gk_dconst0 (pc := 44) d_Am_power_44 ?_
            refine gk_dcmp (pc := 45) d_Am_power_45 ?_
            refine gk_if_ne (pc := 46) 54 d_Am_power_46 rfl (fun _ => ?_) (fun _ => ?_)
            · refine gk_bipush (pc := 49) (6 : Int32) d_Am_power_49 rfl ?_
              refine gk_goto (pc := 51) 55 d_Am_power_51 rfl ?_
              refine gk_weak [] (L' := []) rfl ?_
              exact p_Am_power_b55 d (6 : Int32) h1
            · refine gk_iconst (pc := 54) (2 : Int32) d_Am_power_54 rfl ?_
              refine gk_weak [] (L' := []) rfl ?_
              exact p_Am_power_b55 d (2 : Int32) h1
        · exact p_Am_power_b59 d a0 a1 h1
      · refine gk_weak [] (L' := []) rfl ?_
        exact p_Am_power_b25 d h1
theorem p_Am_power (d : Nat) (a0 : UInt64) (a1 : UInt64) (h : gk_H) : ∀ r h1, f_Am_power a0 a1 h = some (r, h1) → gk_M (d + 3) y_Am_power b_Am_power 6 (some (.object "ValueAlgebra$Value")) [.double a0, .double a1] h (.inl (gv_R r)) h1 :=
  fun r h1 e => gk_M_of2 (by decide +kernel) (by simp [lv_args, gk_cat_rf, gk_catI, gk_catJ, gk_catD, gv_V, gv_I, gv_J, gv_D, gv_R]) (by simp [lg_sl, gk_cat_rf, gk_catI, gk_catJ, gk_catD, gv_V, gv_I, gv_J, gv_D, gv_R]) (w_Am_power d a0 a1 h r h1 e)
theorem d_Op_reckoned_0 : decode b_Op_reckoned 0 = .ok (.iload_n 0, 1) := by decide +kernel
theorem d_Op_reckoned_1 : decode b_Op_reckoned 1 = .ok (.tableswitch 82 2 6 #[35, 41, 48, 68, 75], 35) := by decide +kernel
theorem d_Op_reckoned_36 : decode b_Op_reckoned 36 = .ok (.dload_n 1, 1) := by decide +kernel
theorem d_Op_reckoned_37 : decode b_Op_reckoned 37 = .ok (.dload_n 3, 1) := by decide +kernel
theorem d_Op_reckoned_38 : decode b_Op_reckoned 38 = .ok (.invokestatic 70, 3) := by decide +kernel
theorem d_Op_reckoned_41 : decode b_Op_reckoned 41 = .ok (.areturn, 1) := by decide +kernel
theorem d_Op_reckoned_42 : decode b_Op_reckoned 42 = .ok (.dload_n 1, 1) := by decide +kernel
theorem d_Op_reckoned_43 : decode b_Op_reckoned 43 = .ok (.dload_n 3, 1) := by decide +kernel
theorem d_Op_reckoned_44 : decode b_Op_reckoned 44 = .ok (.dmul, 1) := by decide +kernel
theorem d_Op_reckoned_45 : decode b_Op_reckoned 45 = .ok (.invokestatic 21, 3) := by decide +kernel
theorem d_Op_reckoned_48 : decode b_Op_reckoned 48 = .ok (.areturn, 1) := by decide +kernel
theorem d_Op_reckoned_49 : decode b_Op_reckoned 49 = .ok (.dload_n 3, 1) := by decide +kernel
theorem d_Op_reckoned_50 : decode b_Op_reckoned 50 = .ok (.dconst 0, 1) := by decide +kernel
theorem d_Op_reckoned_51 : decode b_Op_reckoned 51 = .ok (.dcmp .l, 1) := by decide +kernel
theorem d_Op_reckoned_52 : decode b_Op_reckoned 52 = .ok (.ifCond .ne 10, 3) := by decide +kernel
theorem d_Op_reckoned_55 : decode b_Op_reckoned 55 = .ok (.iconst 2, 1) := by decide +kernel
theorem d_Op_reckoned_56 : decode b_Op_reckoned 56 = .ok (.invokestatic 76, 3) := by decide +kernel
theorem d_Op_reckoned_59 : decode b_Op_reckoned 59 = .ok (.goto 9, 3) := by decide +kernel
theorem d_Op_reckoned_62 : decode b_Op_reckoned 62 = .ok (.dload_n 1, 1) := by decide +kernel
theorem d_Op_reckoned_63 : decode b_Op_reckoned 63 = .ok (.dload_n 3, 1) := by decide +kernel
theorem d_Op_reckoned_64 : decode b_Op_reckoned 64 = .ok (.ddiv, 1) := by decide +kernel
theorem d_Op_reckoned_65 : decode b_Op_reckoned 65 = .ok (.invokestatic 21, 3) := by decide +kernel
theorem d_Op_reckoned_68 : decode b_Op_reckoned 68 = .ok (.areturn, 1) := by decide +kernel
theorem d_Op_reckoned_69 : decode b_Op_reckoned 69 = .ok (.dload_n 1, 1) := by decide +kernel
theorem d_Op_reckoned_70 : decode b_Op_reckoned 70 = .ok (.dload_n 3, 1) := by decide +kernel
theorem d_Op_reckoned_71 : decode b_Op_reckoned 71 = .ok (.dadd, 1) := by decide +kernel
theorem d_Op_reckoned_72 : decode b_Op_reckoned 72 = .ok (.invokestatic 21, 3) := by decide +kernel
theorem d_Op_reckoned_75 : decode b_Op_reckoned 75 = .ok (.areturn, 1) := by decide +kernel
theorem d_Op_reckoned_76 : decode b_Op_reckoned 76 = .ok (.dload_n 1, 1) := by decide +kernel
theorem d_Op_reckoned_77 : decode b_Op_reckoned 77 = .ok (.dload_n 3, 1) := by decide +kernel
theorem d_Op_reckoned_78 : decode b_Op_reckoned 78 = .ok (.dsub, 1) := by decide +kernel
theorem d_Op_reckoned_79 : decode b_Op_reckoned 79 = .ok (.invokestatic 21, 3) := by decide +kernel
theorem d_Op_reckoned_82 : decode b_Op_reckoned 82 = .ok (.areturn, 1) := by decide +kernel
theorem d_Op_reckoned_83 : decode b_Op_reckoned 83 = .ok (.iconst 3, 1) := by decide +kernel
theorem d_Op_reckoned_84 : decode b_Op_reckoned 84 = .ok (.invokestatic 76, 3) := by decide +kernel
theorem d_Op_reckoned_87 : decode b_Op_reckoned 87 = .ok (.areturn, 1) := by decide +kernel
theorem p_Op_reckoned_b68 (d : Nat)  (s0 : Option Nat) (h : gk_H) : gk_P gw_R (d + 4) y_Op_reckoned b_Op_reckoned 5 (some (.object "ValueAlgebra$Value")) [] (f_Op_reckoned_b68  s0 h) 68 [] [va_rf s0] h := by
  unfold f_Op_reckoned_b68
  exact gk_aret (pc := 68) rfl d_Op_reckoned_68 rfl (Or.inl ⟨_, rfl⟩)
theorem w_Op_reckoned (d : Nat) (a0 : Int32) (a1 : UInt64) (a2 : UInt64) (h : gk_H) : gk_P gw_R (d + 4) y_Op_reckoned b_Op_reckoned 5 (some (.object "ValueAlgebra$Value")) [] (f_Op_reckoned a0 a1 a2 h) 0 [(0, .int a0), (1, .double a1), (3, .double a2)] [] h := by
  unfold f_Op_reckoned
  refine gk_iload_n (pc := 0) 0 d_Op_reckoned_0 rfl ?_
  refine gk_ite (fun z1_0 => ?_) (fun z1_0 => ?_)
  · refine gk_tsw_in (pc := 1) (2 : Int32) 36 d_Op_reckoned_1 z1_0 (by decide) (by decide) rfl rfl ?_
    refine gk_dload_n (pc := 36) 1 d_Op_reckoned_36 rfl ?_
    refine gk_dload_n (pc := 37) 2 d_Op_reckoned_37 rfl ?_
    refine gk_callS (pc := 38) (d := (d + 3)) (w' := gv_R) (as := [.double a1, .double a2]) (n := 2) d_Op_reckoned_38 rfl rfl (Nat.le_of_ble_eq_true rfl) tw_990 tw_991 tw_117 cw_Am_power hy_Am_power (Nat.le_of_ble_eq_true rfl) (p_Am_power d a1 a2 h) fun x1 h1 => ?_
    exact gk_aret (pc := 41) rfl d_Op_reckoned_41 rfl (Or.inl ⟨_, rfl⟩)
  ·
    refine gk_ite (fun z1_1 => ?_) (fun z1_1 => ?_)
    · refine gk_tsw_in (pc := 1) (3 : Int32) 42 d_Op_reckoned_1 z1_1 (by decide) (by decide) rfl rfl ?_
      refine gk_dload_n (pc := 42) 1 d_Op_reckoned_42 rfl ?_
      refine gk_dload_n (pc := 43) 2 d_Op_reckoned_43 rfl ?_
      refine gk_dmulN (pc := 44) d_Op_reckoned_44 fun x2 => ?_
      refine gk_callS (pc := 45) (d := (d + 3)) (w' := gv_R) (as := [.double x2]) (n := 1) d_Op_reckoned_45 rfl rfl (Nat.le_of_ble_eq_true rfl) tw_884 tw_317 tw_97 cw_Va_ofNumber hy_Va_ofNumber (Nat.le_of_ble_eq_true rfl) (p_Va_ofNumber (d + 1) x2 h) fun x3 h2 => ?_
      exact gk_aret (pc := 48) rfl d_Op_reckoned_48 rfl (Or.inl ⟨_, rfl⟩)
    ·
      refine gk_ite (fun z1_2 => ?_) (fun z1_2 => ?_)
      · refine gk_tsw_in (pc := 1) (4 : Int32) 49 d_Op_reckoned_1 z1_2 (by decide) (by decide) rfl rfl ?_
        refine gk_dload_n (pc := 49) 2 d_Op_reckoned_49 rfl ?_
        refine gk_dconst0 (pc := 50) d_Op_reckoned_50 ?_
        refine gk_dcmp (pc := 51) d_Op_reckoned_51 ?_
        refine gk_if_ne (pc := 52) 62 d_Op_reckoned_52 rfl (fun _ => ?_) (fun _ => ?_)
        · refine gk_iconst (pc := 55) (2 : Int32) d_Op_reckoned_55 rfl ?_
          refine gk_callS (pc := 56) (d := (d + 3)) (w' := gv_R) (as := [.int (2 : Int32)]) (n := 1) d_Op_reckoned_56 rfl rfl (Nat.le_of_ble_eq_true rfl) tw_1005 tw_236 tw_97 cw_Va_ofError hy_Va_ofError (Nat.le_of_ble_eq_true rfl) (p_Va_ofError (d + 1) (2 : Int32) h) fun x4 h3 => ?_
          refine gk_goto (pc := 59) 68 d_Op_reckoned_59 rfl ?_
          refine gk_weak [] (L' := []) rfl ?_
          exact p_Op_reckoned_b68 d x4 h3
        · refine gk_dload_n (pc := 62) 1 d_Op_reckoned_62 rfl ?_
          refine gk_dload_n (pc := 63) 2 d_Op_reckoned_63 rfl ?_
          refine gk_ddivN (pc := 64) d_Op_reckoned_64 fun x5 => ?_
          refine gk_callS (pc := 65) (d := (d + 3)) (w' := gv_R) (as := [.double x5]) (n := 1) d_Op_reckoned_65 rfl rfl (Nat.le_of_ble_eq_true rfl) tw_884 tw_317 tw_97 cw_Va_ofNumber hy_Va_ofNumber (Nat.le_of_ble_eq_true rfl) (p_Va_ofNumber (d + 1) x5 h) fun x6 h4 => ?_
          refine gk_weak [] (L' := []) rfl ?_
          exact p_Op_reckoned_b68 d x6 h4
      ·
        refine gk_ite (fun z1_3 => ?_) (fun z1_3 => ?_)
        · refine gk_tsw_in (pc := 1) (5 : Int32) 69 d_Op_reckoned_1 z1_3 (by decide) (by decide) rfl rfl ?_
          refine gk_dload_n (pc := 69) 1 d_Op_reckoned_69 rfl ?_
          refine gk_dload_n (pc := 70) 2 d_Op_reckoned_70 rfl ?_
          refine gk_daddN (pc := 71) d_Op_reckoned_71 fun x7 => ?_
          refine gk_callS (pc := 72) (d := (d + 3)) (w' := gv_R) (as := [.double x7]) (n := 1) d_Op_reckoned_72 rfl rfl (Nat.le_of_ble_eq_true rfl) tw_884 tw_317 tw_97 cw_Va_ofNumber hy_Va_ofNumber (Nat.le_of_ble_eq_true rfl) (p_Va_ofNumber (d + 1) x7 h) fun x8 h5 => ?_
          exact gk_aret (pc := 75) rfl d_Op_reckoned_75 rfl (Or.inl ⟨_, rfl⟩)
        ·
          refine gk_ite (fun z1_4 => ?_) (fun z1_4 => ?_)
          · refine gk_tsw_in (pc := 1) (6 : Int32) 76 d_Op_reckoned_1 z1_4 (by decide) (by decide) rfl rfl ?_
            refine gk_dload_n (pc := 76) 1 d_Op_reckoned_76 rfl ?_
            refine gk_dload_n (pc := 77) 2 d_Op_reckoned_77 rfl ?_
            refine gk_dsubN (pc := 78) d_Op_reckoned_78 fun x9 => ?_
            refine gk_callS (pc := 79) (d := (d + 3)) (w' := gv_R) (as := [.double x9]) (n := 1) d_Op_reckoned_79 rfl rfl (Nat.le_of_ble_eq_true rfl) tw_884 tw_317 tw_97 cw_Va_ofNumber hy_Va_ofNumber (Nat.le_of_ble_eq_true rfl) (p_Va_ofNumber (d + 1) x9 h) fun x10 h6 => ?_
            exact gk_aret (pc := 82) rfl d_Op_reckoned_82 rfl (Or.inl ⟨_, rfl⟩)
          ·
            refine gk_tsw_out (pc := 1) 83 d_Op_reckoned_1 (by have e0 := gk_neT z1_0 (by decide : (2 : Int32).toInt = 2); have e1 := gk_neT z1_1 (by decide : (3 : Int32).toInt = 3); have e2 := gk_neT z1_2 (by decide : (4 : Int32).toInt = 4); have e3 := gk_neT z1_3 (by decide : (5 : Int32).toInt = 5); have e4 := gk_neT z1_4 (by decide : (6 : Int32).toInt = 6); omega) rfl ?_
            refine gk_iconst (pc := 83) (3 : Int32) d_Op_reckoned_83 rfl ?_
            refine gk_callS (pc := 84) (d := (d + 3)) (w' := gv_R) (as := [.int (3 : Int32)]) (n := 1) d_Op_reckoned_84 rfl rfl (Nat.le_of_ble_eq_true rfl) tw_1005 tw_236 tw_97 cw_Va_ofError hy_Va_ofError (Nat.le_of_ble_eq_true rfl) (p_Va_ofError (d + 1) (3 : Int32) h) fun x11 h7 => ?_
            exact gk_aret (pc := 87) rfl d_Op_reckoned_87 rfl (Or.inl ⟨_, rfl⟩)
theorem p_Op_reckoned (d : Nat) (a0 : Int32) (a1 : UInt64) (a2 : UInt64) (h : gk_H) : ∀ r h1, f_Op_reckoned a0 a1 a2 h = some (r, h1) → gk_M (d + 4) y_Op_reckoned b_Op_reckoned 5 (some (.object "ValueAlgebra$Value")) [.int a0, .double a1, .double a2] h (.inl (gv_R r)) h1 :=
  fun r h1 e => gk_M_of2 (by decide +kernel) (by simp [lv_args, gk_cat_rf, gk_catI, gk_catJ, gk_catD, gv_V, gv_I, gv_J, gv_D, gv_R]) (by simp [lg_sl, gk_cat_rf, gk_catI, gk_catJ, gk_catD, gv_V, gv_I, gv_J, gv_D, gv_R]) (w_Op_reckoned d a0 a1 a2 h r h1 e)
theorem d_Op_answer_0 : decode b_Op_answer 0 = .ok (.iload_n 0, 1) := by decide +kernel
theorem d_Op_answer_1 : decode b_Op_answer 1 = .ok (.invokestatic 9, 3) := by decide +kernel
theorem d_Op_answer_4 : decode b_Op_answer 4 = .ok (.ifCond .eq 28, 3) := by decide +kernel
theorem d_Op_answer_7 : decode b_Op_answer 7 = .ok (.aload_n 1, 1) := by decide +kernel
theorem d_Op_answer_8 : decode b_Op_answer 8 = .ok (.iconst 0, 1) := by decide +kernel
theorem d_Op_answer_9 : decode b_Op_answer 9 = .ok (.invokevirtual 13, 3) := by decide +kernel
theorem d_Op_answer_12 : decode b_Op_answer 12 = .ok (.dstore_n 2, 1) := by decide +kernel
theorem d_Op_answer_13 : decode b_Op_answer 13 = .ok (.iload_n 0, 1) := by decide +kernel
theorem d_Op_answer_14 : decode b_Op_answer 14 = .ok (.ifCond .ne 9, 3) := by decide +kernel
theorem d_Op_answer_17 : decode b_Op_answer 17 = .ok (.dconst 0, 1) := by decide +kernel
theorem d_Op_answer_18 : decode b_Op_answer 18 = .ok (.dload_n 2, 1) := by decide +kernel
theorem d_Op_answer_19 : decode b_Op_answer 19 = .ok (.dsub, 1) := by decide +kernel
theorem d_Op_answer_20 : decode b_Op_answer 20 = .ok (.goto 8, 3) := by decide +kernel
theorem d_Op_answer_23 : decode b_Op_answer 23 = .ok (.dload_n 2, 1) := by decide +kernel
theorem d_Op_answer_24 : decode b_Op_answer 24 = .ok (.ldc2_w 19, 3) := by decide +kernel
theorem d_Op_answer_27 : decode b_Op_answer 27 = .ok (.ddiv, 1) := by decide +kernel
theorem d_Op_answer_28 : decode b_Op_answer 28 = .ok (.invokestatic 21, 3) := by decide +kernel
theorem d_Op_answer_31 : decode b_Op_answer 31 = .ok (.areturn, 1) := by decide +kernel
theorem d_Op_answer_32 : decode b_Op_answer 32 = .ok (.iload_n 0, 1) := by decide +kernel
theorem d_Op_answer_33 : decode b_Op_answer 33 = .ok (.bipush 7, 2) := by decide +kernel
theorem d_Op_answer_35 : decode b_Op_answer 35 = .ok (.if_icmp .ne 17, 3) := by decide +kernel
theorem d_Op_answer_38 : decode b_Op_answer 38 = .ok (.aload_n 1, 1) := by decide +kernel
theorem d_Op_answer_39 : decode b_Op_answer 39 = .ok (.iconst 0, 1) := by decide +kernel
theorem d_Op_answer_40 : decode b_Op_answer 40 = .ok (.invokevirtual 27, 3) := by decide +kernel
theorem d_Op_answer_43 : decode b_Op_answer 43 = .ok (.aload_n 1, 1) := by decide +kernel
theorem d_Op_answer_44 : decode b_Op_answer 44 = .ok (.iconst 1, 1) := by decide +kernel
theorem d_Op_answer_45 : decode b_Op_answer 45 = .ok (.invokevirtual 27, 3) := by decide +kernel
theorem d_Op_answer_48 : decode b_Op_answer 48 = .ok (.invokestatic 31, 3) := by decide +kernel
theorem d_Op_answer_51 : decode b_Op_answer 51 = .ok (.areturn, 1) := by decide +kernel
theorem d_Op_answer_52 : decode b_Op_answer 52 = .ok (.iload_n 0, 1) := by decide +kernel
theorem d_Op_answer_53 : decode b_Op_answer 53 = .ok (.bipush 7, 2) := by decide +kernel
theorem d_Op_answer_55 : decode b_Op_answer 55 = .ok (.if_icmp .le 26, 3) := by decide +kernel
theorem d_Op_answer_58 : decode b_Op_answer 58 = .ok (.aload_n 1, 1) := by decide +kernel
theorem d_Op_answer_59 : decode b_Op_answer 59 = .ok (.iconst 0, 1) := by decide +kernel
theorem d_Op_answer_60 : decode b_Op_answer 60 = .ok (.invokevirtual 35, 3) := by decide +kernel
theorem d_Op_answer_63 : decode b_Op_answer 63 = .ok (.aload_n 1, 1) := by decide +kernel
theorem d_Op_answer_64 : decode b_Op_answer 64 = .ok (.iconst 1, 1) := by decide +kernel
theorem d_Op_answer_65 : decode b_Op_answer 65 = .ok (.invokevirtual 35, 3) := by decide +kernel
theorem d_Op_answer_68 : decode b_Op_answer 68 = .ok (.invokestatic 39, 3) := by decide +kernel
theorem d_Op_answer_71 : decode b_Op_answer 71 = .ok (.istore_n 2, 1) := by decide +kernel
theorem d_Op_answer_72 : decode b_Op_answer 72 = .ok (.iload_n 0, 1) := by decide +kernel
theorem d_Op_answer_73 : decode b_Op_answer 73 = .ok (.iload_n 2, 1) := by decide +kernel
theorem d_Op_answer_74 : decode b_Op_answer 74 = .ok (.invokestatic 43, 3) := by decide +kernel
theorem d_Op_answer_77 : decode b_Op_answer 77 = .ok (.invokestatic 47, 3) := by decide +kernel
theorem d_Op_answer_80 : decode b_Op_answer 80 = .ok (.areturn, 1) := by decide +kernel
theorem d_Op_answer_81 : decode b_Op_answer 81 = .ok (.iload_n 0, 1) := by decide +kernel
theorem d_Op_answer_82 : decode b_Op_answer 82 = .ok (.aload_n 1, 1) := by decide +kernel
theorem d_Op_answer_83 : decode b_Op_answer 83 = .ok (.iconst 0, 1) := by decide +kernel
theorem d_Op_answer_84 : decode b_Op_answer 84 = .ok (.invokevirtual 13, 3) := by decide +kernel
theorem d_Op_answer_87 : decode b_Op_answer 87 = .ok (.aload_n 1, 1) := by decide +kernel
theorem d_Op_answer_88 : decode b_Op_answer 88 = .ok (.iconst 1, 1) := by decide +kernel
theorem d_Op_answer_89 : decode b_Op_answer 89 = .ok (.invokevirtual 13, 3) := by decide +kernel
theorem d_Op_answer_92 : decode b_Op_answer 92 = .ok (.invokestatic 51, 3) := by decide +kernel
theorem d_Op_answer_95 : decode b_Op_answer 95 = .ok (.areturn, 1) := by decide +kernel
theorem p_Op_answer_b28 (d : Nat)  (s0 : UInt64) (h : gk_H) : gk_P gw_R (d + 9) y_Op_answer b_Op_answer 4 (some (.object "ValueAlgebra$Value")) [] (f_Op_answer_b28  s0 h) 28 [] [.double s0] h := by
  unfold f_Op_answer_b28
  refine gk_callS (pc := 28) (d := (d + 8)) (w' := gv_R) (as := [.double s0]) (n := 1) d_Op_answer_28 rfl rfl (Nat.le_of_ble_eq_true rfl) tw_884 tw_317 tw_97 cw_Va_ofNumber hy_Va_ofNumber (Nat.le_of_ble_eq_true rfl) (p_Va_ofNumber (d + 6) s0 h) fun x1 h1 => ?_
  exact gk_aret (pc := 31) rfl d_Op_answer_31 rfl (Or.inl ⟨_, rfl⟩)
theorem w_Op_answer (d : Nat) (a0 : Int32) (a1 : Option Nat) (h : gk_H) : gk_P gw_R (d + 9) y_Op_answer b_Op_answer 4 (some (.object "ValueAlgebra$Value")) [] (f_Op_answer a0 a1 h) 0 [(0, .int a0), (1, va_rf a1)] [] h := by
  unfold f_Op_answer
  refine gk_iload_n (pc := 0) 0 d_Op_answer_0 rfl ?_
  refine gk_callS (pc := 1) (d := (d + 8)) (w' := gv_I) (as := [.int a0]) (n := 1) d_Op_answer_1 rfl rfl (Nat.le_of_ble_eq_true rfl) tw_786 tw_769 tw_115 cw_Op_takesOne hy_Op_takesOne (Nat.le_of_ble_eq_true rfl) (p_Op_takesOne (d + 8) a0 h) fun x1 h1 => ?_
  refine gk_if_eq (pc := 4) 32 d_Op_answer_4 rfl (fun _ => ?_) (fun _ => ?_)
  · refine gk_iload_n (pc := 32) 0 d_Op_answer_32 rfl ?_
    refine gk_bipush (pc := 33) (7 : Int32) d_Op_answer_33 rfl ?_
    refine gk_icmp_ne (pc := 35) 52 d_Op_answer_35 rfl (fun _ => ?_) (fun _ => ?_)
    · refine gk_aload_n (pc := 38) 1 d_Op_answer_38 rfl ?_
      refine gk_iconst (pc := 39) (0 : Int32) d_Op_answer_39 rfl ?_
      refine gk_callV (pc := 40) (d := (d + 8)) (w' := gv_R) (as := [.int (0 : Int32)]) (n := 1) 4 d_Op_answer_40 rfl rfl rfl rfl (Nat.le_of_ble_eq_true rfl) tw_885 tw_886 tw_887 tw_96 cw_Ar_lettersOf hy_Ar_lettersOf (Nat.le_of_ble_eq_true rfl) (p_Ar_lettersOf d a1 (0 : Int32) h1) fun x2 h2 => ?_
      refine gk_aload_n (pc := 43) 1 d_Op_answer_43 rfl ?_
      refine gk_iconst (pc := 44) (1 : Int32) d_Op_answer_44 rfl ?_
      refine gk_callV (pc := 45) (d := (d + 8)) (w' := gv_R) (as := [.int (1 : Int32)]) (n := 1) 4 d_Op_answer_45 rfl rfl rfl rfl (by simp [gk_cat_rf, gk_catI, gk_catJ, gk_catD, gv_V, gv_I, gv_J, gv_D, gv_R]) tw_885 tw_886 tw_887 tw_96 cw_Ar_lettersOf hy_Ar_lettersOf (Nat.le_of_ble_eq_true rfl) (p_Ar_lettersOf d a1 (1 : Int32) h2) fun x3 h3 => ?_
      refine gk_callS (pc := 48) (d := (d + 8)) (w' := gv_R) (as := [va_rf x2, va_rf x3]) (n := 2) d_Op_answer_48 rfl rfl (Nat.le_of_ble_eq_true rfl) tw_964 tw_965 tw_115 cw_Op_joined hy_Op_joined (Nat.le_of_ble_eq_true rfl) (p_Op_joined (d + 2) x2 x3 h3) fun x4 h4 => ?_
      exact gk_aret (pc := 51) rfl d_Op_answer_51 rfl (Or.inl ⟨_, rfl⟩)
    · refine gk_iload_n (pc := 52) 0 d_Op_answer_52 rfl ?_
      refine gk_bipush (pc := 53) (7 : Int32) d_Op_answer_53 rfl ?_
      refine gk_icmp_le (pc := 55) 81 d_Op_answer_55 rfl (fun _ => ?_) (fun _ => ?_)
      · refine gk_iload_n (pc := 81) 0 d_Op_answer_81 rfl ?_
        refine gk_aload_n (pc := 82) 1 d_Op_answer_82 rfl ?_
        refine gk_iconst (pc := 83) (0 : Int32) d_Op_answer_83 rfl ?_
        refine gk_callV (pc := 84) (d := (d + 8)) (w' := gv_D) (as := [.int (0 : Int32)]) (n := 1) 4 d_Op_answer_84 rfl rfl rfl rfl (Nat.le_of_ble_eq_true rfl) tw_787 tw_788 tw_789 tw_96 cw_Ar_amount hy_Ar_amount (Nat.le_of_ble_eq_true rfl) (p_Ar_amount (d + 2) a1 (0 : Int32) h1) fun x5 h5 => ?_
        refine gk_aload_n (pc := 87) 1 d_Op_answer_87 rfl ?_
        refine gk_iconst (pc := 88) (1 : Int32) d_Op_answer_88 rfl ?_
        refine gk_callV (pc := 89) (d := (d + 8)) (w' := gv_D) (as := [.int (1 : Int32)]) (n := 1) 4 d_Op_answer_89 rfl rfl rfl rfl (Nat.le_of_ble_eq_true rfl) tw_787 tw_788 tw_789 tw_96 cw_Ar_amount hy_Ar_amount (Nat.le_of_ble_eq_true rfl) (p_Ar_amount (d + 2) a1 (1 : Int32) h5) fun x6 h6 => ?_
        refine gk_callS (pc := 92) (d := (d + 8)) (w' := gv_R) (as := [.int a0, .double x5, .double x6]) (n := 3) d_Op_answer_92 rfl rfl (Nat.le_of_ble_eq_true rfl) tw_987 tw_988 tw_115 cw_Op_reckoned hy_Op_reckoned (Nat.le_of_ble_eq_true rfl) (p_Op_reckoned (d + 4) a0 x5 x6 h6) fun x7 h7 => ?_
        exact gk_aret (pc := 95) rfl d_Op_answer_95 rfl (Or.inl ⟨_, rfl⟩)
      · refine gk_aload_n (pc := 58) 1 d_Op_answer_58 rfl ?_
        refine gk_iconst (pc := 59) (0 : Int32) d_Op_answer_59 rfl ?_
        refine gk_callV (pc := 60) (d := (d + 8)) (w' := gv_R) (as := [.int (0 : Int32)]) (n := 1) 4 d_Op_answer_60 rfl rfl rfl rfl (Nat.le_of_ble_eq_true rfl) tw_972 tw_792 tw_793 tw_96 cw_Ar_sound hy_Ar_sound (Nat.le_of_ble_eq_true rfl) (p_Ar_sound (d + 7) a1 (0 : Int32) h1) fun x8 h8 => ?_
        refine gk_aload_n (pc := 63) 1 d_Op_answer_63 rfl ?_
        refine gk_iconst (pc := 64) (1 : Int32) d_Op_answer_64 rfl ?_
        refine gk_callV (pc := 65) (d := (d + 8)) (w' := gv_R) (as := [.int (1 : Int32)]) (n := 1) 4 d_Op_answer_65 rfl rfl rfl rfl (by simp [gk_cat_rf, gk_catI, gk_catJ, gk_catD, gv_V, gv_I, gv_J, gv_D, gv_R]) tw_972 tw_792 tw_793 tw_96 cw_Ar_sound hy_Ar_sound (Nat.le_of_ble_eq_true rfl) (p_Ar_sound (d + 7) a1 (1 : Int32) h8) fun x9 h9 => ?_
        refine gk_callS (pc := 68) (d := (d + 8)) (w' := gv_I) (as := [va_rf x8, va_rf x9]) (n := 2) d_Op_answer_68 rfl rfl (Nat.le_of_ble_eq_true rfl) tw_973 tw_974 tw_115 cw_Op_order hy_Op_order (Nat.le_of_ble_eq_true rfl) (p_Op_order (d + 3) x8 x9 h9) fun x10 h10 => ?_
        refine gk_istore_n (pc := 71) (L' := [(2, .int x10), (0, .int a0), (1, va_rf a1)]) d_Op_answer_71 (Nat.le_of_ble_eq_true rfl) (by simp [gk_s1, gk_s2, gk_cat_rf, gk_catI, gk_catJ, gk_catD] <;> decide) ?_
        refine gk_iload_n (pc := 72) 1 d_Op_answer_72 rfl ?_
        refine gk_iload_n (pc := 73) 0 d_Op_answer_73 rfl ?_
        refine gk_callS (pc := 74) (d := (d + 8)) (w' := gv_I) (as := [.int a0, .int x10]) (n := 2) d_Op_answer_74 rfl rfl (Nat.le_of_ble_eq_true rfl) tw_983 tw_984 tw_115 cw_Op_stands hy_Op_stands (Nat.le_of_ble_eq_true rfl) (p_Op_stands (d + 8) a0 x10 h10) fun x11 h11 => ?_
        refine gk_callS (pc := 77) (d := (d + 8)) (w' := gv_R) (as := [.int x11]) (n := 1) d_Op_answer_77 rfl rfl (Nat.le_of_ble_eq_true rfl) tw_986 tw_739 tw_97 cw_Va_ofTruth hy_Va_ofTruth (Nat.le_of_ble_eq_true rfl) (p_Va_ofTruth (d + 6) x11 h11) fun x12 h12 => ?_
        exact gk_aret (pc := 80) rfl d_Op_answer_80 rfl (Or.inl ⟨_, rfl⟩)
  · refine gk_aload_n (pc := 7) 1 d_Op_answer_7 rfl ?_
    refine gk_iconst (pc := 8) (0 : Int32) d_Op_answer_8 rfl ?_
    refine gk_callV (pc := 9) (d := (d + 8)) (w' := gv_D) (as := [.int (0 : Int32)]) (n := 1) 4 d_Op_answer_9 rfl rfl rfl rfl (Nat.le_of_ble_eq_true rfl) tw_787 tw_788 tw_789 tw_96 cw_Ar_amount hy_Ar_amount (Nat.le_of_ble_eq_true rfl) (p_Ar_amount (d + 2) a1 (0 : Int32) h1) fun x13 h13 => ?_
    refine gk_dstore_n (pc := 12) (L' := [(2, .double x13), (0, .int a0), (1, va_rf a1)]) d_Op_answer_12 (Nat.le_of_ble_eq_true rfl) (by simp [gk_s1, gk_s2, gk_cat_rf, gk_catI, gk_catJ, gk_catD] <;> decide) ?_
    refine gk_iload_n (pc := 13) 1 d_Op_answer_13 rfl ?_
    refine gk_if_ne (pc := 14) 23 d_Op_answer_14 rfl (fun _ => ?_) (fun _ => ?_)
    · refine gk_dconst0 (pc := 17) d_Op_answer_17 ?_
      refine gk_dload_n (pc := 18) 0 d_Op_answer_18 rfl ?_
      refine gk_dsubN (pc := 19) d_Op_answer_19 fun x14 => ?_
      refine gk_goto (pc := 20) 28 d_Op_answer_20 rfl ?_
      refine gk_weak [] (L' := []) rfl ?_
      exact p_Op_answer_b28 d x14 h13
    · refine gk_dload_n (pc := 23) 0 d_Op_answer_23 rfl ?_
      refine gk_ldc2d (pc := 24) tw_883 d_Op_answer_24 ?_
      refine gk_ddivN (pc := 27) d_Op_answer_27 fun x15 => ?_
      refine gk_weak [] (L' := []) rfl ?_
      exact p_Op_answer_b28 d x15 h13
theorem p_Op_answer (d : Nat) (a0 : Int32) (a1 : Option Nat) (h : gk_H) : ∀ r h1, f_Op_answer a0 a1 h = some (r, h1) → gk_M (d + 9) y_Op_answer b_Op_answer 4 (some (.object "ValueAlgebra$Value")) [.int a0, va_rf a1] h (.inl (gv_R r)) h1 :=
  fun r h1 e => gk_M_of2 (by decide +kernel) (by simp [lv_args, gk_cat_rf, gk_catI, gk_catJ, gk_catD, gv_V, gv_I, gv_J, gv_D, gv_R]) (by simp [lg_sl, gk_cat_rf, gk_catI, gk_catJ, gk_catD, gv_V, gv_I, gv_J, gv_D, gv_R]) (w_Op_answer d a0 a1 h r h1 e)
theorem d_Ar_faultOr_0 : decode b_Ar_faultOr 0 = .ok (.aload_n 0, 1) := by decide +kernel
theorem d_Ar_faultOr_1 : decode b_Ar_faultOr 1 = .ok (.getfield 57, 3) := by decide +kernel
theorem d_Ar_faultOr_4 : decode b_Ar_faultOr 4 = .ok (.ifCond .ne 7, 3) := by decide +kernel
theorem d_Ar_faultOr_7 : decode b_Ar_faultOr 7 = .ok (.aload_n 1, 1) := by decide +kernel
theorem d_Ar_faultOr_8 : decode b_Ar_faultOr 8 = .ok (.goto 10, 3) := by decide +kernel
theorem d_Ar_faultOr_11 : decode b_Ar_faultOr 11 = .ok (.aload_n 0, 1) := by decide +kernel
theorem d_Ar_faultOr_12 : decode b_Ar_faultOr 12 = .ok (.getfield 57, 3) := by decide +kernel
theorem d_Ar_faultOr_15 : decode b_Ar_faultOr 15 = .ok (.invokestatic 32, 3) := by decide +kernel
theorem d_Ar_faultOr_18 : decode b_Ar_faultOr 18 = .ok (.areturn, 1) := by decide +kernel
theorem p_Ar_faultOr_b18 (d : Nat)  (s0 : Option Nat) (h : gk_H) : gk_P gw_R (d + 3) y_Ar_faultOr b_Ar_faultOr 2 (some (.object "ValueAlgebra$Value")) [] (f_Ar_faultOr_b18  s0 h) 18 [] [va_rf s0] h := by
  unfold f_Ar_faultOr_b18
  exact gk_aret (pc := 18) rfl d_Ar_faultOr_18 rfl (Or.inl ⟨_, rfl⟩)
theorem w_Ar_faultOr (d : Nat) (a0 : Option Nat) (a1 : Option Nat) (h : gk_H) : gk_P gw_R (d + 3) y_Ar_faultOr b_Ar_faultOr 2 (some (.object "ValueAlgebra$Value")) [] (f_Ar_faultOr a0 a1 h) 0 [(0, va_rf a0), (1, va_rf a1)] [] h := by
  unfold f_Ar_faultOr
  refine gk_aload_n (pc := 0) 0 d_Ar_faultOr_0 rfl ?_
  refine gk_getI (pc := 1) 4 3 d_Ar_faultOr_1 rfl (Nat.le_of_ble_eq_true rfl) tw_263 fun x1 => ?_
  refine gk_if_ne (pc := 4) 11 d_Ar_faultOr_4 rfl (fun _ => ?_) (fun _ => ?_)
  · refine gk_aload_n (pc := 7) 1 d_Ar_faultOr_7 rfl ?_
    refine gk_goto (pc := 8) 18 d_Ar_faultOr_8 rfl ?_
    refine gk_weak [] (L' := []) rfl ?_
    exact p_Ar_faultOr_b18 d a1 h
  · refine gk_aload_n (pc := 11) 0 d_Ar_faultOr_11 rfl ?_
    refine gk_getI (pc := 12) 4 3 d_Ar_faultOr_12 rfl (Nat.le_of_ble_eq_true rfl) tw_263 fun x2 => ?_
    refine gk_callS (pc := 15) (d := (d + 2)) (w' := gv_R) (as := [.int x2]) (n := 1) d_Ar_faultOr_15 rfl rfl (Nat.le_of_ble_eq_true rfl) tw_235 tw_236 tw_97 cw_Va_ofError hy_Va_ofError (Nat.le_of_ble_eq_true rfl) (p_Va_ofError d x2 h) fun x3 h1 => ?_
    refine gk_weak [] (L' := []) rfl ?_
    exact p_Ar_faultOr_b18 d x3 h1
theorem p_Ar_faultOr (d : Nat) (a0 : Option Nat) (a1 : Option Nat) (h : gk_H) : ∀ r h1, f_Ar_faultOr a0 a1 h = some (r, h1) → gk_M (d + 3) y_Ar_faultOr b_Ar_faultOr 2 (some (.object "ValueAlgebra$Value")) [va_rf a0, va_rf a1] h (.inl (gv_R r)) h1 :=
  fun r h1 e => gk_M_of2 (by decide +kernel) (by simp [lv_args, gk_cat_rf, gk_catI, gk_catJ, gk_catD, gv_V, gv_I, gv_J, gv_D, gv_R]) (by simp [lg_sl, gk_cat_rf, gk_catI, gk_catJ, gk_catD, gv_V, gv_I, gv_J, gv_D, gv_R]) (w_Ar_faultOr d a0 a1 h r h1 e)
theorem d_A_operate_0 : decode b_A_operate 0 = .ok (.iload_n 1, 1) := by decide +kernel
theorem d_A_operate_1 : decode b_A_operate 1 = .ok (.ifCond .lt 9, 3) := by decide +kernel
theorem d_A_operate_4 : decode b_A_operate 4 = .ok (.iload_n 1, 1) := by decide +kernel
theorem d_A_operate_5 : decode b_A_operate 5 = .ok (.bipush 13, 2) := by decide +kernel
theorem d_A_operate_7 : decode b_A_operate 7 = .ok (.if_icmp .le 13, 3) := by decide +kernel
theorem d_A_operate_10 : decode b_A_operate 10 = .ok (.new 41, 3) := by decide +kernel
theorem d_A_operate_13 : decode b_A_operate 13 = .ok (.dup, 1) := by decide +kernel
theorem d_A_operate_14 : decode b_A_operate 14 = .ok (.ldc 106, 2) := by decide +kernel
theorem d_A_operate_16 : decode b_A_operate 16 = .ok (.invokespecial 45, 3) := by decide +kernel
theorem d_A_operate_19 : decode b_A_operate 19 = .ok (.athrow, 1) := by decide +kernel
theorem d_A_operate_20 : decode b_A_operate 20 = .ok (.iload_n 1, 1) := by decide +kernel
theorem d_A_operate_21 : decode b_A_operate 21 = .ok (.invokestatic 108, 3) := by decide +kernel
theorem d_A_operate_24 : decode b_A_operate 24 = .ok (.ifCond .eq 7, 3) := by decide +kernel
theorem d_A_operate_27 : decode b_A_operate 27 = .ok (.iconst 1, 1) := by decide +kernel
theorem d_A_operate_28 : decode b_A_operate 28 = .ok (.goto 4, 3) := by decide +kernel
theorem d_A_operate_31 : decode b_A_operate 31 = .ok (.iconst 2, 1) := by decide +kernel
theorem d_A_operate_32 : decode b_A_operate 32 = .ok (.istore_n 2, 1) := by decide +kernel
theorem d_A_operate_33 : decode b_A_operate 33 = .ok (.aload_n 0, 1) := by decide +kernel
theorem d_A_operate_34 : decode b_A_operate 34 = .ok (.getfield 29, 3) := by decide +kernel
theorem d_A_operate_37 : decode b_A_operate 37 = .ok (.iload_n 2, 1) := by decide +kernel
theorem d_A_operate_38 : decode b_A_operate 38 = .ok (.if_icmp .ge 13, 3) := by decide +kernel
theorem d_A_operate_41 : decode b_A_operate 41 = .ok (.new 41, 3) := by decide +kernel
theorem d_A_operate_44 : decode b_A_operate 44 = .ok (.dup, 1) := by decide +kernel
theorem d_A_operate_45 : decode b_A_operate 45 = .ok (.ldc 89, 2) := by decide +kernel
theorem d_A_operate_47 : decode b_A_operate 47 = .ok (.invokespecial 45, 3) := by decide +kernel
theorem d_A_operate_50 : decode b_A_operate 50 = .ok (.athrow, 1) := by decide +kernel
theorem d_A_operate_51 : decode b_A_operate 51 = .ok (.aload_n 0, 1) := by decide +kernel
theorem d_A_operate_52 : decode b_A_operate 52 = .ok (.getfield 25, 3) := by decide +kernel
theorem d_A_operate_55 : decode b_A_operate 55 = .ok (.aload_n 0, 1) := by decide +kernel
theorem d_A_operate_56 : decode b_A_operate 56 = .ok (.getfield 11, 3) := by decide +kernel
theorem d_A_operate_59 : decode b_A_operate 59 = .ok (.aload_n 0, 1) := by decide +kernel
theorem d_A_operate_60 : decode b_A_operate 60 = .ok (.getfield 29, 3) := by decide +kernel
theorem d_A_operate_63 : decode b_A_operate 63 = .ok (.iload_n 2, 1) := by decide +kernel
theorem d_A_operate_64 : decode b_A_operate 64 = .ok (.isub, 1) := by decide +kernel
theorem d_A_operate_65 : decode b_A_operate 65 = .ok (.iload_n 2, 1) := by decide +kernel
theorem d_A_operate_66 : decode b_A_operate 66 = .ok (.invokevirtual 112, 3) := by decide +kernel
theorem d_A_operate_69 : decode b_A_operate 69 = .ok (.iload_n 1, 1) := by decide +kernel
theorem d_A_operate_70 : decode b_A_operate 70 = .ok (.aload_n 0, 1) := by decide +kernel
theorem d_A_operate_71 : decode b_A_operate 71 = .ok (.getfield 25, 3) := by decide +kernel
theorem d_A_operate_74 : decode b_A_operate 74 = .ok (.invokestatic 116, 3) := by decide +kernel
theorem d_A_operate_77 : decode b_A_operate 77 = .ok (.astore_n 3, 1) := by decide +kernel
theorem d_A_operate_78 : decode b_A_operate 78 = .ok (.aload_n 0, 1) := by decide +kernel
theorem d_A_operate_79 : decode b_A_operate 79 = .ok (.iload_n 2, 1) := by decide +kernel
theorem d_A_operate_80 : decode b_A_operate 80 = .ok (.aload_n 0, 1) := by decide +kernel
theorem d_A_operate_81 : decode b_A_operate 81 = .ok (.getfield 25, 3) := by decide +kernel
theorem d_A_operate_84 : decode b_A_operate 84 = .ok (.aload_n 3, 1) := by decide +kernel
theorem d_A_operate_85 : decode b_A_operate 85 = .ok (.invokevirtual 120, 3) := by decide +kernel
theorem d_A_operate_88 : decode b_A_operate 88 = .ok (.invokevirtual 100, 3) := by decide +kernel
theorem d_A_operate_91 : decode b_A_operate 91 = .ok (.return_, 1) := by decide +kernel
theorem p_A_operate_b10 (d : Nat)   (h : gk_H) : gk_P gx_V (d + 10) y_A_operate b_A_operate 4 none [] (f_A_operate_b10   h) 10 [] [] h := by
  unfold f_A_operate_b10
  exact gk_throw (pc := 10) (text := "there is no such operator") (is := 106) rfl (by omega) (by decide +kernel) (by decide +kernel) tw_405 tw_104 (by decide +kernel) ex_IllegalArgumentException_45 eg_IllegalArgumentException_45 d_A_operate_10 d_A_operate_13 d_A_operate_14 d_A_operate_16 d_A_operate_19 (Nat.le_of_ble_eq_true rfl)
theorem p_A_operate_b32 (d : Nat)  (v0 : Option Nat) (v1 : Int32) (s0 : Int32) (h : gk_H) : gk_P gx_V (d + 10) y_A_operate b_A_operate 4 none [] (f_A_operate_b32  v0 v1 s0 h) 32 [(0, va_rf v0), (1, .int v1)] [.int s0] h := by
  unfold f_A_operate_b32
  refine gk_istore_n (pc := 32) (L' := [(2, .int s0), (0, va_rf v0), (1, .int v1)]) d_A_operate_32 (Nat.le_of_ble_eq_true rfl) rfl ?_
  refine gk_aload_n (pc := 33) 1 d_A_operate_33 rfl ?_
  refine gk_getI (pc := 34) 5 1 d_A_operate_34 rfl (Nat.le_of_ble_eq_true rfl) tw_292 fun x1 => ?_
  refine gk_iload_n (pc := 37) 0 d_A_operate_37 rfl ?_
  refine gk_icmp_ge (pc := 38) 51 d_A_operate_38 rfl (fun _ => ?_) (fun _ => ?_)
  · refine gk_aload_n (pc := 51) 1 d_A_operate_51 rfl ?_
    refine gk_getR (pc := 52) 5 3 d_A_operate_52 rfl (Nat.le_of_ble_eq_true rfl) tw_294 fun x2 => ?_
    refine gk_aload_n (pc := 55) 1 d_A_operate_55 rfl ?_
    refine gk_getR (pc := 56) 5 0 d_A_operate_56 rfl (Nat.le_of_ble_eq_true rfl) tw_291 fun x3 => ?_
    refine gk_aload_n (pc := 59) 1 d_A_operate_59 rfl ?_
    refine gk_getI (pc := 60) 5 1 d_A_operate_60 rfl (Nat.le_of_ble_eq_true rfl) tw_292 fun x4 => ?_
    refine gk_iload_n (pc := 63) 0 d_A_operate_63 rfl ?_
    refine gk_isub (pc := 64) d_A_operate_64 ?_
    refine gk_iload_n (pc := 65) 0 d_A_operate_65 rfl ?_
    refine gk_callV (pc := 66) (d := (d + 9)) (w' := gv_V) (as := [va_rf x3, .int (x4 - s0), .int s0]) (n := 3) 4 d_A_operate_66 rfl rfl rfl rfl (Nat.le_of_ble_eq_true rfl) tw_771 tw_772 tw_773 tw_96 cw_Ar_take hy_Ar_take (Nat.le_of_ble_eq_true rfl) (p_Ar_take (d + 8) x2 x3 (x4 - s0) s0 h) fun _ h1 => ?_
    refine gk_iload_n (pc := 69) 2 d_A_operate_69 rfl ?_
    refine gk_aload_n (pc := 70) 1 d_A_operate_70 rfl ?_
    refine gk_getR (pc := 71) 5 3 d_A_operate_71 rfl (Nat.le_of_ble_eq_true rfl) tw_294 fun x5 => ?_
    refine gk_callS (pc := 74) (d := (d + 9)) (w' := gv_R) (as := [.int v1, va_rf x5]) (n := 2) d_A_operate_74 rfl rfl (Nat.le_of_ble_eq_true rfl) tw_783 tw_784 tw_115 cw_Op_answer hy_Op_answer (Nat.le_of_ble_eq_true rfl) (p_Op_answer d v1 x5 h1) fun x6 h2 => ?_
    refine gk_astore_n (pc := 77) (L' := [(3, va_rf x6), (2, .int s0), (0, va_rf v0), (1, .int v1)]) d_A_operate_77 (Nat.le_of_ble_eq_true rfl) rfl ?_
    refine gk_aload_n (pc := 78) 2 d_A_operate_78 rfl ?_
    refine gk_iload_n (pc := 79) 1 d_A_operate_79 rfl ?_
    refine gk_aload_n (pc := 80) 2 d_A_operate_80 rfl ?_
    refine gk_getR (pc := 81) 5 3 d_A_operate_81 rfl (Nat.le_of_ble_eq_true rfl) tw_294 fun x7 => ?_
    refine gk_aload_n (pc := 84) 0 d_A_operate_84 rfl ?_
    refine gk_callV (pc := 85) (d := (d + 9)) (w' := gv_R) (as := [va_rf x6]) (n := 1) 4 d_A_operate_85 rfl rfl rfl rfl (by simp [gk_cat_rf, gk_catI, gk_catJ, gk_catD, gv_V, gv_I, gv_J, gv_D, gv_R]) tw_1006 tw_1007 tw_1008 tw_96 cw_Ar_faultOr hy_Ar_faultOr (Nat.le_of_ble_eq_true rfl) (p_Ar_faultOr (d + 6) x7 x6 h2) fun x8 h3 => ?_
    refine gk_callVXV (pc := 88) (d := (d + 9)) (as := [.int s0, va_rf x8]) (n := 2) 5 d_A_operate_88 rfl rfl rfl rfl (Nat.le_of_ble_eq_true rfl) tw_756 tw_758 tw_6 tw_91 cw_A_replaceUpper hy_A_replaceUpper (Nat.le_of_ble_eq_true rfl) (p_A_replaceUpper d v0 s0 x8 h3) (fun _ => rfl) fun _ h4 => ?_
    exact gk_vret (pc := 91) rfl d_A_operate_91 rfl
  · exact gk_throw (pc := 41) (text := "there are not so many values") (is := 89) rfl (by omega) (by decide +kernel) (by decide +kernel) tw_405 tw_104 (by decide +kernel) ex_IllegalArgumentException_45 eg_IllegalArgumentException_45 d_A_operate_41 d_A_operate_44 d_A_operate_45 d_A_operate_47 d_A_operate_50 (Nat.le_of_ble_eq_true rfl)
theorem w_A_operate (d : Nat) (a0 : Option Nat) (a1 : Int32) (h : gk_H) : gk_P gx_V (d + 10) y_A_operate b_A_operate 4 none [] (f_A_operate a0 a1 h) 0 [(0, va_rf a0), (1, .int a1)] [] h := by
  unfold f_A_operate
  refine gk_iload_n (pc := 0) 1 d_A_operate_0 rfl ?_
  refine gk_if_lt (pc := 1) 10 d_A_operate_1 rfl (fun _ => ?_) (fun _ => ?_)
  · refine gk_weak [] (L' := []) rfl ?_
    exact p_A_operate_b10 d h
  · refine gk_iload_n (pc := 4) 1 d_A_operate_4 rfl ?_
    refine gk_bipush (pc := 5) (13 : Int32) d_A_operate_5 rfl ?_
    refine gk_icmp_le (pc := 7) 20 d_A_operate_7 rfl (fun _ => ?_) (fun _ => ?_)
    · refine gk_iload_n (pc := 20) 1 d_A_operate_20 rfl ?_
      refine gk_callS (pc := 21) (d := (d + 9)) (w' := gv_I) (as := [.int a1]) (n := 1) d_A_operate_21 rfl rfl (Nat.le_of_ble_eq_true rfl) tw_768 tw_769 tw_115 cw_Op_takesOne hy_Op_takesOne (Nat.le_of_ble_eq_true rfl) (p_Op_takesOne (d + 9) a1 h) fun x1 h1 => ?_
      refine gk_if_eq (pc := 24) 31 d_A_operate_24 rfl (fun _ => ?_) (fun _ => ?_)
      · refine gk_iconst (pc := 31) (2 : Int32) d_A_operate_31 rfl ?_
        exact p_A_operate_b32 d a0 a1 (2 : Int32) h1
      · refine gk_iconst (pc := 27) (1 : Int32) d_A_operate_27 rfl ?_
        refine gk_goto (pc := 28) 32 d_A_operate_28 rfl ?_
        exact p_A_operate_b32 d a0 a1 (1 : Int32) h1
    · refine gk_weak [] (L' := []) rfl ?_
      exact p_A_operate_b10 d h
theorem p_A_operate (d : Nat) (a0 : Option Nat) (a1 : Int32) (h : gk_H) : ∀ r h1, f_A_operate a0 a1 h = some (r, h1) → gk_M (d + 10) y_A_operate b_A_operate 4 none [va_rf a0, .int a1] h (gx_V r) h1 :=
  fun r h1 e => gk_M_of2 (by decide +kernel) (by simp [lv_args, gk_cat_rf, gk_catI, gk_catJ, gk_catD, gv_V, gv_I, gv_J, gv_D, gv_R]) (by simp [lg_sl, gk_cat_rf, gk_catI, gk_catJ, gk_catD, gv_V, gv_I, gv_J, gv_D, gv_R]) (w_A_operate d a0 a1 h r h1 e)
theorem d_Ar_raw_0 : decode b_Ar_raw 0 = .ok (.iload_n 1, 1) := by decide +kernel
theorem d_Ar_raw_1 : decode b_Ar_raw 1 = .ok (.ifCond .lt 20, 3) := by decide +kernel
theorem d_Ar_raw_4 : decode b_Ar_raw 4 = .ok (.iload_n 1, 1) := by decide +kernel
theorem d_Ar_raw_5 : decode b_Ar_raw 5 = .ok (.aload_n 0, 1) := by decide +kernel
theorem d_Ar_raw_6 : decode b_Ar_raw 6 = .ok (.getfield 46, 3) := by decide +kernel
theorem d_Ar_raw_9 : decode b_Ar_raw 9 = .ok (.if_icmp .ge 12, 3) := by decide +kernel
theorem d_Ar_raw_12 : decode b_Ar_raw 12 = .ok (.aload_n 0, 1) := by decide +kernel
theorem d_Ar_raw_13 : decode b_Ar_raw 13 = .ok (.getfield 13, 3) := by decide +kernel
theorem d_Ar_raw_16 : decode b_Ar_raw 16 = .ok (.iload_n 1, 1) := by decide +kernel
theorem d_Ar_raw_17 : decode b_Ar_raw 17 = .ok (.aaload, 1) := by decide +kernel
theorem d_Ar_raw_18 : decode b_Ar_raw 18 = .ok (.goto 7, 3) := by decide +kernel
theorem d_Ar_raw_21 : decode b_Ar_raw 21 = .ok (.aload_n 0, 1) := by decide +kernel
theorem d_Ar_raw_22 : decode b_Ar_raw 22 = .ok (.getfield 28, 3) := by decide +kernel
theorem d_Ar_raw_25 : decode b_Ar_raw 25 = .ok (.areturn, 1) := by decide +kernel
theorem p_Ar_raw_b25 (d : Nat)  (s0 : Option Nat) (h : gk_H) : gk_P gw_R d y_Ar_raw b_Ar_raw 2 (some (.object "ValueAlgebra$Value")) [] (f_Ar_raw_b25  s0 h) 25 [] [va_rf s0] h := by
  unfold f_Ar_raw_b25
  exact gk_aret (pc := 25) rfl d_Ar_raw_25 rfl (Or.inl ⟨_, rfl⟩)
theorem p_Ar_raw_b21 (d : Nat)  (v0 : Option Nat) (h : gk_H) : gk_P gw_R d y_Ar_raw b_Ar_raw 2 (some (.object "ValueAlgebra$Value")) [] (f_Ar_raw_b21  v0 h) 21 [(0, va_rf v0)] [] h := by
  unfold f_Ar_raw_b21
  refine gk_aload_n (pc := 21) 0 d_Ar_raw_21 rfl ?_
  refine gk_getR (pc := 22) 4 6 d_Ar_raw_22 rfl (Nat.le_of_ble_eq_true rfl) tw_266 fun x1 => ?_
  refine gk_weak [] (L' := []) rfl ?_
  exact p_Ar_raw_b25 d x1 h
theorem w_Ar_raw (d : Nat) (a0 : Option Nat) (a1 : Int32) (h : gk_H) : gk_P gw_R d y_Ar_raw b_Ar_raw 2 (some (.object "ValueAlgebra$Value")) [] (f_Ar_raw a0 a1 h) 0 [(0, va_rf a0), (1, .int a1)] [] h := by
  unfold f_Ar_raw
  refine gk_iload_n (pc := 0) 1 d_Ar_raw_0 rfl ?_
  refine gk_if_lt (pc := 1) 21 d_Ar_raw_1 rfl (fun _ => ?_) (fun _ => ?_)
  · refine gk_weak [0] (L' := [(0, va_rf a0)]) rfl ?_
    exact p_Ar_raw_b21 d a0 h
  · refine gk_iload_n (pc := 4) 1 d_Ar_raw_4 rfl ?_
    refine gk_aload_n (pc := 5) 0 d_Ar_raw_5 rfl ?_
    refine gk_getI (pc := 6) 4 2 d_Ar_raw_6 rfl (Nat.le_of_ble_eq_true rfl) tw_262 fun x1 => ?_
    refine gk_icmp_ge (pc := 9) 21 d_Ar_raw_9 rfl (fun _ => ?_) (fun _ => ?_)
    · refine gk_weak [0] (L' := [(0, va_rf a0)]) rfl ?_
      exact p_Ar_raw_b21 d a0 h
    · refine gk_aload_n (pc := 12) 0 d_Ar_raw_12 rfl ?_
      refine gk_getR (pc := 13) 4 0 d_Ar_raw_13 rfl (Nat.le_of_ble_eq_true rfl) tw_260 fun x2 => ?_
      refine gk_iload_n (pc := 16) 1 d_Ar_raw_16 rfl ?_
      refine gk_aald (pc := 17) d_Ar_raw_17 fun x3 => ?_
      refine gk_goto (pc := 18) 25 d_Ar_raw_18 rfl ?_
      refine gk_weak [] (L' := []) rfl ?_
      exact p_Ar_raw_b25 d x3 h
theorem p_Ar_raw (d : Nat) (a0 : Option Nat) (a1 : Int32) (h : gk_H) : ∀ r h1, f_Ar_raw a0 a1 h = some (r, h1) → gk_M d y_Ar_raw b_Ar_raw 2 (some (.object "ValueAlgebra$Value")) [va_rf a0, .int a1] h (.inl (gv_R r)) h1 :=
  fun r h1 e => gk_M_of2 (by decide +kernel) (by simp [lv_args, gk_cat_rf, gk_catI, gk_catJ, gk_catD, gv_V, gv_I, gv_J, gv_D, gv_R]) (by simp [lg_sl, gk_cat_rf, gk_catI, gk_catJ, gk_catD, gv_V, gv_I, gv_J, gv_D, gv_R]) (w_Ar_raw d a0 a1 h r h1 e)
theorem d_Cr_relationOf_0 : decode b_Cr_relationOf 0 = .ok (.aload_n 0, 1) := by decide +kernel
theorem d_Cr_relationOf_1 : decode b_Cr_relationOf 1 = .ok (.invokevirtual 44, 3) := by decide +kernel
theorem d_Cr_relationOf_4 : decode b_Cr_relationOf 4 = .ok (.ifCond .eq 8, 3) := by decide +kernel
theorem d_Cr_relationOf_7 : decode b_Cr_relationOf 7 = .ok (.bipush 32, 2) := by decide +kernel
theorem d_Cr_relationOf_9 : decode b_Cr_relationOf 9 = .ok (.goto 8, 3) := by decide +kernel
theorem d_Cr_relationOf_12 : decode b_Cr_relationOf 12 = .ok (.aload_n 0, 1) := by decide +kernel
theorem d_Cr_relationOf_13 : decode b_Cr_relationOf 13 = .ok (.iconst 0, 1) := by decide +kernel
theorem d_Cr_relationOf_14 : decode b_Cr_relationOf 14 = .ok (.invokevirtual 50, 3) := by decide +kernel
theorem d_Cr_relationOf_17 : decode b_Cr_relationOf 17 = .ok (.istore_n 1, 1) := by decide +kernel
theorem d_Cr_relationOf_18 : decode b_Cr_relationOf 18 = .ok (.aload_n 0, 1) := by decide +kernel
theorem d_Cr_relationOf_19 : decode b_Cr_relationOf 19 = .ok (.invokevirtual 54, 3) := by decide +kernel
theorem d_Cr_relationOf_22 : decode b_Cr_relationOf 22 = .ok (.iconst 2, 1) := by decide +kernel
theorem d_Cr_relationOf_23 : decode b_Cr_relationOf 23 = .ok (.if_icmp .ge 8, 3) := by decide +kernel
theorem d_Cr_relationOf_26 : decode b_Cr_relationOf 26 = .ok (.bipush 32, 2) := by decide +kernel
theorem d_Cr_relationOf_28 : decode b_Cr_relationOf 28 = .ok (.goto 8, 3) := by decide +kernel
theorem d_Cr_relationOf_31 : decode b_Cr_relationOf 31 = .ok (.aload_n 0, 1) := by decide +kernel
theorem d_Cr_relationOf_32 : decode b_Cr_relationOf 32 = .ok (.iconst 1, 1) := by decide +kernel
theorem d_Cr_relationOf_33 : decode b_Cr_relationOf 33 = .ok (.invokevirtual 50, 3) := by decide +kernel
theorem d_Cr_relationOf_36 : decode b_Cr_relationOf 36 = .ok (.istore_n 2, 1) := by decide +kernel
theorem d_Cr_relationOf_37 : decode b_Cr_relationOf 37 = .ok (.iload_n 1, 1) := by decide +kernel
theorem d_Cr_relationOf_38 : decode b_Cr_relationOf 38 = .ok (.bipush 60, 2) := by decide +kernel
theorem d_Cr_relationOf_40 : decode b_Cr_relationOf 40 = .ok (.if_icmp .ne 28, 3) := by decide +kernel
theorem d_Cr_relationOf_43 : decode b_Cr_relationOf 43 = .ok (.iload_n 2, 1) := by decide +kernel
theorem d_Cr_relationOf_44 : decode b_Cr_relationOf 44 = .ok (.bipush 62, 2) := by decide +kernel
theorem d_Cr_relationOf_46 : decode b_Cr_relationOf 46 = .ok (.if_icmp .ne 8, 3) := by decide +kernel
theorem d_Cr_relationOf_49 : decode b_Cr_relationOf 49 = .ok (.bipush 9, 2) := by decide +kernel
theorem d_Cr_relationOf_51 : decode b_Cr_relationOf 51 = .ok (.goto 16, 3) := by decide +kernel
theorem d_Cr_relationOf_54 : decode b_Cr_relationOf 54 = .ok (.iload_n 2, 1) := by decide +kernel
theorem d_Cr_relationOf_55 : decode b_Cr_relationOf 55 = .ok (.bipush 61, 2) := by decide +kernel
theorem d_Cr_relationOf_57 : decode b_Cr_relationOf 57 = .ok (.if_icmp .ne 8, 3) := by decide +kernel
theorem d_Cr_relationOf_60 : decode b_Cr_relationOf 60 = .ok (.bipush 12, 2) := by decide +kernel
theorem d_Cr_relationOf_62 : decode b_Cr_relationOf 62 = .ok (.goto 5, 3) := by decide +kernel
theorem d_Cr_relationOf_65 : decode b_Cr_relationOf 65 = .ok (.bipush 10, 2) := by decide +kernel
theorem d_Cr_relationOf_67 : decode b_Cr_relationOf 67 = .ok (.ireturn, 1) := by decide +kernel
theorem d_Cr_relationOf_68 : decode b_Cr_relationOf 68 = .ok (.iload_n 1, 1) := by decide +kernel
theorem d_Cr_relationOf_69 : decode b_Cr_relationOf 69 = .ok (.bipush 62, 2) := by decide +kernel
theorem d_Cr_relationOf_71 : decode b_Cr_relationOf 71 = .ok (.if_icmp .ne 17, 3) := by decide +kernel
theorem d_Cr_relationOf_74 : decode b_Cr_relationOf 74 = .ok (.iload_n 2, 1) := by decide +kernel
theorem d_Cr_relationOf_75 : decode b_Cr_relationOf 75 = .ok (.bipush 61, 2) := by decide +kernel
theorem d_Cr_relationOf_77 : decode b_Cr_relationOf 77 = .ok (.if_icmp .ne 8, 3) := by decide +kernel
theorem d_Cr_relationOf_80 : decode b_Cr_relationOf 80 = .ok (.bipush 13, 2) := by decide +kernel
theorem d_Cr_relationOf_82 : decode b_Cr_relationOf 82 = .ok (.goto 5, 3) := by decide +kernel
theorem d_Cr_relationOf_85 : decode b_Cr_relationOf 85 = .ok (.bipush 11, 2) := by decide +kernel
theorem d_Cr_relationOf_87 : decode b_Cr_relationOf 87 = .ok (.ireturn, 1) := by decide +kernel
theorem d_Cr_relationOf_88 : decode b_Cr_relationOf 88 = .ok (.bipush 8, 2) := by decide +kernel
theorem d_Cr_relationOf_90 : decode b_Cr_relationOf 90 = .ok (.ireturn, 1) := by decide +kernel
theorem p_Cr_relationOf_b87 (d : Nat)  (s0 : Int32) (h : gk_H) : gk_P gw_I (d + 4) y_Cr_relationOf b_Cr_relationOf 3 (some .int) [] (f_Cr_relationOf_b87  s0 h) 87 [] [.int s0] h := by
  unfold f_Cr_relationOf_b87
  exact gk_iret (pc := 87) rfl d_Cr_relationOf_87 rfl
theorem p_Cr_relationOf_b67 (d : Nat)  (s0 : Int32) (h : gk_H) : gk_P gw_I (d + 4) y_Cr_relationOf b_Cr_relationOf 3 (some .int) [] (f_Cr_relationOf_b67  s0 h) 67 [] [.int s0] h := by
  unfold f_Cr_relationOf_b67
  exact gk_iret (pc := 67) rfl d_Cr_relationOf_67 rfl
theorem p_Cr_relationOf_b36 (d : Nat)  (v1 : Int32) (s0 : Int32) (h : gk_H) : gk_P gw_I (d + 4) y_Cr_relationOf b_Cr_relationOf 3 (some .int) [] (f_Cr_relationOf_b36  v1 s0 h) 36 [(1, .int v1)] [.int s0] h := by
  unfold f_Cr_relationOf_b36
  refine gk_istore_n (pc := 36) (L' := [(2, .int s0), (1, .int v1)]) d_Cr_relationOf_36 (Nat.le_of_ble_eq_true rfl) rfl ?_
  refine gk_iload_n (pc := 37) 1 d_Cr_relationOf_37 rfl ?_
  refine gk_bipush (pc := 38) (60 : Int32) d_Cr_relationOf_38 rfl ?_
  refine gk_icmp_ne (pc := 40) 68 d_Cr_relationOf_40 rfl (fun _ => ?_) (fun _ => ?_)
  · refine gk_iload_n (pc := 43) 0 d_Cr_relationOf_43 rfl ?_
    refine gk_bipush (pc := 44) (62 : Int32) d_Cr_relationOf_44 rfl ?_
    refine gk_icmp_ne (pc := 46) 54 d_Cr_relationOf_46 rfl (fun _ => ?_) (fun _ => ?_)
    · refine gk_bipush (pc := 49) (9 : Int32) d_Cr_relationOf_49 rfl ?_
      refine gk_goto (pc := 51) 67 d_Cr_relationOf_51 rfl ?_
      refine gk_weak [] (L' := []) rfl ?_
      exact p_Cr_relationOf_b67 d (9 : Int32) h
    · refine gk_iload_n (pc := 54) 0 d_Cr_relationOf_54 rfl ?_
      refine gk_bipush (pc := 55) (61 : Int32) d_Cr_relationOf_55 rfl ?_
      refine gk_icmp_ne (pc := 57) 65 d_Cr_relationOf_57 rfl (fun _ => ?_) (fun _ => ?_)
      · refine gk_bipush (pc := 60) (12 : Int32) d_Cr_relationOf_60 rfl ?_
        refine gk_goto (pc := 62) 67 d_Cr_relationOf_62 rfl ?_
        refine gk_weak [] (L' := []) rfl ?_
        exact p_Cr_relationOf_b67 d (12 : Int32) h
      · refine gk_bipush (pc := 65) (10 : Int32) d_Cr_relationOf_65 rfl ?_
        refine gk_weak [] (L' := []) rfl ?_
        exact p_Cr_relationOf_b67 d (10 : Int32) h
  · refine gk_iload_n (pc := 68) 1 d_Cr_relationOf_68 rfl ?_
    refine gk_bipush (pc := 69) (62 : Int32) d_Cr_relationOf_69 rfl ?_
    refine gk_icmp_ne (pc := 71) 88 d_Cr_relationOf_71 rfl (fun _ => ?_) (fun _ => ?_)
    · refine gk_iload_n (pc := 74) 0 d_Cr_relationOf_74 rfl ?_
      refine gk_bipush (pc := 75) (61 : Int32) d_Cr_relationOf_75 rfl ?_
      refine gk_icmp_ne (pc := 77) 85 d_Cr_relationOf_77 rfl (fun _ => ?_) (fun _ => ?_)
      · refine gk_bipush (pc := 80) (13 : Int32) d_Cr_relationOf_80 rfl ?_
        refine gk_goto (pc := 82) 87 d_Cr_relationOf_82 rfl ?_
        refine gk_weak [] (L' := []) rfl ?_
        exact p_Cr_relationOf_b87 d (13 : Int32) h
      · refine gk_bipush (pc := 85) (11 : Int32) d_Cr_relationOf_85 rfl ?_
        refine gk_weak [] (L' := []) rfl ?_
        exact p_Cr_relationOf_b87 d (11 : Int32) h
    · refine gk_bipush (pc := 88) (8 : Int32) d_Cr_relationOf_88 rfl ?_
      exact gk_iret (pc := 90) rfl d_Cr_relationOf_90 rfl
theorem p_Cr_relationOf_b17 (d : Nat)  (v0 : Option Nat) (s0 : Int32) (h : gk_H) : gk_P gw_I (d + 4) y_Cr_relationOf b_Cr_relationOf 3 (some .int) [] (f_Cr_relationOf_b17  v0 s0 h) 17 [(0, va_rf v0)] [.int s0] h := by
  unfold f_Cr_relationOf_b17
  refine gk_istore_n (pc := 17) (L' := [(1, .int s0), (0, va_rf v0)]) d_Cr_relationOf_17 (Nat.le_of_ble_eq_true rfl) (by simp [gk_s1, gk_s2, gk_cat_rf, gk_catI, gk_catJ, gk_catD] <;> decide) ?_
  refine gk_aload_n (pc := 18) 1 d_Cr_relationOf_18 rfl ?_
  refine gk_callV (pc := 19) (d := (d + 3)) (w' := gv_I) (as := []) (n := 0) 0 d_Cr_relationOf_19 rfl rfl rfl rfl (Nat.le_of_ble_eq_true rfl) tw_1118 tw_613 tw_614 tw_94 cw_St_length hy_St_length (Nat.le_of_ble_eq_true rfl) (p_St_length (d + 2) v0 h) fun x1 h1 => ?_
  refine gk_iconst (pc := 22) (2 : Int32) d_Cr_relationOf_22 rfl ?_
  refine gk_icmp_ge (pc := 23) 31 d_Cr_relationOf_23 rfl (fun _ => ?_) (fun _ => ?_)
  · refine gk_aload_n (pc := 31) 1 d_Cr_relationOf_31 rfl ?_
    refine gk_iconst (pc := 32) (1 : Int32) d_Cr_relationOf_32 rfl ?_
    refine gk_callV (pc := 33) (d := (d + 3)) (w' := gv_I) (as := [.int (1 : Int32)]) (n := 1) 0 d_Cr_relationOf_33 rfl rfl rfl rfl (Nat.le_of_ble_eq_true rfl) tw_1117 tw_811 tw_812 tw_94 cw_St_charAt hy_St_charAt (Nat.le_of_ble_eq_true rfl) (p_St_charAt d v0 (1 : Int32) h1) fun x2 h2 => ?_
    refine gk_weak [0] (L' := [(1, .int s0)]) rfl ?_
    exact p_Cr_relationOf_b36 d s0 x2 h2
  · refine gk_bipush (pc := 26) (32 : Int32) d_Cr_relationOf_26 rfl ?_
    refine gk_goto (pc := 28) 36 d_Cr_relationOf_28 rfl ?_
    refine gk_weak [0] (L' := [(1, .int s0)]) rfl ?_
    exact p_Cr_relationOf_b36 d s0 (32 : Int32) h1
theorem w_Cr_relationOf (d : Nat) (a0 : Option Nat) (h : gk_H) : gk_P gw_I (d + 4) y_Cr_relationOf b_Cr_relationOf 3 (some .int) [] (f_Cr_relationOf a0 h) 0 [(0, va_rf a0)] [] h := by
  unfold f_Cr_relationOf
  refine gk_aload_n (pc := 0) 0 d_Cr_relationOf_0 rfl ?_
  refine gk_callV (pc := 1) (d := (d + 3)) (w' := gv_I) (as := []) (n := 0) 0 d_Cr_relationOf_1 rfl rfl rfl rfl (Nat.le_of_ble_eq_true rfl) tw_1116 tw_1043 tw_1044 tw_94 cw_St_isEmpty hy_St_isEmpty (Nat.le_of_ble_eq_true rfl) (p_St_isEmpty (d + 3) a0 h) fun x1 h1 => ?_
  refine gk_if_eq (pc := 4) 12 d_Cr_relationOf_4 rfl (fun _ => ?_) (fun _ => ?_)
  · refine gk_aload_n (pc := 12) 0 d_Cr_relationOf_12 rfl ?_
    refine gk_iconst (pc := 13) (0 : Int32) d_Cr_relationOf_13 rfl ?_
    refine gk_callV (pc := 14) (d := (d + 3)) (w' := gv_I) (as := [.int (0 : Int32)]) (n := 1) 0 d_Cr_relationOf_14 rfl rfl rfl rfl (Nat.le_of_ble_eq_true rfl) tw_1117 tw_811 tw_812 tw_94 cw_St_charAt hy_St_charAt (Nat.le_of_ble_eq_true rfl) (p_St_charAt d a0 (0 : Int32) h1) fun x2 h2 => ?_
    exact p_Cr_relationOf_b17 d a0 x2 h2
  · refine gk_bipush (pc := 7) (32 : Int32) d_Cr_relationOf_7 rfl ?_
    refine gk_goto (pc := 9) 17 d_Cr_relationOf_9 rfl ?_
    exact p_Cr_relationOf_b17 d a0 (32 : Int32) h1
theorem p_Cr_relationOf (d : Nat) (a0 : Option Nat) (h : gk_H) : ∀ r h1, f_Cr_relationOf a0 h = some (r, h1) → gk_M (d + 4) y_Cr_relationOf b_Cr_relationOf 3 (some .int) [va_rf a0] h (.inl (gv_I r)) h1 :=
  fun r h1 e => gk_M_of2 (by decide +kernel) (by simp [lv_args, gk_cat_rf, gk_catI, gk_catJ, gk_catD, gv_V, gv_I, gv_J, gv_D, gv_R]) (by simp [lg_sl, gk_cat_rf, gk_catI, gk_catJ, gk_catD, gv_V, gv_I, gv_J, gv_D, gv_R]) (w_Cr_relationOf d a0 h r h1 e)
theorem d_Cr_signLength_0 : decode b_Cr_signLength 0 = .ok (.aload_n 0, 1) := by decide +kernel
theorem d_Cr_signLength_1 : decode b_Cr_signLength 1 = .ok (.invokestatic 37, 3) := by decide +kernel
theorem d_Cr_signLength_4 : decode b_Cr_signLength 4 = .ok (.tableswitch 40 9 13 #[36, 38, 38, 36, 36], 36) := by decide +kernel
theorem d_Cr_signLength_40 : decode b_Cr_signLength 40 = .ok (.iconst 2, 1) := by decide +kernel
theorem d_Cr_signLength_41 : decode b_Cr_signLength 41 = .ok (.ireturn, 1) := by decide +kernel
theorem d_Cr_signLength_42 : decode b_Cr_signLength 42 = .ok (.iconst 1, 1) := by decide +kernel
theorem d_Cr_signLength_43 : decode b_Cr_signLength 43 = .ok (.ireturn, 1) := by decide +kernel
theorem d_Cr_signLength_44 : decode b_Cr_signLength 44 = .ok (.aload_n 0, 1) := by decide +kernel
theorem d_Cr_signLength_45 : decode b_Cr_signLength 45 = .ok (.invokevirtual 44, 3) := by decide +kernel
theorem d_Cr_signLength_48 : decode b_Cr_signLength 48 = .ok (.ifCond .ne 17, 3) := by decide +kernel
theorem d_Cr_signLength_51 : decode b_Cr_signLength 51 = .ok (.aload_n 0, 1) := by decide +kernel
theorem d_Cr_signLength_52 : decode b_Cr_signLength 52 = .ok (.iconst 0, 1) := by decide +kernel
theorem d_Cr_signLength_53 : decode b_Cr_signLength 53 = .ok (.invokevirtual 50, 3) := by decide +kernel
theorem d_Cr_signLength_56 : decode b_Cr_signLength 56 = .ok (.bipush 61, 2) := by decide +kernel
theorem d_Cr_signLength_58 : decode b_Cr_signLength 58 = .ok (.if_icmp .ne 7, 3) := by decide +kernel
theorem d_Cr_signLength_61 : decode b_Cr_signLength 61 = .ok (.iconst 1, 1) := by decide +kernel
theorem d_Cr_signLength_62 : decode b_Cr_signLength 62 = .ok (.goto 4, 3) := by decide +kernel
theorem d_Cr_signLength_65 : decode b_Cr_signLength 65 = .ok (.iconst 0, 1) := by decide +kernel
theorem d_Cr_signLength_66 : decode b_Cr_signLength 66 = .ok (.ireturn, 1) := by decide +kernel
theorem p_Cr_signLength_b66 (d : Nat)  (s0 : Int32) (h : gk_H) : gk_P gw_I (d + 5) y_Cr_signLength b_Cr_signLength 1 (some .int) [] (f_Cr_signLength_b66  s0 h) 66 [] [.int s0] h := by
  unfold f_Cr_signLength_b66
  exact gk_iret (pc := 66) rfl d_Cr_signLength_66 rfl
theorem p_Cr_signLength_b65 (d : Nat)   (h : gk_H) : gk_P gw_I (d + 5) y_Cr_signLength b_Cr_signLength 1 (some .int) [] (f_Cr_signLength_b65   h) 65 [] [] h := by
  unfold f_Cr_signLength_b65
  refine gk_iconst (pc := 65) (0 : Int32) d_Cr_signLength_65 rfl ?_
  exact p_Cr_signLength_b66 d (0 : Int32) h
theorem p_Cr_signLength_b40 (d : Nat)   (h : gk_H) : gk_P gw_I (d + 5) y_Cr_signLength b_Cr_signLength 1 (some .int) [] (f_Cr_signLength_b40   h) 40 [] [] h := by
  unfold f_Cr_signLength_b40
  refine gk_iconst (pc := 40) (2 : Int32) d_Cr_signLength_40 rfl ?_
  exact gk_iret (pc := 41) rfl d_Cr_signLength_41 rfl
theorem p_Cr_signLength_b42 (d : Nat)   (h : gk_H) : gk_P gw_I (d + 5) y_Cr_signLength b_Cr_signLength 1 (some .int) [] (f_Cr_signLength_b42   h) 42 [] [] h := by
  unfold f_Cr_signLength_b42
  refine gk_iconst (pc := 42) (1 : Int32) d_Cr_signLength_42 rfl ?_
  exact gk_iret (pc := 43) rfl d_Cr_signLength_43 rfl
theorem w_Cr_signLength (d : Nat) (a0 : Option Nat) (h : gk_H) : gk_P gw_I (d + 5) y_Cr_signLength b_Cr_signLength 1 (some .int) [] (f_Cr_signLength a0 h) 0 [(0, va_rf a0)] [] h := by
  unfold f_Cr_signLength
  refine gk_aload_n (pc := 0) 0 d_Cr_signLength_0 rfl ?_
  refine gk_callS (pc := 1) (d := (d + 4)) (w' := gv_I) (as := [va_rf a0]) (n := 1) d_Cr_signLength_1 rfl rfl (Nat.le_of_ble_eq_true rfl) tw_1113 tw_1114 tw_120 cw_Cr_relationOf hy_Cr_relationOf (Nat.le_of_ble_eq_true rfl) (p_Cr_relationOf d a0 h) fun x1 h1 => ?_
  refine gk_ite (fun z4_0 => ?_) (fun z4_0 => ?_)
  · refine gk_tsw_in (pc := 4) (9 : Int32) 40 d_Cr_signLength_4 z4_0 (by decide) (by decide) rfl rfl ?_
    refine gk_weak [] (L' := []) rfl ?_
    exact p_Cr_signLength_b40 d h1
  ·
    refine gk_ite (fun z4_1 => ?_) (fun z4_1 => ?_)
    · refine gk_tsw_in (pc := 4) (10 : Int32) 42 d_Cr_signLength_4 z4_1 (by decide) (by decide) rfl rfl ?_
      refine gk_weak [] (L' := []) rfl ?_
      exact p_Cr_signLength_b42 d h1
    ·
      refine gk_ite (fun z4_2 => ?_) (fun z4_2 => ?_)
      · refine gk_tsw_in (pc := 4) (11 : Int32) 42 d_Cr_signLength_4 z4_2 (by decide) (by decide) rfl rfl ?_
        refine gk_weak [] (L' := []) rfl ?_
        exact p_Cr_signLength_b42 d h1
      ·
        refine gk_ite (fun z4_3 => ?_) (fun z4_3 => ?_)
        · refine gk_tsw_in (pc := 4) (12 : Int32) 40 d_Cr_signLength_4 z4_3 (by decide) (by decide) rfl rfl ?_
          refine gk_weak [] (L' := []) rfl ?_
          exact p_Cr_signLength_b40 d h1
        ·
          refine gk_ite (fun z4_4 => ?_) (fun z4_4 => ?_)
          · refine gk_tsw_in (pc := 4) (13 : Int32) 40 d_Cr_signLength_4 z4_4 (by decide) (by decide) rfl rfl ?_
            refine gk_weak [] (L' := []) rfl ?_
            exact p_Cr_signLength_b40 d h1
          ·
            refine gk_tsw_out (pc := 4) 44 d_Cr_signLength_4 (by have e0 := gk_neT z4_0 (by decide : (9 : Int32).toInt = 9); have e1 := gk_neT z4_1 (by decide : (10 : Int32).toInt = 10); have e2 := gk_neT z4_2 (by decide : (11 : Int32).toInt = 11); have e3 := gk_neT z4_3 (by decide : (12 : Int32).toInt = 12); have e4 := gk_neT z4_4 (by decide : (13 : Int32).toInt = 13); omega) rfl ?_
            refine gk_aload_n (pc := 44) 0 d_Cr_signLength_44 rfl ?_
            refine gk_callV (pc := 45) (d := (d + 4)) (w' := gv_I) (as := []) (n := 0) 0 d_Cr_signLength_45 rfl rfl rfl rfl (Nat.le_of_ble_eq_true rfl) tw_1116 tw_1043 tw_1044 tw_94 cw_St_isEmpty hy_St_isEmpty (Nat.le_of_ble_eq_true rfl) (p_St_isEmpty (d + 4) a0 h1) fun x2 h2 => ?_
            refine gk_if_ne (pc := 48) 65 d_Cr_signLength_48 rfl (fun _ => ?_) (fun _ => ?_)
            · refine gk_aload_n (pc := 51) 0 d_Cr_signLength_51 rfl ?_
              refine gk_iconst (pc := 52) (0 : Int32) d_Cr_signLength_52 rfl ?_
              refine gk_callV (pc := 53) (d := (d + 4)) (w' := gv_I) (as := [.int (0 : Int32)]) (n := 1) 0 d_Cr_signLength_53 rfl rfl rfl rfl (Nat.le_of_ble_eq_true rfl) tw_1117 tw_811 tw_812 tw_94 cw_St_charAt hy_St_charAt (Nat.le_of_ble_eq_true rfl) (p_St_charAt (d + 1) a0 (0 : Int32) h2) fun x3 h3 => ?_
              refine gk_bipush (pc := 56) (61 : Int32) d_Cr_signLength_56 rfl ?_
              refine gk_icmp_ne (pc := 58) 65 d_Cr_signLength_58 rfl (fun _ => ?_) (fun _ => ?_)
              · refine gk_iconst (pc := 61) (1 : Int32) d_Cr_signLength_61 rfl ?_
                refine gk_goto (pc := 62) 66 d_Cr_signLength_62 rfl ?_
                refine gk_weak [] (L' := []) rfl ?_
                exact p_Cr_signLength_b66 d (1 : Int32) h3
              · refine gk_weak [] (L' := []) rfl ?_
                exact p_Cr_signLength_b65 d h3
            · refine gk_weak [] (L' := []) rfl ?_
              exact p_Cr_signLength_b65 d h2
theorem p_Cr_signLength (d : Nat) (a0 : Option Nat) (h : gk_H) : ∀ r h1, f_Cr_signLength a0 h = some (r, h1) → gk_M (d + 5) y_Cr_signLength b_Cr_signLength 1 (some .int) [va_rf a0] h (.inl (gv_I r)) h1 :=
  fun r h1 e => gk_M_of2 (by decide +kernel) (by simp [lv_args, gk_cat_rf, gk_catI, gk_catJ, gk_catD, gv_V, gv_I, gv_J, gv_D, gv_R]) (by simp [lg_sl, gk_cat_rf, gk_catI, gk_catJ, gk_catD, gv_V, gv_I, gv_J, gv_D, gv_R]) (w_Cr_signLength d a0 h r h1 e)
theorem d_Cr_wantedOf_0 : decode b_Cr_wantedOf 0 = .ok (.aload_n 0, 1) := by decide +kernel
theorem d_Cr_wantedOf_1 : decode b_Cr_wantedOf 1 = .ok (.getfield 60, 3) := by decide +kernel
theorem d_Cr_wantedOf_4 : decode b_Cr_wantedOf 4 = .ok (.ifCond .ne 8, 3) := by decide +kernel
theorem d_Cr_wantedOf_7 : decode b_Cr_wantedOf 7 = .ok (.dconst 0, 1) := by decide +kernel
theorem d_Cr_wantedOf_8 : decode b_Cr_wantedOf 8 = .ok (.invokestatic 63, 3) := by decide +kernel
theorem d_Cr_wantedOf_11 : decode b_Cr_wantedOf 11 = .ok (.areturn, 1) := by decide +kernel
theorem d_Cr_wantedOf_12 : decode b_Cr_wantedOf 12 = .ok (.aload_n 0, 1) := by decide +kernel
theorem d_Cr_wantedOf_13 : decode b_Cr_wantedOf 13 = .ok (.getfield 60, 3) := by decide +kernel
theorem d_Cr_wantedOf_16 : decode b_Cr_wantedOf 16 = .ok (.iconst 2, 1) := by decide +kernel
theorem d_Cr_wantedOf_17 : decode b_Cr_wantedOf 17 = .ok (.if_icmp .eq 5, 3) := by decide +kernel
theorem d_Cr_wantedOf_20 : decode b_Cr_wantedOf 20 = .ok (.aload_n 0, 1) := by decide +kernel
theorem d_Cr_wantedOf_21 : decode b_Cr_wantedOf 21 = .ok (.areturn, 1) := by decide +kernel
theorem d_Cr_wantedOf_22 : decode b_Cr_wantedOf 22 = .ok (.aload_n 0, 1) := by decide +kernel
theorem d_Cr_wantedOf_23 : decode b_Cr_wantedOf 23 = .ok (.getfield 25, 3) := by decide +kernel
theorem d_Cr_wantedOf_26 : decode b_Cr_wantedOf 26 = .ok (.aload_n 0, 1) := by decide +kernel
theorem d_Cr_wantedOf_27 : decode b_Cr_wantedOf 27 = .ok (.getfield 25, 3) := by decide +kernel
theorem d_Cr_wantedOf_30 : decode b_Cr_wantedOf 30 = .ok (.invokestatic 67, 3) := by decide +kernel
theorem d_Cr_wantedOf_33 : decode b_Cr_wantedOf 33 = .ok (.invokevirtual 70, 3) := by decide +kernel
theorem d_Cr_wantedOf_36 : decode b_Cr_wantedOf 36 = .ok (.astore_n 1, 1) := by decide +kernel
theorem d_Cr_wantedOf_37 : decode b_Cr_wantedOf 37 = .ok (.aload_n 1, 1) := by decide +kernel
theorem d_Cr_wantedOf_38 : decode b_Cr_wantedOf 38 = .ok (.invokestatic 74, 3) := by decide +kernel
theorem d_Cr_wantedOf_41 : decode b_Cr_wantedOf 41 = .ok (.ifCond .eq 13, 3) := by decide +kernel
theorem d_Cr_wantedOf_44 : decode b_Cr_wantedOf 44 = .ok (.aload_n 1, 1) := by decide +kernel
theorem d_Cr_wantedOf_45 : decode b_Cr_wantedOf 45 = .ok (.invokestatic 80, 3) := by decide +kernel
theorem d_Cr_wantedOf_48 : decode b_Cr_wantedOf 48 = .ok (.invokestatic 63, 3) := by decide +kernel
theorem d_Cr_wantedOf_51 : decode b_Cr_wantedOf 51 = .ok (.goto 7, 3) := by decide +kernel
theorem d_Cr_wantedOf_54 : decode b_Cr_wantedOf 54 = .ok (.aload_n 1, 1) := by decide +kernel
theorem d_Cr_wantedOf_55 : decode b_Cr_wantedOf 55 = .ok (.invokestatic 84, 3) := by decide +kernel
theorem d_Cr_wantedOf_58 : decode b_Cr_wantedOf 58 = .ok (.areturn, 1) := by decide +kernel
theorem p_Cr_wantedOf_b58 (d : Nat)  (s0 : Option Nat) (h : gk_H) : gk_P gw_R (d + 6) y_Cr_wantedOf b_Cr_wantedOf 2 (some (.object "ValueAlgebra$Value")) [] (f_Cr_wantedOf_b58  s0 h) 58 [] [va_rf s0] h := by
  unfold f_Cr_wantedOf_b58
  exact gk_aret (pc := 58) rfl d_Cr_wantedOf_58 rfl (Or.inl ⟨_, rfl⟩)
theorem w_Cr_wantedOf (d : Nat) (a0 : Option Nat) (h : gk_H) : gk_P gw_R (d + 6) y_Cr_wantedOf b_Cr_wantedOf 2 (some (.object "ValueAlgebra$Value")) [] (f_Cr_wantedOf a0 h) 0 [(0, va_rf a0)] [] h := by
  unfold f_Cr_wantedOf
  refine gk_aload_n (pc := 0) 0 d_Cr_wantedOf_0 rfl ?_
  refine gk_getI (pc := 1) 2 0 d_Cr_wantedOf_1 rfl (Nat.le_of_ble_eq_true rfl) tw_186 fun x1 => ?_
  refine gk_if_ne (pc := 4) 12 d_Cr_wantedOf_4 rfl (fun _ => ?_) (fun _ => ?_)
  · refine gk_dconst0 (pc := 7) d_Cr_wantedOf_7 ?_
    refine gk_callS (pc := 8) (d := (d + 5)) (w' := gv_R) (as := [.double (0x0000000000000000)]) (n := 1) d_Cr_wantedOf_8 rfl rfl (Nat.le_of_ble_eq_true rfl) tw_1109 tw_317 tw_97 cw_Va_ofNumber hy_Va_ofNumber (Nat.le_of_ble_eq_true rfl) (p_Va_ofNumber (d + 3) (0x0000000000000000) h) fun x2 h1 => ?_
    exact gk_aret (pc := 11) rfl d_Cr_wantedOf_11 rfl (Or.inl ⟨_, rfl⟩)
  · refine gk_aload_n (pc := 12) 0 d_Cr_wantedOf_12 rfl ?_
    refine gk_getI (pc := 13) 2 0 d_Cr_wantedOf_13 rfl (Nat.le_of_ble_eq_true rfl) tw_186 fun x3 => ?_
    refine gk_iconst (pc := 16) (2 : Int32) d_Cr_wantedOf_16 rfl ?_
    refine gk_icmp_eq (pc := 17) 22 d_Cr_wantedOf_17 rfl (fun _ => ?_) (fun _ => ?_)
    · refine gk_aload_n (pc := 22) 0 d_Cr_wantedOf_22 rfl ?_
      refine gk_getR (pc := 23) 2 3 d_Cr_wantedOf_23 rfl (Nat.le_of_ble_eq_true rfl) tw_205 fun x4 => ?_
      refine gk_aload_n (pc := 26) 0 d_Cr_wantedOf_26 rfl ?_
      refine gk_getR (pc := 27) 2 3 d_Cr_wantedOf_27 rfl (Nat.le_of_ble_eq_true rfl) tw_205 fun x5 => ?_
      refine gk_callS (pc := 30) (d := (d + 5)) (w' := gv_I) (as := [va_rf x5]) (n := 1) d_Cr_wantedOf_30 rfl rfl (by simp [gk_cat_rf, gk_catI, gk_catJ, gk_catD, gv_V, gv_I, gv_J, gv_D, gv_R]) tw_1110 tw_1111 tw_120 cw_Cr_signLength hy_Cr_signLength (Nat.le_of_ble_eq_true rfl) (p_Cr_signLength d x5 h) fun x6 h2 => ?_
      refine gk_callV (pc := 33) (d := (d + 5)) (w' := gv_R) (as := [.int x6]) (n := 1) 0 d_Cr_wantedOf_33 rfl rfl rfl rfl (Nat.le_of_ble_eq_true rfl) tw_1119 tw_1120 tw_1121 tw_94 cw_St_substring_I hy_St_substring_I (Nat.le_of_ble_eq_true rfl) (p_St_substring_I d x4 x6 h2) fun x7 h3 => ?_
      refine gk_astore_n (pc := 36) (L' := [(1, va_rf x7), (0, va_rf a0)]) d_Cr_wantedOf_36 (Nat.le_of_ble_eq_true rfl) (by simp [gk_s1, gk_s2, gk_cat_rf, gk_catI, gk_catJ, gk_catD] <;> decide) ?_
      refine gk_aload_n (pc := 37) 0 d_Cr_wantedOf_37 rfl ?_
      refine gk_callS (pc := 38) (d := (d + 5)) (w' := gv_I) (as := [va_rf x7]) (n := 1) d_Cr_wantedOf_38 rfl rfl (Nat.le_of_ble_eq_true rfl) tw_1146 tw_804 tw_116 cw_Le_isNumeral hy_Le_isNumeral (Nat.le_of_ble_eq_true rfl) (p_Le_isNumeral d x7 h3) fun x8 h4 => ?_
      refine gk_if_eq (pc := 41) 54 d_Cr_wantedOf_41 rfl (fun _ => ?_) (fun _ => ?_)
      · refine gk_aload_n (pc := 54) 0 d_Cr_wantedOf_54 rfl ?_
        refine gk_callS (pc := 55) (d := (d + 5)) (w' := gv_R) (as := [va_rf x7]) (n := 1) d_Cr_wantedOf_55 rfl rfl (Nat.le_of_ble_eq_true rfl) tw_1148 tw_663 tw_97 cw_Va_ofText hy_Va_ofText (Nat.le_of_ble_eq_true rfl) (p_Va_ofText (d + 3) x7 h4) fun x9 h5 => ?_
        refine gk_weak [] (L' := []) rfl ?_
        exact p_Cr_wantedOf_b58 d x9 h5
      · refine gk_aload_n (pc := 44) 0 d_Cr_wantedOf_44 rfl ?_
        refine gk_callS (pc := 45) (d := (d + 5)) (w' := gv_D) (as := [va_rf x7]) (n := 1) d_Cr_wantedOf_45 rfl rfl (Nat.le_of_ble_eq_true rfl) tw_1147 tw_829 tw_116 cw_Le_numeral hy_Le_numeral (Nat.le_of_ble_eq_true rfl) (p_Le_numeral (d + 1) x7 h4) fun x10 h6 => ?_
        refine gk_callS (pc := 48) (d := (d + 5)) (w' := gv_R) (as := [.double x10]) (n := 1) d_Cr_wantedOf_48 rfl rfl (Nat.le_of_ble_eq_true rfl) tw_1109 tw_317 tw_97 cw_Va_ofNumber hy_Va_ofNumber (Nat.le_of_ble_eq_true rfl) (p_Va_ofNumber (d + 3) x10 h6) fun x11 h7 => ?_
        refine gk_goto (pc := 51) 58 d_Cr_wantedOf_51 rfl ?_
        refine gk_weak [] (L' := []) rfl ?_
        exact p_Cr_wantedOf_b58 d x11 h7
    · refine gk_aload_n (pc := 20) 0 d_Cr_wantedOf_20 rfl ?_
      exact gk_aret (pc := 21) rfl d_Cr_wantedOf_21 rfl (Or.inl ⟨_, rfl⟩)
theorem p_Cr_wantedOf (d : Nat) (a0 : Option Nat) (h : gk_H) : ∀ r h1, f_Cr_wantedOf a0 h = some (r, h1) → gk_M (d + 6) y_Cr_wantedOf b_Cr_wantedOf 2 (some (.object "ValueAlgebra$Value")) [va_rf a0] h (.inl (gv_R r)) h1 :=
  fun r h1 e => gk_M_of2 (by decide +kernel) (by simp [lv_args, gk_cat_rf, gk_catI, gk_catJ, gk_catD, gv_V, gv_I, gv_J, gv_D, gv_R]) (by simp [lg_sl, gk_cat_rf, gk_catI, gk_catJ, gk_catD, gv_V, gv_I, gv_J, gv_D, gv_R]) (w_Cr_wantedOf d a0 h r h1 e)
theorem d_Li_prepare_0 : decode b_Li_prepare 0 = .ok (.aload_n 0, 1) := by decide +kernel
theorem d_Li_prepare_1 : decode b_Li_prepare 1 = .ok (.iconst 0, 1) := by decide +kernel
theorem d_Li_prepare_2 : decode b_Li_prepare 2 = .ok (.putfield 23, 3) := by decide +kernel
theorem d_Li_prepare_5 : decode b_Li_prepare 5 = .ok (.iconst 0, 1) := by decide +kernel
theorem d_Li_prepare_6 : decode b_Li_prepare 6 = .ok (.istore_n 2, 1) := by decide +kernel
theorem d_Li_prepare_7 : decode b_Li_prepare 7 = .ok (.iload_n 2, 1) := by decide +kernel
theorem d_Li_prepare_8 : decode b_Li_prepare 8 = .ok (.aload_n 1, 1) := by decide +kernel
theorem d_Li_prepare_9 : decode b_Li_prepare 9 = .ok (.invokevirtual 27, 3) := by decide +kernel
theorem d_Li_prepare_12 : decode b_Li_prepare 12 = .ok (.if_icmp .ge 139, 3) := by decide +kernel
theorem d_Li_prepare_15 : decode b_Li_prepare 15 = .ok (.aload_n 0, 1) := by decide +kernel
theorem d_Li_prepare_16 : decode b_Li_prepare 16 = .ok (.getfield 23, 3) := by decide +kernel
theorem d_Li_prepare_19 : decode b_Li_prepare 19 = .ok (.aload_n 0, 1) := by decide +kernel
theorem d_Li_prepare_20 : decode b_Li_prepare 20 = .ok (.getfield 9, 3) := by decide +kernel
theorem d_Li_prepare_23 : decode b_Li_prepare 23 = .ok (.arraylength, 1) := by decide +kernel
theorem d_Li_prepare_24 : decode b_Li_prepare 24 = .ok (.if_icmp .ge 127, 3) := by decide +kernel
theorem d_Li_prepare_27 : decode b_Li_prepare 27 = .ok (.aload_n 1, 1) := by decide +kernel
theorem d_Li_prepare_28 : decode b_Li_prepare 28 = .ok (.iload_n 2, 1) := by decide +kernel
theorem d_Li_prepare_29 : decode b_Li_prepare 29 = .ok (.invokevirtual 33, 3) := by decide +kernel
theorem d_Li_prepare_32 : decode b_Li_prepare 32 = .ok (.istore_n 3, 1) := by decide +kernel
theorem d_Li_prepare_33 : decode b_Li_prepare 33 = .ok (.iload_n 2, 1) := by decide +kernel
theorem d_Li_prepare_34 : decode b_Li_prepare 34 = .ok (.iconst 1, 1) := by decide +kernel
theorem d_Li_prepare_35 : decode b_Li_prepare 35 = .ok (.iadd, 1) := by decide +kernel
theorem d_Li_prepare_36 : decode b_Li_prepare 36 = .ok (.aload_n 1, 1) := by decide +kernel
theorem d_Li_prepare_37 : decode b_Li_prepare 37 = .ok (.invokevirtual 27, 3) := by decide +kernel
theorem d_Li_prepare_40 : decode b_Li_prepare 40 = .ok (.if_icmp .ge 13, 3) := by decide +kernel
theorem d_Li_prepare_43 : decode b_Li_prepare 43 = .ok (.aload_n 1, 1) := by decide +kernel
theorem d_Li_prepare_44 : decode b_Li_prepare 44 = .ok (.iload_n 2, 1) := by decide +kernel
theorem d_Li_prepare_45 : decode b_Li_prepare 45 = .ok (.iconst 1, 1) := by decide +kernel
theorem d_Li_prepare_46 : decode b_Li_prepare 46 = .ok (.iadd, 1) := by decide +kernel
theorem d_Li_prepare_47 : decode b_Li_prepare 47 = .ok (.invokevirtual 33, 3) := by decide +kernel
theorem d_Li_prepare_50 : decode b_Li_prepare 50 = .ok (.goto 5, 3) := by decide +kernel
theorem d_Li_prepare_53 : decode b_Li_prepare 53 = .ok (.bipush 32, 2) := by decide +kernel
theorem d_Li_prepare_55 : decode b_Li_prepare 55 = .ok (.istore 4, 2) := by decide +kernel
theorem d_Li_prepare_57 : decode b_Li_prepare 57 = .ok (.iload_n 3, 1) := by decide +kernel
theorem d_Li_prepare_58 : decode b_Li_prepare 58 = .ok (.bipush 126, 2) := by decide +kernel
theorem d_Li_prepare_60 : decode b_Li_prepare 60 = .ok (.if_icmp .ne 41, 3) := by decide +kernel
theorem d_Li_prepare_63 : decode b_Li_prepare 63 = .ok (.iload 4, 2) := by decide +kernel
theorem d_Li_prepare_65 : decode b_Li_prepare 65 = .ok (.bipush 63, 2) := by decide +kernel
theorem d_Li_prepare_67 : decode b_Li_prepare 67 = .ok (.if_icmp .eq 17, 3) := by decide +kernel
theorem d_Li_prepare_70 : decode b_Li_prepare 70 = .ok (.iload 4, 2) := by decide +kernel
theorem d_Li_prepare_72 : decode b_Li_prepare 72 = .ok (.bipush 42, 2) := by decide +kernel
theorem d_Li_prepare_74 : decode b_Li_prepare 74 = .ok (.if_icmp .eq 10, 3) := by decide +kernel
theorem d_Li_prepare_77 : decode b_Li_prepare 77 = .ok (.iload 4, 2) := by decide +kernel
theorem d_Li_prepare_79 : decode b_Li_prepare 79 = .ok (.bipush 126, 2) := by decide +kernel
theorem d_Li_prepare_81 : decode b_Li_prepare 81 = .ok (.if_icmp .ne 20, 3) := by decide +kernel
theorem d_Li_prepare_84 : decode b_Li_prepare 84 = .ok (.aload_n 0, 1) := by decide +kernel
theorem d_Li_prepare_85 : decode b_Li_prepare 85 = .ok (.getfield 9, 3) := by decide +kernel
theorem d_Li_prepare_88 : decode b_Li_prepare 88 = .ok (.aload_n 0, 1) := by decide +kernel
theorem d_Li_prepare_89 : decode b_Li_prepare 89 = .ok (.getfield 23, 3) := by decide +kernel
theorem d_Li_prepare_92 : decode b_Li_prepare 92 = .ok (.iload 4, 2) := by decide +kernel
theorem d_Li_prepare_94 : decode b_Li_prepare 94 = .ok (.iastore, 1) := by decide +kernel
theorem d_Li_prepare_95 : decode b_Li_prepare 95 = .ok (.iinc 2 2, 3) := by decide +kernel
theorem d_Li_prepare_98 : decode b_Li_prepare 98 = .ok (.goto 40, 3) := by decide +kernel
theorem d_Li_prepare_101 : decode b_Li_prepare 101 = .ok (.aload_n 0, 1) := by decide +kernel
theorem d_Li_prepare_102 : decode b_Li_prepare 102 = .ok (.getfield 9, 3) := by decide +kernel
theorem d_Li_prepare_105 : decode b_Li_prepare 105 = .ok (.aload_n 0, 1) := by decide +kernel
theorem d_Li_prepare_106 : decode b_Li_prepare 106 = .ok (.getfield 23, 3) := by decide +kernel
theorem d_Li_prepare_109 : decode b_Li_prepare 109 = .ok (.iload_n 3, 1) := by decide +kernel
theorem d_Li_prepare_110 : decode b_Li_prepare 110 = .ok (.bipush 63, 2) := by decide +kernel
theorem d_Li_prepare_112 : decode b_Li_prepare 112 = .ok (.if_icmp .ne 7, 3) := by decide +kernel
theorem d_Li_prepare_115 : decode b_Li_prepare 115 = .ok (.iconst (-1), 1) := by decide +kernel
theorem d_Li_prepare_116 : decode b_Li_prepare 116 = .ok (.goto 18, 3) := by decide +kernel
theorem d_Li_prepare_119 : decode b_Li_prepare 119 = .ok (.iload_n 3, 1) := by decide +kernel
theorem d_Li_prepare_120 : decode b_Li_prepare 120 = .ok (.bipush 42, 2) := by decide +kernel
theorem d_Li_prepare_122 : decode b_Li_prepare 122 = .ok (.if_icmp .ne 8, 3) := by decide +kernel
theorem d_Li_prepare_125 : decode b_Li_prepare 125 = .ok (.bipush (-2), 2) := by decide +kernel
theorem d_Li_prepare_127 : decode b_Li_prepare 127 = .ok (.goto 7, 3) := by decide +kernel
theorem d_Li_prepare_130 : decode b_Li_prepare 130 = .ok (.iload_n 3, 1) := by decide +kernel
theorem d_Li_prepare_131 : decode b_Li_prepare 131 = .ok (.invokestatic 37, 3) := by decide +kernel
theorem d_Li_prepare_134 : decode b_Li_prepare 134 = .ok (.iastore, 1) := by decide +kernel
theorem d_Li_prepare_135 : decode b_Li_prepare 135 = .ok (.iinc 2 1, 3) := by decide +kernel
theorem d_Li_prepare_138 : decode b_Li_prepare 138 = .ok (.aload_n 0, 1) := by decide +kernel
theorem d_Li_prepare_139 : decode b_Li_prepare 139 = .ok (.dup, 1) := by decide +kernel
theorem d_Li_prepare_140 : decode b_Li_prepare 140 = .ok (.getfield 23, 3) := by decide +kernel
theorem d_Li_prepare_143 : decode b_Li_prepare 143 = .ok (.iconst 1, 1) := by decide +kernel
theorem d_Li_prepare_144 : decode b_Li_prepare 144 = .ok (.iadd, 1) := by decide +kernel
theorem d_Li_prepare_145 : decode b_Li_prepare 145 = .ok (.putfield 23, 3) := by decide +kernel
theorem d_Li_prepare_148 : decode b_Li_prepare 148 = .ok (.goto (-141), 3) := by decide +kernel
theorem d_Li_prepare_151 : decode b_Li_prepare 151 = .ok (.return_, 1) := by decide +kernel
theorem p_Li_prepare_b151 (d : Nat)   (h : gk_H) : gk_P gw_V (d + 4) y_Li_prepare b_Li_prepare 5 none [] (f_Li_prepare_b151   h) 151 [] [] h := by
  unfold f_Li_prepare_b151
  exact gk_vret (pc := 151) rfl d_Li_prepare_151 rfl
theorem p_Li_prepare_b138 (d : Nat) (b7 : Option Nat → Option Nat → Int32 → gk_H → Option (Unit × gk_H)) (q7 : ∀ (v0 : Option Nat) (v1 : Option Nat) (v2 : Int32) (h : gk_H), gk_P gw_V (d + 4) y_Li_prepare b_Li_prepare 5 none [] (b7 v0 v1 v2 h) 7 [(0, va_rf v0), (1, va_rf v1), (2, .int v2)] [] h) (v0 : Option Nat) (v1 : Option Nat) (v2 : Int32) (h : gk_H) : gk_P gw_V (d + 4) y_Li_prepare b_Li_prepare 5 none [] (f_Li_prepare_b138 b7 v0 v1 v2 h) 138 [(0, va_rf v0), (1, va_rf v1), (2, .int v2)] [] h := by
  unfold f_Li_prepare_b138
  refine gk_aload_n (pc := 138) 0 d_Li_prepare_138 rfl ?_
  refine gk_dup (pc := 139) d_Li_prepare_139 (gk_cat_rf _) ?_
  refine gk_getI (pc := 140) 3 1 d_Li_prepare_140 rfl (Nat.le_of_ble_eq_true rfl) tw_245 fun x1 => ?_
  refine gk_iconst (pc := 143) (1 : Int32) d_Li_prepare_143 rfl ?_
  refine gk_iadd (pc := 144) d_Li_prepare_144 ?_
  refine gk_putfield (pc := 145) 3 1 d_Li_prepare_145 rfl (Nat.le_of_ble_eq_true rfl) tw_245 (Or.inl rfl) fun h1 => ?_
  refine gk_goto (pc := 148) 7 d_Li_prepare_148 rfl ?_
  exact q7 v0 v1 v2 h1
theorem p_Li_prepare_b134 (d : Nat) (b7 : Option Nat → Option Nat → Int32 → gk_H → Option (Unit × gk_H)) (q7 : ∀ (v0 : Option Nat) (v1 : Option Nat) (v2 : Int32) (h : gk_H), gk_P gw_V (d + 4) y_Li_prepare b_Li_prepare 5 none [] (b7 v0 v1 v2 h) 7 [(0, va_rf v0), (1, va_rf v1), (2, .int v2)] [] h) (v0 : Option Nat) (v1 : Option Nat) (v2 : Int32) (s0 : Option Nat) (s1 : Int32) (s2 : Int32) (h : gk_H) : gk_P gw_V (d + 4) y_Li_prepare b_Li_prepare 5 none [] (f_Li_prepare_b134 b7 v0 v1 v2 s0 s1 s2 h) 134 [(0, va_rf v0), (1, va_rf v1), (2, .int v2)] [.int s2, .int s1, va_rf s0] h := by
  unfold f_Li_prepare_b134
  refine gk_iast (pc := 134) d_Li_prepare_134 fun h1 => ?_
  refine gk_iincN (pc := 135) 2 (1 : Int32) (L' := fun x1 => [(2, .int x1), (0, va_rf v0), (1, va_rf v1)]) d_Li_prepare_135 rfl rfl (Nat.le_of_ble_eq_true rfl) (fun _ => by simp [gk_s1, gk_cat_rf, gk_catI, gk_catJ, gk_catD] <;> decide) fun x1 => ?_
  refine gk_weak [1, 2, 0] (L' := [(0, va_rf v0), (1, va_rf v1), (2, .int x1)]) rfl ?_
  exact p_Li_prepare_b138 d b7 q7 v0 v1 x1 h1
theorem p_Li_prepare_b101 (d : Nat) (b7 : Option Nat → Option Nat → Int32 → gk_H → Option (Unit × gk_H)) (q7 : ∀ (v0 : Option Nat) (v1 : Option Nat) (v2 : Int32) (h : gk_H), gk_P gw_V (d + 4) y_Li_prepare b_Li_prepare 5 none [] (b7 v0 v1 v2 h) 7 [(0, va_rf v0), (1, va_rf v1), (2, .int v2)] [] h) (v0 : Option Nat) (v1 : Option Nat) (v2 : Int32) (v3 : Int32) (h : gk_H) : gk_P gw_V (d + 4) y_Li_prepare b_Li_prepare 5 none [] (f_Li_prepare_b101 b7 v0 v1 v2 v3 h) 101 [(0, va_rf v0), (1, va_rf v1), (2, .int v2), (3, .int v3)] [] h := by
  unfold f_Li_prepare_b101
  refine gk_aload_n (pc := 101) 0 d_Li_prepare_101 rfl ?_
  refine gk_getR (pc := 102) 3 0 d_Li_prepare_102 rfl (Nat.le_of_ble_eq_true rfl) tw_244 fun x1 => ?_
  refine gk_aload_n (pc := 105) 0 d_Li_prepare_105 rfl ?_
  refine gk_getI (pc := 106) 3 1 d_Li_prepare_106 rfl (Nat.le_of_ble_eq_true rfl) tw_245 fun x2 => ?_
  refine gk_iload_n (pc := 109) 3 d_Li_prepare_109 rfl ?_
  refine gk_bipush (pc := 110) (63 : Int32) d_Li_prepare_110 rfl ?_
  refine gk_icmp_ne (pc := 112) 119 d_Li_prepare_112 rfl (fun _ => ?_) (fun _ => ?_)
  · refine gk_iconst (pc := 115) (-1 : Int32) d_Li_prepare_115 rfl ?_
    refine gk_goto (pc := 116) 134 d_Li_prepare_116 rfl ?_
    refine gk_weak [0, 1, 2] (L' := [(0, va_rf v0), (1, va_rf v1), (2, .int v2)]) rfl ?_
    exact p_Li_prepare_b134 d b7 q7 v0 v1 v2 x1 x2 (-1 : Int32) h
  · refine gk_iload_n (pc := 119) 3 d_Li_prepare_119 rfl ?_
    refine gk_bipush (pc := 120) (42 : Int32) d_Li_prepare_120 rfl ?_
    refine gk_icmp_ne (pc := 122) 130 d_Li_prepare_122 rfl (fun _ => ?_) (fun _ => ?_)
    · refine gk_bipush (pc := 125) (-2 : Int32) d_Li_prepare_125 rfl ?_
      refine gk_goto (pc := 127) 134 d_Li_prepare_127 rfl ?_
      refine gk_weak [0, 1, 2] (L' := [(0, va_rf v0), (1, va_rf v1), (2, .int v2)]) rfl ?_
      exact p_Li_prepare_b134 d b7 q7 v0 v1 v2 x1 x2 (-2 : Int32) h
    · refine gk_iload_n (pc := 130) 3 d_Li_prepare_130 rfl ?_
      refine gk_callS (pc := 131) (d := (d + 3)) (w' := gv_I) (as := [.int v3]) (n := 1) d_Li_prepare_131 rfl rfl (by simp [gk_cat_rf, gk_catI, gk_catJ, gk_catD, gv_V, gv_I, gv_J, gv_D, gv_R]) tw_1155 tw_981 tw_116 cw_Le_great hy_Le_great (Nat.le_of_ble_eq_true rfl) (p_Le_great (d + 3) v3 h) fun x3 h1 => ?_
      refine gk_weak [0, 1, 2] (L' := [(0, va_rf v0), (1, va_rf v1), (2, .int v2)]) rfl ?_
      exact p_Li_prepare_b134 d b7 q7 v0 v1 v2 x1 x2 x3 h1
theorem p_Li_prepare_b84 (d : Nat) (b7 : Option Nat → Option Nat → Int32 → gk_H → Option (Unit × gk_H)) (q7 : ∀ (v0 : Option Nat) (v1 : Option Nat) (v2 : Int32) (h : gk_H), gk_P gw_V (d + 4) y_Li_prepare b_Li_prepare 5 none [] (b7 v0 v1 v2 h) 7 [(0, va_rf v0), (1, va_rf v1), (2, .int v2)] [] h) (v0 : Option Nat) (v1 : Option Nat) (v2 : Int32) (v4 : Int32) (h : gk_H) : gk_P gw_V (d + 4) y_Li_prepare b_Li_prepare 5 none [] (f_Li_prepare_b84 b7 v0 v1 v2 v4 h) 84 [(0, va_rf v0), (1, va_rf v1), (2, .int v2), (4, .int v4)] [] h := by
  unfold f_Li_prepare_b84
  refine gk_aload_n (pc := 84) 0 d_Li_prepare_84 rfl ?_
  refine gk_getR (pc := 85) 3 0 d_Li_prepare_85 rfl (Nat.le_of_ble_eq_true rfl) tw_244 fun x1 => ?_
  refine gk_aload_n (pc := 88) 0 d_Li_prepare_88 rfl ?_
  refine gk_getI (pc := 89) 3 1 d_Li_prepare_89 rfl (Nat.le_of_ble_eq_true rfl) tw_245 fun x2 => ?_
  refine gk_iload (pc := 92) 3 d_Li_prepare_92 rfl ?_
  refine gk_iast (pc := 94) d_Li_prepare_94 fun h1 => ?_
  refine gk_iincN (pc := 95) 2 (2 : Int32) (L' := fun x3 => [(2, .int x3), (0, va_rf v0), (1, va_rf v1), (4, .int v4)]) d_Li_prepare_95 rfl rfl (Nat.le_of_ble_eq_true rfl) (fun _ => by simp [gk_s1, gk_cat_rf, gk_catI, gk_catJ, gk_catD] <;> decide) fun x3 => ?_
  refine gk_goto (pc := 98) 138 d_Li_prepare_98 rfl ?_
  refine gk_weak [1, 2, 0] (L' := [(0, va_rf v0), (1, va_rf v1), (2, .int x3)]) rfl ?_
  exact p_Li_prepare_b138 d b7 q7 v0 v1 x3 h1
theorem p_Li_prepare_b55 (d : Nat) (b7 : Option Nat → Option Nat → Int32 → gk_H → Option (Unit × gk_H)) (q7 : ∀ (v0 : Option Nat) (v1 : Option Nat) (v2 : Int32) (h : gk_H), gk_P gw_V (d + 4) y_Li_prepare b_Li_prepare 5 none [] (b7 v0 v1 v2 h) 7 [(0, va_rf v0), (1, va_rf v1), (2, .int v2)] [] h) (v0 : Option Nat) (v1 : Option Nat) (v2 : Int32) (v3 : Int32) (s0 : Int32) (h : gk_H) : gk_P gw_V (d + 4) y_Li_prepare b_Li_prepare 5 none [] (f_Li_prepare_b55 b7 v0 v1 v2 v3 s0 h) 55 [(0, va_rf v0), (1, va_rf v1), (2, .int v2), (3, .int v3)] [.int s0] h := by
  unfold f_Li_prepare_b55
  refine gk_istore (pc := 55) (L' := [(4, .int s0), (0, va_rf v0), (1, va_rf v1), (2, .int v2), (3, .int v3)]) d_Li_prepare_55 (Nat.le_of_ble_eq_true rfl) rfl ?_
  refine gk_iload_n (pc := 57) 4 d_Li_prepare_57 rfl ?_
  refine gk_bipush (pc := 58) (126 : Int32) d_Li_prepare_58 rfl ?_
  refine gk_icmp_ne (pc := 60) 101 d_Li_prepare_60 rfl (fun _ => ?_) (fun _ => ?_)
  · refine gk_iload (pc := 63) 0 d_Li_prepare_63 rfl ?_
    refine gk_bipush (pc := 65) (63 : Int32) d_Li_prepare_65 rfl ?_
    refine gk_icmp_eq (pc := 67) 84 d_Li_prepare_67 rfl (fun _ => ?_) (fun _ => ?_)
    · refine gk_weak [1, 2, 3, 0] (L' := [(0, va_rf v0), (1, va_rf v1), (2, .int v2), (4, .int s0)]) rfl ?_
      exact p_Li_prepare_b84 d b7 q7 v0 v1 v2 s0 h
    · refine gk_iload (pc := 70) 0 d_Li_prepare_70 rfl ?_
      refine gk_bipush (pc := 72) (42 : Int32) d_Li_prepare_72 rfl ?_
      refine gk_icmp_eq (pc := 74) 84 d_Li_prepare_74 rfl (fun _ => ?_) (fun _ => ?_)
      · refine gk_weak [1, 2, 3, 0] (L' := [(0, va_rf v0), (1, va_rf v1), (2, .int v2), (4, .int s0)]) rfl ?_
        exact p_Li_prepare_b84 d b7 q7 v0 v1 v2 s0 h
      · refine gk_iload (pc := 77) 0 d_Li_prepare_77 rfl ?_
        refine gk_bipush (pc := 79) (126 : Int32) d_Li_prepare_79 rfl ?_
        refine gk_icmp_ne (pc := 81) 101 d_Li_prepare_81 rfl (fun _ => ?_) (fun _ => ?_)
        · refine gk_weak [1, 2, 3, 0] (L' := [(0, va_rf v0), (1, va_rf v1), (2, .int v2), (4, .int s0)]) rfl ?_
          exact p_Li_prepare_b84 d b7 q7 v0 v1 v2 s0 h
        · refine gk_weak [1, 2, 3, 4] (L' := [(0, va_rf v0), (1, va_rf v1), (2, .int v2), (3, .int v3)]) rfl ?_
          exact p_Li_prepare_b101 d b7 q7 v0 v1 v2 v3 h
  · refine gk_weak [1, 2, 3, 4] (L' := [(0, va_rf v0), (1, va_rf v1), (2, .int v2), (3, .int v3)]) rfl ?_
    exact p_Li_prepare_b101 d b7 q7 v0 v1 v2 v3 h
theorem p_Li_prepare_b7 (d : Nat)  : ∀ (fu : Nat) (v0 : Option Nat) (v1 : Option Nat) (v2 : Int32) (h : gk_H), gk_P gw_V (d + 4) y_Li_prepare b_Li_prepare 5 none [] (f_Li_prepare_b7  fu v0 v1 v2 h) 7 [(0, va_rf v0), (1, va_rf v1), (2, .int v2)] [] h := by
  intro fu
  induction fu with
  | zero => intros; exact gk_none
  | succ fu q7 =>
    intro v0 v1 v2 h
    rw [f_Li_prepare_b7]
    refine gk_iload_n (pc := 7) 2 d_Li_prepare_7 rfl ?_
    refine gk_aload_n (pc := 8) 1 d_Li_prepare_8 rfl ?_
    refine gk_callV (pc := 9) (d := (d + 3)) (w' := gv_I) (as := []) (n := 0) 0 d_Li_prepare_9 rfl rfl rfl rfl (Nat.le_of_ble_eq_true rfl) tw_1153 tw_613 tw_614 tw_94 cw_St_length hy_St_length (Nat.le_of_ble_eq_true rfl) (p_St_length (d + 2) v1 h) fun x1 h1 => ?_
    refine gk_icmp_ge (pc := 12) 151 d_Li_prepare_12 rfl (fun _ => ?_) (fun _ => ?_)
    · refine gk_weak [] (L' := []) rfl ?_
      exact p_Li_prepare_b151 d h1
    · refine gk_aload_n (pc := 15) 0 d_Li_prepare_15 rfl ?_
      refine gk_getI (pc := 16) 3 1 d_Li_prepare_16 rfl (Nat.le_of_ble_eq_true rfl) tw_245 fun x2 => ?_
      refine gk_aload_n (pc := 19) 0 d_Li_prepare_19 rfl ?_
      refine gk_getR (pc := 20) 3 0 d_Li_prepare_20 rfl (Nat.le_of_ble_eq_true rfl) tw_244 fun x3 => ?_
      refine gk_alen (pc := 23) d_Li_prepare_23 fun x4 => ?_
      refine gk_icmp_ge (pc := 24) 151 d_Li_prepare_24 rfl (fun _ => ?_) (fun _ => ?_)
      · refine gk_weak [] (L' := []) rfl ?_
        exact p_Li_prepare_b151 d h1
      · refine gk_aload_n (pc := 27) 1 d_Li_prepare_27 rfl ?_
        refine gk_iload_n (pc := 28) 2 d_Li_prepare_28 rfl ?_
        refine gk_callV (pc := 29) (d := (d + 3)) (w' := gv_I) (as := [.int v2]) (n := 1) 0 d_Li_prepare_29 rfl rfl rfl rfl (Nat.le_of_ble_eq_true rfl) tw_1154 tw_811 tw_812 tw_94 cw_St_charAt hy_St_charAt (Nat.le_of_ble_eq_true rfl) (p_St_charAt d v1 v2 h1) fun x5 h2 => ?_
        refine gk_istore_n (pc := 32) (L' := [(3, .int x5), (0, va_rf v0), (1, va_rf v1), (2, .int v2)]) d_Li_prepare_32 (Nat.le_of_ble_eq_true rfl) rfl ?_
        refine gk_iload_n (pc := 33) 3 d_Li_prepare_33 rfl ?_
        refine gk_iconst (pc := 34) (1 : Int32) d_Li_prepare_34 rfl ?_
        refine gk_iadd (pc := 35) d_Li_prepare_35 ?_
        refine gk_aload_n (pc := 36) 2 d_Li_prepare_36 rfl ?_
        refine gk_callV (pc := 37) (d := (d + 3)) (w' := gv_I) (as := []) (n := 0) 0 d_Li_prepare_37 rfl rfl rfl rfl (Nat.le_of_ble_eq_true rfl) tw_1153 tw_613 tw_614 tw_94 cw_St_length hy_St_length (Nat.le_of_ble_eq_true rfl) (p_St_length (d + 2) v1 h2) fun x6 h3 => ?_
        refine gk_icmp_ge (pc := 40) 53 d_Li_prepare_40 rfl (fun _ => ?_) (fun _ => ?_)
        · refine gk_bipush (pc := 53) (32 : Int32) d_Li_prepare_53 rfl ?_
          refine gk_weak [1, 2, 3, 0] (L' := [(0, va_rf v0), (1, va_rf v1), (2, .int v2), (3, .int x5)]) rfl ?_
          exact p_Li_prepare_b55 d (f_Li_prepare_b7 fu) q7 v0 v1 v2 x5 (32 : Int32) h3
        · refine gk_aload_n (pc := 43) 2 d_Li_prepare_43 rfl ?_
          refine gk_iload_n (pc := 44) 3 d_Li_prepare_44 rfl ?_
          refine gk_iconst (pc := 45) (1 : Int32) d_Li_prepare_45 rfl ?_
          refine gk_iadd (pc := 46) d_Li_prepare_46 ?_
          refine gk_callV (pc := 47) (d := (d + 3)) (w' := gv_I) (as := [.int (v2 + (1 : Int32))]) (n := 1) 0 d_Li_prepare_47 rfl rfl rfl rfl (Nat.le_of_ble_eq_true rfl) tw_1154 tw_811 tw_812 tw_94 cw_St_charAt hy_St_charAt (Nat.le_of_ble_eq_true rfl) (p_St_charAt d v1 (v2 + (1 : Int32)) h3) fun x7 h4 => ?_
          refine gk_goto (pc := 50) 55 d_Li_prepare_50 rfl ?_
          refine gk_weak [1, 2, 3, 0] (L' := [(0, va_rf v0), (1, va_rf v1), (2, .int v2), (3, .int x5)]) rfl ?_
          exact p_Li_prepare_b55 d (f_Li_prepare_b7 fu) q7 v0 v1 v2 x5 x7 h4
theorem w_Li_prepare (d : Nat) (a0 : Option Nat) (a1 : Option Nat) (h : gk_H) : gk_P gw_V (d + 4) y_Li_prepare b_Li_prepare 5 none [] (f_Li_prepare a0 a1 h) 0 [(0, va_rf a0), (1, va_rf a1)] [] h := by
  unfold f_Li_prepare
  refine gk_aload_n (pc := 0) 0 d_Li_prepare_0 rfl ?_
  refine gk_iconst (pc := 1) (0 : Int32) d_Li_prepare_1 rfl ?_
  refine gk_putfield (pc := 2) 3 1 d_Li_prepare_2 rfl (Nat.le_of_ble_eq_true rfl) tw_245 (Or.inl rfl) fun h1 => ?_
  refine gk_iconst (pc := 5) (0 : Int32) d_Li_prepare_5 rfl ?_
  refine gk_istore_n (pc := 6) (L' := [(2, .int (0 : Int32)), (0, va_rf a0), (1, va_rf a1)]) d_Li_prepare_6 (Nat.le_of_ble_eq_true rfl) (by simp [gk_s1, gk_s2, gk_cat_rf, gk_catI, gk_catJ, gk_catD] <;> decide) ?_
  refine gk_weak [1, 2, 0] (L' := [(0, va_rf a0), (1, va_rf a1), (2, .int (0 : Int32))]) rfl ?_
  exact p_Li_prepare_b7 d gk_F a0 a1 (0 : Int32) h1
theorem p_Li_prepare (d : Nat) (a0 : Option Nat) (a1 : Option Nat) (h : gk_H) : ∀ r h1, f_Li_prepare a0 a1 h = some (r, h1) → gk_M (d + 4) y_Li_prepare b_Li_prepare 5 none [va_rf a0, va_rf a1] h (.inl (gv_V r)) h1 :=
  fun r h1 e => gk_M_of2 (by decide +kernel) (by simp [lv_args, gk_cat_rf, gk_catI, gk_catJ, gk_catD, gv_V, gv_I, gv_J, gv_D, gv_R]) (by simp [lg_sl, gk_cat_rf, gk_catI, gk_catJ, gk_catD, gv_V, gv_I, gv_J, gv_D, gv_R]) (w_Li_prepare d a0 a1 h r h1 e)
theorem d_Cr_init_0 : decode b_Cr_init 0 = .ok (.aload_n 0, 1) := by decide +kernel
theorem d_Cr_init_1 : decode b_Cr_init 1 = .ok (.invokespecial 1, 3) := by decide +kernel
theorem d_Cr_init_4 : decode b_Cr_init 4 = .ok (.aload_n 0, 1) := by decide +kernel
theorem d_Cr_init_5 : decode b_Cr_init 5 = .ok (.iload_n 1, 1) := by decide +kernel
theorem d_Cr_init_6 : decode b_Cr_init 6 = .ok (.putfield 7, 3) := by decide +kernel
theorem d_Cr_init_9 : decode b_Cr_init 9 = .ok (.aload_n 0, 1) := by decide +kernel
theorem d_Cr_init_10 : decode b_Cr_init 10 = .ok (.aload_n 2, 1) := by decide +kernel
theorem d_Cr_init_11 : decode b_Cr_init 11 = .ok (.putfield 13, 3) := by decide +kernel
theorem d_Cr_init_14 : decode b_Cr_init 14 = .ok (.aload_n 0, 1) := by decide +kernel
theorem d_Cr_init_15 : decode b_Cr_init 15 = .ok (.aload_n 3, 1) := by decide +kernel
theorem d_Cr_init_16 : decode b_Cr_init 16 = .ok (.putfield 17, 3) := by decide +kernel
theorem d_Cr_init_19 : decode b_Cr_init 19 = .ok (.return_, 1) := by decide +kernel
theorem w_Cr_init (d : Nat) (a0 : Option Nat) (a1 : Int32) (a2 : Option Nat) (a3 : Option Nat) (h : gk_H) : gk_P gw_V (d + 1) y_Cr_init b_Cr_init 4 none [] (f_Cr_init a0 a1 a2 a3 h) 0 [(0, va_rf a0), (1, .int a1), (2, va_rf a2), (3, va_rf a3)] [] h := by
  unfold f_Cr_init
  refine gk_aload_n (pc := 0) 0 d_Cr_init_0 rfl ?_
  refine gk_objI (pc := 1) (d := d) d_Cr_init_1 tw_1161 (Nat.le_of_ble_eq_true rfl) ?_
  refine gk_aload_n (pc := 4) 0 d_Cr_init_4 rfl ?_
  refine gk_iload_n (pc := 5) 1 d_Cr_init_5 rfl ?_
  refine gk_putfield (pc := 6) 6 0 d_Cr_init_6 rfl (Nat.le_of_ble_eq_true rfl) tw_1162 (Or.inr ⟨rfl, rfl⟩) fun h1 => ?_
  refine gk_aload_n (pc := 9) 0 d_Cr_init_9 rfl ?_
  refine gk_aload_n (pc := 10) 2 d_Cr_init_10 rfl ?_
  refine gk_putfield (pc := 11) 6 1 d_Cr_init_11 rfl (Nat.le_of_ble_eq_true rfl) tw_1163 (Or.inr ⟨rfl, rfl⟩) fun h2 => ?_
  refine gk_aload_n (pc := 14) 0 d_Cr_init_14 rfl ?_
  refine gk_aload_n (pc := 15) 3 d_Cr_init_15 rfl ?_
  refine gk_putfield (pc := 16) 6 2 d_Cr_init_16 rfl (Nat.le_of_ble_eq_true rfl) tw_1164 (Or.inr ⟨rfl, rfl⟩) fun h3 => ?_
  exact gk_vret (pc := 19) rfl d_Cr_init_19 rfl
theorem p_Cr_init (d : Nat) (a0 : Option Nat) (a1 : Int32) (a2 : Option Nat) (a3 : Option Nat) (h : gk_H) : ∀ r h1, f_Cr_init a0 a1 a2 a3 h = some (r, h1) → gk_M (d + 1) y_Cr_init b_Cr_init 4 none [va_rf a0, .int a1, va_rf a2, va_rf a3] h (.inl (gv_V r)) h1 :=
  fun r h1 e => gk_M_of2 (by decide +kernel) (by simp [lv_args, gk_cat_rf, gk_catI, gk_catJ, gk_catD, gv_V, gv_I, gv_J, gv_D, gv_R]) (by simp [lg_sl, gk_cat_rf, gk_catI, gk_catJ, gk_catD, gv_V, gv_I, gv_J, gv_D, gv_R]) (w_Cr_init d a0 a1 a2 a3 h r h1 e)
theorem d_Cr_of_0 : decode b_Cr_of 0 = .ok (.aload_n 0, 1) := by decide +kernel
theorem d_Cr_of_1 : decode b_Cr_of 1 = .ok (.invokestatic 21, 3) := by decide +kernel
theorem d_Cr_of_4 : decode b_Cr_of 4 = .ok (.astore_n 2, 1) := by decide +kernel
theorem d_Cr_of_5 : decode b_Cr_of 5 = .ok (.aload_n 1, 1) := by decide +kernel
theorem d_Cr_of_6 : decode b_Cr_of 6 = .ok (.aload_n 2, 1) := by decide +kernel
theorem d_Cr_of_7 : decode b_Cr_of 7 = .ok (.getfield 25, 3) := by decide +kernel
theorem d_Cr_of_10 : decode b_Cr_of 10 = .ok (.invokevirtual 31, 3) := by decide +kernel
theorem d_Cr_of_13 : decode b_Cr_of 13 = .ok (.new 8, 3) := by decide +kernel
theorem d_Cr_of_16 : decode b_Cr_of 16 = .ok (.dup, 1) := by decide +kernel
theorem d_Cr_of_17 : decode b_Cr_of 17 = .ok (.aload_n 0, 1) := by decide +kernel
theorem d_Cr_of_18 : decode b_Cr_of 18 = .ok (.getfield 25, 3) := by decide +kernel
theorem d_Cr_of_21 : decode b_Cr_of 21 = .ok (.invokestatic 37, 3) := by decide +kernel
theorem d_Cr_of_24 : decode b_Cr_of 24 = .ok (.aload_n 2, 1) := by decide +kernel
theorem d_Cr_of_25 : decode b_Cr_of 25 = .ok (.aload_n 1, 1) := by decide +kernel
theorem d_Cr_of_26 : decode b_Cr_of 26 = .ok (.invokespecial 41, 3) := by decide +kernel
theorem d_Cr_of_29 : decode b_Cr_of 29 = .ok (.areturn, 1) := by decide +kernel
theorem w_Cr_of (d : Nat) (a0 : Option Nat) (a1 : Option Nat) (h : gk_H) : gk_P gw_R (d + 7) y_Cr_of b_Cr_of 3 (some (.object "ValueAlgebra$Criterion")) [] (f_Cr_of a0 a1 h) 0 [(0, va_rf a0), (1, va_rf a1)] [] h := by
  unfold f_Cr_of
  refine gk_aload_n (pc := 0) 0 d_Cr_of_0 rfl ?_
  refine gk_callS (pc := 1) (d := (d + 6)) (w' := gv_R) (as := [va_rf a0]) (n := 1) d_Cr_of_1 rfl rfl (Nat.le_of_ble_eq_true rfl) tw_1106 tw_1107 tw_120 cw_Cr_wantedOf hy_Cr_wantedOf (Nat.le_of_ble_eq_true rfl) (p_Cr_wantedOf d a0 h) fun x1 h1 => ?_
  refine gk_astore_n (pc := 4) (L' := [(2, va_rf x1), (0, va_rf a0), (1, va_rf a1)]) d_Cr_of_4 (Nat.le_of_ble_eq_true rfl) (by simp [gk_s1, gk_s2, gk_cat_rf, gk_catI, gk_catJ, gk_catD] <;> decide) ?_
  refine gk_aload_n (pc := 5) 2 d_Cr_of_5 rfl ?_
  refine gk_aload_n (pc := 6) 0 d_Cr_of_6 rfl ?_
  refine gk_getR (pc := 7) 2 3 d_Cr_of_7 rfl (Nat.le_of_ble_eq_true rfl) tw_205 fun x2 => ?_
  refine gk_callV (pc := 10) (d := (d + 6)) (w' := gv_V) (as := [va_rf x2]) (n := 1) 3 d_Cr_of_10 rfl rfl rfl rfl (Nat.le_of_ble_eq_true rfl) tw_1149 tw_1150 tw_1151 tw_98 cw_Li_prepare hy_Li_prepare (Nat.le_of_ble_eq_true rfl) (p_Li_prepare (d + 2) a1 x2 h1) fun _ h2 => ?_
  refine gk_newO (pc := 13) 6 3 d_Cr_of_13 rfl tw_1156 tw_1157 tw_120 fun x3 h3 => ?_
  refine gk_dup (pc := 16) d_Cr_of_16 (gk_cat_rf _) ?_
  refine gk_aload_n (pc := 17) 1 d_Cr_of_17 rfl ?_
  refine gk_getR (pc := 18) 2 3 d_Cr_of_18 rfl (Nat.le_of_ble_eq_true rfl) tw_205 fun x4 => ?_
  refine gk_callS (pc := 21) (d := (d + 6)) (w' := gv_I) (as := [va_rf x4]) (n := 1) d_Cr_of_21 rfl rfl (by simp [gk_cat_rf, gk_catI, gk_catJ, gk_catD, gv_V, gv_I, gv_J, gv_D, gv_R]) tw_1113 tw_1114 tw_120 cw_Cr_relationOf hy_Cr_relationOf (Nat.le_of_ble_eq_true rfl) (p_Cr_relationOf (d + 2) x4 h3) fun x5 h4 => ?_
  refine gk_aload_n (pc := 24) 0 d_Cr_of_24 rfl ?_
  refine gk_aload_n (pc := 25) 2 d_Cr_of_25 rfl ?_
  refine gk_callI (pc := 26) (d := (d + 6)) (w' := gv_V) (as := [.int x5, va_rf x1, va_rf a1]) (n := 3) 6 d_Cr_of_26 rfl rfl (by simp [gk_cat_rf, gk_catI, gk_catJ, gk_catD, gv_V, gv_I, gv_J, gv_D, gv_R]) tw_1158 tw_1159 tw_120 cw_Cr_init rfl hy_Cr_init (Nat.le_of_ble_eq_true rfl) (p_Cr_init (d + 5) x3 x5 x1 a1 h4) fun _ h5 => ?_
  exact gk_aret (pc := 29) rfl d_Cr_of_29 rfl (Or.inl ⟨_, rfl⟩)
theorem p_Cr_of (d : Nat) (a0 : Option Nat) (a1 : Option Nat) (h : gk_H) : ∀ r h1, f_Cr_of a0 a1 h = some (r, h1) → gk_M (d + 7) y_Cr_of b_Cr_of 3 (some (.object "ValueAlgebra$Criterion")) [va_rf a0, va_rf a1] h (.inl (gv_R r)) h1 :=
  fun r h1 e => gk_M_of2 (by decide +kernel) (by simp [lv_args, gk_cat_rf, gk_catI, gk_catJ, gk_catD, gv_V, gv_I, gv_J, gv_D, gv_R]) (by simp [lg_sl, gk_cat_rf, gk_catI, gk_catJ, gk_catD, gv_V, gv_I, gv_J, gv_D, gv_R]) (w_Cr_of d a0 a1 h r h1 e)
theorem d_Ar_howMany_0 : decode b_Ar_howMany 0 = .ok (.aload_n 0, 1) := by decide +kernel
theorem d_Ar_howMany_1 : decode b_Ar_howMany 1 = .ok (.getfield 46, 3) := by decide +kernel
theorem d_Ar_howMany_4 : decode b_Ar_howMany 4 = .ok (.ireturn, 1) := by decide +kernel
theorem w_Ar_howMany (d : Nat) (a0 : Option Nat) (h : gk_H) : gk_P gw_I d y_Ar_howMany b_Ar_howMany 1 (some .int) [] (f_Ar_howMany a0 h) 0 [(0, va_rf a0)] [] h := by
  unfold f_Ar_howMany
  refine gk_aload_n (pc := 0) 0 d_Ar_howMany_0 rfl ?_
  refine gk_getI (pc := 1) 4 2 d_Ar_howMany_1 rfl (Nat.le_of_ble_eq_true rfl) tw_262 fun x1 => ?_
  exact gk_iret (pc := 4) rfl d_Ar_howMany_4 rfl
theorem p_Ar_howMany (d : Nat) (a0 : Option Nat) (h : gk_H) : ∀ r h1, f_Ar_howMany a0 h = some (r, h1) → gk_M d y_Ar_howMany b_Ar_howMany 1 (some .int) [va_rf a0] h (.inl (gv_I r)) h1 :=
  fun r h1 e => gk_M_of2 (by decide +kernel) (by simp [lv_args, gk_cat_rf, gk_catI, gk_catJ, gk_catD, gv_V, gv_I, gv_J, gv_D, gv_R]) (by simp [lg_sl, gk_cat_rf, gk_catI, gk_catJ, gk_catD, gv_V, gv_I, gv_J, gv_D, gv_R]) (w_Ar_howMany d a0 h r h1 e)
theorem d_Va_isOfShape_0 : decode b_Va_isOfShape 0 = .ok (.aload_n 0, 1) := by decide +kernel
theorem d_Va_isOfShape_1 : decode b_Va_isOfShape 1 = .ok (.getfield 26, 3) := by decide +kernel
theorem d_Va_isOfShape_4 : decode b_Va_isOfShape 4 = .ok (.aload_n 1, 1) := by decide +kernel
theorem d_Va_isOfShape_5 : decode b_Va_isOfShape 5 = .ok (.getfield 26, 3) := by decide +kernel
theorem d_Va_isOfShape_8 : decode b_Va_isOfShape 8 = .ok (.if_icmp .ne 18, 3) := by decide +kernel
theorem d_Va_isOfShape_11 : decode b_Va_isOfShape 11 = .ok (.aload_n 0, 1) := by decide +kernel
theorem d_Va_isOfShape_12 : decode b_Va_isOfShape 12 = .ok (.getfield 29, 3) := by decide +kernel
theorem d_Va_isOfShape_15 : decode b_Va_isOfShape 15 = .ok (.aload_n 1, 1) := by decide +kernel
theorem d_Va_isOfShape_16 : decode b_Va_isOfShape 16 = .ok (.getfield 29, 3) := by decide +kernel
theorem d_Va_isOfShape_19 : decode b_Va_isOfShape 19 = .ok (.if_icmp .ne 7, 3) := by decide +kernel
theorem d_Va_isOfShape_22 : decode b_Va_isOfShape 22 = .ok (.iconst 1, 1) := by decide +kernel
theorem d_Va_isOfShape_23 : decode b_Va_isOfShape 23 = .ok (.goto 4, 3) := by decide +kernel
theorem d_Va_isOfShape_26 : decode b_Va_isOfShape 26 = .ok (.iconst 0, 1) := by decide +kernel
theorem d_Va_isOfShape_27 : decode b_Va_isOfShape 27 = .ok (.ireturn, 1) := by decide +kernel
theorem p_Va_isOfShape_b27 (d : Nat)  (s0 : Int32) (h : gk_H) : gk_P gw_I d y_Va_isOfShape b_Va_isOfShape 2 (some .boolean) [] (f_Va_isOfShape_b27  s0 h) 27 [] [.int s0] h := by
  unfold f_Va_isOfShape_b27
  exact gk_zret (pc := 27) rfl d_Va_isOfShape_27 rfl
theorem p_Va_isOfShape_b26 (d : Nat)   (h : gk_H) : gk_P gw_I d y_Va_isOfShape b_Va_isOfShape 2 (some .boolean) [] (f_Va_isOfShape_b26   h) 26 [] [] h := by
  unfold f_Va_isOfShape_b26
  refine gk_iconst (pc := 26) (0 : Int32) d_Va_isOfShape_26 rfl ?_
  exact p_Va_isOfShape_b27 d (0 : Int32) h
theorem w_Va_isOfShape (d : Nat) (a0 : Option Nat) (a1 : Option Nat) (h : gk_H) : gk_P gw_I d y_Va_isOfShape b_Va_isOfShape 2 (some .boolean) [] (f_Va_isOfShape a0 a1 h) 0 [(0, va_rf a0), (1, va_rf a1)] [] h := by
  unfold f_Va_isOfShape
  refine gk_aload_n (pc := 0) 0 d_Va_isOfShape_0 rfl ?_
  refine gk_getI (pc := 1) 2 4 d_Va_isOfShape_1 rfl (Nat.le_of_ble_eq_true rfl) tw_212 fun x1 => ?_
  refine gk_aload_n (pc := 4) 1 d_Va_isOfShape_4 rfl ?_
  refine gk_getI (pc := 5) 2 4 d_Va_isOfShape_5 rfl (Nat.le_of_ble_eq_true rfl) tw_212 fun x2 => ?_
  refine gk_icmp_ne (pc := 8) 26 d_Va_isOfShape_8 rfl (fun _ => ?_) (fun _ => ?_)
  · refine gk_aload_n (pc := 11) 0 d_Va_isOfShape_11 rfl ?_
    refine gk_getI (pc := 12) 2 5 d_Va_isOfShape_12 rfl (Nat.le_of_ble_eq_true rfl) tw_215 fun x3 => ?_
    refine gk_aload_n (pc := 15) 1 d_Va_isOfShape_15 rfl ?_
    refine gk_getI (pc := 16) 2 5 d_Va_isOfShape_16 rfl (Nat.le_of_ble_eq_true rfl) tw_215 fun x4 => ?_
    refine gk_icmp_ne (pc := 19) 26 d_Va_isOfShape_19 rfl (fun _ => ?_) (fun _ => ?_)
    · refine gk_iconst (pc := 22) (1 : Int32) d_Va_isOfShape_22 rfl ?_
      refine gk_goto (pc := 23) 27 d_Va_isOfShape_23 rfl ?_
      refine gk_weak [] (L' := []) rfl ?_
      exact p_Va_isOfShape_b27 d (1 : Int32) h
    · refine gk_weak [] (L' := []) rfl ?_
      exact p_Va_isOfShape_b26 d h
  · refine gk_weak [] (L' := []) rfl ?_
    exact p_Va_isOfShape_b26 d h
theorem p_Va_isOfShape (d : Nat) (a0 : Option Nat) (a1 : Option Nat) (h : gk_H) : ∀ r h1, f_Va_isOfShape a0 a1 h = some (r, h1) → gk_M d y_Va_isOfShape b_Va_isOfShape 2 (some .boolean) [va_rf a0, va_rf a1] h (.inl (gv_I r)) h1 :=
  fun r h1 e => gk_M_of2 (by decide +kernel) (by simp [lv_args, gk_cat_rf, gk_catI, gk_catJ, gk_catD, gv_V, gv_I, gv_J, gv_D, gv_R]) (by simp [lg_sl, gk_cat_rf, gk_catI, gk_catJ, gk_catD, gv_V, gv_I, gv_J, gv_D, gv_R]) (w_Va_isOfShape d a0 a1 h r h1 e)
theorem d_Cr_isBothEmpty_0 : decode b_Cr_isBothEmpty 0 = .ok (.aload_n 1, 1) := by decide +kernel
theorem d_Cr_isBothEmpty_1 : decode b_Cr_isBothEmpty 1 = .ok (.getfield 60, 3) := by decide +kernel
theorem d_Cr_isBothEmpty_4 : decode b_Cr_isBothEmpty 4 = .ok (.ifCond .ne 20, 3) := by decide +kernel
theorem d_Cr_isBothEmpty_7 : decode b_Cr_isBothEmpty 7 = .ok (.aload_n 0, 1) := by decide +kernel
theorem d_Cr_isBothEmpty_8 : decode b_Cr_isBothEmpty 8 = .ok (.getfield 13, 3) := by decide +kernel
theorem d_Cr_isBothEmpty_11 : decode b_Cr_isBothEmpty 11 = .ok (.getfield 25, 3) := by decide +kernel
theorem d_Cr_isBothEmpty_14 : decode b_Cr_isBothEmpty 14 = .ok (.invokevirtual 44, 3) := by decide +kernel
theorem d_Cr_isBothEmpty_17 : decode b_Cr_isBothEmpty 17 = .ok (.ifCond .eq 7, 3) := by decide +kernel
theorem d_Cr_isBothEmpty_20 : decode b_Cr_isBothEmpty 20 = .ok (.iconst 1, 1) := by decide +kernel
theorem d_Cr_isBothEmpty_21 : decode b_Cr_isBothEmpty 21 = .ok (.goto 4, 3) := by decide +kernel
theorem d_Cr_isBothEmpty_24 : decode b_Cr_isBothEmpty 24 = .ok (.iconst 0, 1) := by decide +kernel
theorem d_Cr_isBothEmpty_25 : decode b_Cr_isBothEmpty 25 = .ok (.ireturn, 1) := by decide +kernel
theorem p_Cr_isBothEmpty_b25 (d : Nat)  (s0 : Int32) (h : gk_H) : gk_P gw_I (d + 1) y_Cr_isBothEmpty b_Cr_isBothEmpty 2 (some .boolean) [] (f_Cr_isBothEmpty_b25  s0 h) 25 [] [.int s0] h := by
  unfold f_Cr_isBothEmpty_b25
  exact gk_zret (pc := 25) rfl d_Cr_isBothEmpty_25 rfl
theorem p_Cr_isBothEmpty_b24 (d : Nat)   (h : gk_H) : gk_P gw_I (d + 1) y_Cr_isBothEmpty b_Cr_isBothEmpty 2 (some .boolean) [] (f_Cr_isBothEmpty_b24   h) 24 [] [] h := by
  unfold f_Cr_isBothEmpty_b24
  refine gk_iconst (pc := 24) (0 : Int32) d_Cr_isBothEmpty_24 rfl ?_
  exact p_Cr_isBothEmpty_b25 d (0 : Int32) h
theorem w_Cr_isBothEmpty (d : Nat) (a0 : Option Nat) (a1 : Option Nat) (h : gk_H) : gk_P gw_I (d + 1) y_Cr_isBothEmpty b_Cr_isBothEmpty 2 (some .boolean) [] (f_Cr_isBothEmpty a0 a1 h) 0 [(0, va_rf a0), (1, va_rf a1)] [] h := by
  unfold f_Cr_isBothEmpty
  refine gk_aload_n (pc := 0) 1 d_Cr_isBothEmpty_0 rfl ?_
  refine gk_getI (pc := 1) 2 0 d_Cr_isBothEmpty_1 rfl (Nat.le_of_ble_eq_true rfl) tw_186 fun x1 => ?_
  refine gk_if_ne (pc := 4) 24 d_Cr_isBothEmpty_4 rfl (fun _ => ?_) (fun _ => ?_)
  · refine gk_aload_n (pc := 7) 0 d_Cr_isBothEmpty_7 rfl ?_
    refine gk_getR (pc := 8) 6 1 d_Cr_isBothEmpty_8 rfl (Nat.le_of_ble_eq_true rfl) tw_1163 fun x2 => ?_
    refine gk_getR (pc := 11) 2 3 d_Cr_isBothEmpty_11 rfl (Nat.le_of_ble_eq_true rfl) tw_205 fun x3 => ?_
    refine gk_callV (pc := 14) (d := d) (w' := gv_I) (as := []) (n := 0) 0 d_Cr_isBothEmpty_14 rfl rfl rfl rfl (Nat.le_of_ble_eq_true rfl) tw_1116 tw_1043 tw_1044 tw_94 cw_St_isEmpty hy_St_isEmpty (Nat.le_of_ble_eq_true rfl) (p_St_isEmpty d x3 h) fun x4 h1 => ?_
    refine gk_if_eq (pc := 17) 24 d_Cr_isBothEmpty_17 rfl (fun _ => ?_) (fun _ => ?_)
    · refine gk_weak [] (L' := []) rfl ?_
      exact p_Cr_isBothEmpty_b24 d h1
    · refine gk_iconst (pc := 20) (1 : Int32) d_Cr_isBothEmpty_20 rfl ?_
      refine gk_goto (pc := 21) 25 d_Cr_isBothEmpty_21 rfl ?_
      refine gk_weak [] (L' := []) rfl ?_
      exact p_Cr_isBothEmpty_b25 d (1 : Int32) h1
  · refine gk_weak [] (L' := []) rfl ?_
    exact p_Cr_isBothEmpty_b24 d h
theorem p_Cr_isBothEmpty (d : Nat) (a0 : Option Nat) (a1 : Option Nat) (h : gk_H) : ∀ r h1, f_Cr_isBothEmpty a0 a1 h = some (r, h1) → gk_M (d + 1) y_Cr_isBothEmpty b_Cr_isBothEmpty 2 (some .boolean) [va_rf a0, va_rf a1] h (.inl (gv_I r)) h1 :=
  fun r h1 e => gk_M_of2 (by decide +kernel) (by simp [lv_args, gk_cat_rf, gk_catI, gk_catJ, gk_catD, gv_V, gv_I, gv_J, gv_D, gv_R]) (by simp [lg_sl, gk_cat_rf, gk_catI, gk_catJ, gk_catD, gv_V, gv_I, gv_J, gv_D, gv_R]) (w_Cr_isBothEmpty d a0 a1 h r h1 e)
theorem d_Li_stepOverMany_0 : decode b_Li_stepOverMany 0 = .ok (.iload_n 1, 1) := by decide +kernel
theorem d_Li_stepOverMany_1 : decode b_Li_stepOverMany 1 = .ok (.iconst 1, 1) := by decide +kernel
theorem d_Li_stepOverMany_2 : decode b_Li_stepOverMany 2 = .ok (.isub, 1) := by decide +kernel
theorem d_Li_stepOverMany_3 : decode b_Li_stepOverMany 3 = .ok (.istore_n 2, 1) := by decide +kernel
theorem d_Li_stepOverMany_4 : decode b_Li_stepOverMany 4 = .ok (.iload_n 2, 1) := by decide +kernel
theorem d_Li_stepOverMany_5 : decode b_Li_stepOverMany 5 = .ok (.ifCond .lt 40, 3) := by decide +kernel
theorem d_Li_stepOverMany_8 : decode b_Li_stepOverMany 8 = .ok (.aload_n 0, 1) := by decide +kernel
theorem d_Li_stepOverMany_9 : decode b_Li_stepOverMany 9 = .ok (.getfield 19, 3) := by decide +kernel
theorem d_Li_stepOverMany_12 : decode b_Li_stepOverMany 12 = .ok (.iload_n 2, 1) := by decide +kernel
theorem d_Li_stepOverMany_13 : decode b_Li_stepOverMany 13 = .ok (.aload_n 0, 1) := by decide +kernel
theorem d_Li_stepOverMany_14 : decode b_Li_stepOverMany 14 = .ok (.getfield 19, 3) := by decide +kernel
theorem d_Li_stepOverMany_17 : decode b_Li_stepOverMany 17 = .ok (.iload_n 2, 1) := by decide +kernel
theorem d_Li_stepOverMany_18 : decode b_Li_stepOverMany 18 = .ok (.baload, 1) := by decide +kernel
theorem d_Li_stepOverMany_19 : decode b_Li_stepOverMany 19 = .ok (.ifCond .ne 14, 3) := by decide +kernel
theorem d_Li_stepOverMany_22 : decode b_Li_stepOverMany 22 = .ok (.aload_n 0, 1) := by decide +kernel
theorem d_Li_stepOverMany_23 : decode b_Li_stepOverMany 23 = .ok (.getfield 19, 3) := by decide +kernel
theorem d_Li_stepOverMany_26 : decode b_Li_stepOverMany 26 = .ok (.iload_n 2, 1) := by decide +kernel
theorem d_Li_stepOverMany_27 : decode b_Li_stepOverMany 27 = .ok (.iconst 1, 1) := by decide +kernel
theorem d_Li_stepOverMany_28 : decode b_Li_stepOverMany 28 = .ok (.iadd, 1) := by decide +kernel
theorem d_Li_stepOverMany_29 : decode b_Li_stepOverMany 29 = .ok (.baload, 1) := by decide +kernel
theorem d_Li_stepOverMany_30 : decode b_Li_stepOverMany 30 = .ok (.ifCond .eq 7, 3) := by decide +kernel
theorem d_Li_stepOverMany_33 : decode b_Li_stepOverMany 33 = .ok (.iconst 1, 1) := by decide +kernel
theorem d_Li_stepOverMany_34 : decode b_Li_stepOverMany 34 = .ok (.goto 4, 3) := by decide +kernel
theorem d_Li_stepOverMany_37 : decode b_Li_stepOverMany 37 = .ok (.iconst 0, 1) := by decide +kernel
theorem d_Li_stepOverMany_38 : decode b_Li_stepOverMany 38 = .ok (.bastore, 1) := by decide +kernel
theorem d_Li_stepOverMany_39 : decode b_Li_stepOverMany 39 = .ok (.iinc 2 (-1), 3) := by decide +kernel
theorem d_Li_stepOverMany_42 : decode b_Li_stepOverMany 42 = .ok (.goto (-38), 3) := by decide +kernel
theorem d_Li_stepOverMany_45 : decode b_Li_stepOverMany 45 = .ok (.return_, 1) := by decide +kernel
theorem p_Li_stepOverMany_b38 (d : Nat) (b4 : Option Nat → Int32 → gk_H → Option (Unit × gk_H)) (q4 : ∀ (v0 : Option Nat) (v2 : Int32) (h : gk_H), gk_P gw_V d y_Li_stepOverMany b_Li_stepOverMany 3 none [] (b4 v0 v2 h) 4 [(0, va_rf v0), (2, .int v2)] [] h) (v0 : Option Nat) (v2 : Int32) (s0 : Option Nat) (s1 : Int32) (s2 : Int32) (h : gk_H) : gk_P gw_V d y_Li_stepOverMany b_Li_stepOverMany 3 none [] (f_Li_stepOverMany_b38 b4 v0 v2 s0 s1 s2 h) 38 [(0, va_rf v0), (2, .int v2)] [.int s2, .int s1, va_rf s0] h := by
  unfold f_Li_stepOverMany_b38
  refine gk_zast (pc := 38) d_Li_stepOverMany_38 fun h1 => ?_
  refine gk_iincN (pc := 39) 1 (-1 : Int32) (L' := fun x1 => [(2, .int x1), (0, va_rf v0)]) d_Li_stepOverMany_39 rfl rfl (Nat.le_of_ble_eq_true rfl) (fun _ => rfl) fun x1 => ?_
  refine gk_goto (pc := 42) 4 d_Li_stepOverMany_42 rfl ?_
  refine gk_weak [1, 0] (L' := [(0, va_rf v0), (2, .int x1)]) rfl ?_
  exact q4 v0 x1 h1
theorem p_Li_stepOverMany_b33 (d : Nat) (b4 : Option Nat → Int32 → gk_H → Option (Unit × gk_H)) (q4 : ∀ (v0 : Option Nat) (v2 : Int32) (h : gk_H), gk_P gw_V d y_Li_stepOverMany b_Li_stepOverMany 3 none [] (b4 v0 v2 h) 4 [(0, va_rf v0), (2, .int v2)] [] h) (v0 : Option Nat) (v2 : Int32) (s0 : Option Nat) (s1 : Int32) (h : gk_H) : gk_P gw_V d y_Li_stepOverMany b_Li_stepOverMany 3 none [] (f_Li_stepOverMany_b33 b4 v0 v2 s0 s1 h) 33 [(0, va_rf v0), (2, .int v2)] [.int s1, va_rf s0] h := by
  unfold f_Li_stepOverMany_b33
  refine gk_iconst (pc := 33) (1 : Int32) d_Li_stepOverMany_33 rfl ?_
  refine gk_goto (pc := 34) 38 d_Li_stepOverMany_34 rfl ?_
  exact p_Li_stepOverMany_b38 d b4 q4 v0 v2 s0 s1 (1 : Int32) h
theorem p_Li_stepOverMany_b4 (d : Nat)  : ∀ (fu : Nat) (v0 : Option Nat) (v2 : Int32) (h : gk_H), gk_P gw_V d y_Li_stepOverMany b_Li_stepOverMany 3 none [] (f_Li_stepOverMany_b4  fu v0 v2 h) 4 [(0, va_rf v0), (2, .int v2)] [] h := by
  intro fu
  induction fu with
  | zero => intros; exact gk_none
  | succ fu q4 =>
    intro v0 v2 h
    rw [f_Li_stepOverMany_b4]
    refine gk_iload_n (pc := 4) 1 d_Li_stepOverMany_4 rfl ?_
    refine gk_if_lt (pc := 5) 45 d_Li_stepOverMany_5 rfl (fun _ => ?_) (fun _ => ?_)
    · exact gk_vret (pc := 45) rfl d_Li_stepOverMany_45 rfl
    · refine gk_aload_n (pc := 8) 0 d_Li_stepOverMany_8 rfl ?_
      refine gk_getR (pc := 9) 3 3 d_Li_stepOverMany_9 rfl (Nat.le_of_ble_eq_true rfl) tw_247 fun x1 => ?_
      refine gk_iload_n (pc := 12) 1 d_Li_stepOverMany_12 rfl ?_
      refine gk_aload_n (pc := 13) 0 d_Li_stepOverMany_13 rfl ?_
      refine gk_getR (pc := 14) 3 3 d_Li_stepOverMany_14 rfl (Nat.le_of_ble_eq_true rfl) tw_247 fun x2 => ?_
      refine gk_iload_n (pc := 17) 1 d_Li_stepOverMany_17 rfl ?_
      refine gk_zald (pc := 18) d_Li_stepOverMany_18 fun x3 => ?_
      refine gk_if_ne (pc := 19) 33 d_Li_stepOverMany_19 rfl (fun _ => ?_) (fun _ => ?_)
      · refine gk_aload_n (pc := 22) 0 d_Li_stepOverMany_22 rfl ?_
        refine gk_getR (pc := 23) 3 3 d_Li_stepOverMany_23 rfl (Nat.le_of_ble_eq_true rfl) tw_247 fun x4 => ?_
        refine gk_iload_n (pc := 26) 1 d_Li_stepOverMany_26 rfl ?_
        refine gk_iconst (pc := 27) (1 : Int32) d_Li_stepOverMany_27 rfl ?_
        refine gk_iadd (pc := 28) d_Li_stepOverMany_28 ?_
        refine gk_zald (pc := 29) d_Li_stepOverMany_29 fun x5 => ?_
        refine gk_if_eq (pc := 30) 37 d_Li_stepOverMany_30 rfl (fun _ => ?_) (fun _ => ?_)
        · refine gk_iconst (pc := 37) (0 : Int32) d_Li_stepOverMany_37 rfl ?_
          exact p_Li_stepOverMany_b38 d (f_Li_stepOverMany_b4 fu) q4 v0 v2 x1 v2 (0 : Int32) h
        · exact p_Li_stepOverMany_b33 d (f_Li_stepOverMany_b4 fu) q4 v0 v2 x1 v2 h
      · exact p_Li_stepOverMany_b33 d (f_Li_stepOverMany_b4 fu) q4 v0 v2 x1 v2 h
theorem w_Li_stepOverMany (d : Nat) (a0 : Option Nat) (a1 : Int32) (h : gk_H) : gk_P gw_V d y_Li_stepOverMany b_Li_stepOverMany 3 none [] (f_Li_stepOverMany a0 a1 h) 0 [(0, va_rf a0), (1, .int a1)] [] h := by
  unfold f_Li_stepOverMany
  refine gk_iload_n (pc := 0) 1 d_Li_stepOverMany_0 rfl ?_
  refine gk_iconst (pc := 1) (1 : Int32) d_Li_stepOverMany_1 rfl ?_
  refine gk_isub (pc := 2) d_Li_stepOverMany_2 ?_
  refine gk_topI (pc := 3) fun x1 => ?_
  refine gk_istore_n (pc := 3) (L' := [(2, .int x1), (0, va_rf a0), (1, .int a1)]) d_Li_stepOverMany_3 (Nat.le_of_ble_eq_true rfl) rfl ?_
  refine gk_weak [1, 0] (L' := [(0, va_rf a0), (2, .int x1)]) rfl ?_
  exact p_Li_stepOverMany_b4 d gk_F a0 x1 h
theorem p_Li_stepOverMany (d : Nat) (a0 : Option Nat) (a1 : Int32) (h : gk_H) : ∀ r h1, f_Li_stepOverMany a0 a1 h = some (r, h1) → gk_M d y_Li_stepOverMany b_Li_stepOverMany 3 none [va_rf a0, .int a1] h (.inl (gv_V r)) h1 :=
  fun r h1 e => gk_M_of2 (by decide +kernel) (by simp [lv_args, gk_cat_rf, gk_catI, gk_catJ, gk_catD, gv_V, gv_I, gv_J, gv_D, gv_R]) (by simp [lg_sl, gk_cat_rf, gk_catI, gk_catJ, gk_catD, gv_V, gv_I, gv_J, gv_D, gv_R]) (w_Li_stepOverMany d a0 a1 h r h1 e)
theorem d_Li_stepOverOne_0 : decode b_Li_stepOverOne 0 = .ok (.iconst 0, 1) := by decide +kernel
theorem d_Li_stepOverOne_1 : decode b_Li_stepOverOne 1 = .ok (.istore_n 3, 1) := by decide +kernel
theorem d_Li_stepOverOne_2 : decode b_Li_stepOverOne 2 = .ok (.iload_n 3, 1) := by decide +kernel
theorem d_Li_stepOverOne_3 : decode b_Li_stepOverOne 3 = .ok (.iload_n 1, 1) := by decide +kernel
theorem d_Li_stepOverOne_4 : decode b_Li_stepOverOne 4 = .ok (.if_icmp .ge 58, 3) := by decide +kernel
theorem d_Li_stepOverOne_7 : decode b_Li_stepOverOne 7 = .ok (.iload_n 2, 1) := by decide +kernel
theorem d_Li_stepOverOne_8 : decode b_Li_stepOverOne 8 = .ok (.iconst (-1), 1) := by decide +kernel
theorem d_Li_stepOverOne_9 : decode b_Li_stepOverOne 9 = .ok (.if_icmp .eq 13, 3) := by decide +kernel
theorem d_Li_stepOverOne_12 : decode b_Li_stepOverOne 12 = .ok (.iload_n 2, 1) := by decide +kernel
theorem d_Li_stepOverOne_13 : decode b_Li_stepOverOne 13 = .ok (.aload_n 0, 1) := by decide +kernel
theorem d_Li_stepOverOne_14 : decode b_Li_stepOverOne 14 = .ok (.getfield 15, 3) := by decide +kernel
theorem d_Li_stepOverOne_17 : decode b_Li_stepOverOne 17 = .ok (.iload_n 3, 1) := by decide +kernel
theorem d_Li_stepOverOne_18 : decode b_Li_stepOverOne 18 = .ok (.caload, 1) := by decide +kernel
theorem d_Li_stepOverOne_19 : decode b_Li_stepOverOne 19 = .ok (.if_icmp .ne 7, 3) := by decide +kernel
theorem d_Li_stepOverOne_22 : decode b_Li_stepOverOne 22 = .ok (.iconst 1, 1) := by decide +kernel
theorem d_Li_stepOverOne_23 : decode b_Li_stepOverOne 23 = .ok (.goto 4, 3) := by decide +kernel
theorem d_Li_stepOverOne_26 : decode b_Li_stepOverOne 26 = .ok (.iconst 0, 1) := by decide +kernel
theorem d_Li_stepOverOne_27 : decode b_Li_stepOverOne 27 = .ok (.istore 4, 2) := by decide +kernel
theorem d_Li_stepOverOne_29 : decode b_Li_stepOverOne 29 = .ok (.aload_n 0, 1) := by decide +kernel
theorem d_Li_stepOverOne_30 : decode b_Li_stepOverOne 30 = .ok (.getfield 19, 3) := by decide +kernel
theorem d_Li_stepOverOne_33 : decode b_Li_stepOverOne 33 = .ok (.iload_n 3, 1) := by decide +kernel
theorem d_Li_stepOverOne_34 : decode b_Li_stepOverOne 34 = .ok (.iload 4, 2) := by decide +kernel
theorem d_Li_stepOverOne_36 : decode b_Li_stepOverOne 36 = .ok (.ifCond .eq 18, 3) := by decide +kernel
theorem d_Li_stepOverOne_39 : decode b_Li_stepOverOne 39 = .ok (.aload_n 0, 1) := by decide +kernel
theorem d_Li_stepOverOne_40 : decode b_Li_stepOverOne 40 = .ok (.getfield 19, 3) := by decide +kernel
theorem d_Li_stepOverOne_43 : decode b_Li_stepOverOne 43 = .ok (.iload_n 3, 1) := by decide +kernel
theorem d_Li_stepOverOne_44 : decode b_Li_stepOverOne 44 = .ok (.iconst 1, 1) := by decide +kernel
theorem d_Li_stepOverOne_45 : decode b_Li_stepOverOne 45 = .ok (.iadd, 1) := by decide +kernel
theorem d_Li_stepOverOne_46 : decode b_Li_stepOverOne 46 = .ok (.baload, 1) := by decide +kernel
theorem d_Li_stepOverOne_47 : decode b_Li_stepOverOne 47 = .ok (.ifCond .eq 7, 3) := by decide +kernel
theorem d_Li_stepOverOne_50 : decode b_Li_stepOverOne 50 = .ok (.iconst 1, 1) := by decide +kernel
theorem d_Li_stepOverOne_51 : decode b_Li_stepOverOne 51 = .ok (.goto 4, 3) := by decide +kernel
theorem d_Li_stepOverOne_54 : decode b_Li_stepOverOne 54 = .ok (.iconst 0, 1) := by decide +kernel
theorem d_Li_stepOverOne_55 : decode b_Li_stepOverOne 55 = .ok (.bastore, 1) := by decide +kernel
theorem d_Li_stepOverOne_56 : decode b_Li_stepOverOne 56 = .ok (.iinc 3 1, 3) := by decide +kernel
theorem d_Li_stepOverOne_59 : decode b_Li_stepOverOne 59 = .ok (.goto (-57), 3) := by decide +kernel
theorem d_Li_stepOverOne_62 : decode b_Li_stepOverOne 62 = .ok (.aload_n 0, 1) := by decide +kernel
theorem d_Li_stepOverOne_63 : decode b_Li_stepOverOne 63 = .ok (.getfield 19, 3) := by decide +kernel
theorem d_Li_stepOverOne_66 : decode b_Li_stepOverOne 66 = .ok (.iload_n 1, 1) := by decide +kernel
theorem d_Li_stepOverOne_67 : decode b_Li_stepOverOne 67 = .ok (.iconst 0, 1) := by decide +kernel
theorem d_Li_stepOverOne_68 : decode b_Li_stepOverOne 68 = .ok (.bastore, 1) := by decide +kernel
theorem d_Li_stepOverOne_69 : decode b_Li_stepOverOne 69 = .ok (.return_, 1) := by decide +kernel
theorem p_Li_stepOverOne_b55 (d : Nat) (b2 : Option Nat → Int32 → Int32 → Int32 → gk_H → Option (Unit × gk_H)) (q2 : ∀ (v0 : Option Nat) (v1 : Int32) (v2 : Int32) (v3 : Int32) (h : gk_H), gk_P gw_V d y_Li_stepOverOne b_Li_stepOverOne 5 none [] (b2 v0 v1 v2 v3 h) 2 [(0, va_rf v0), (1, .int v1), (2, .int v2), (3, .int v3)] [] h) (v0 : Option Nat) (v1 : Int32) (v2 : Int32) (v3 : Int32) (s0 : Option Nat) (s1 : Int32) (s2 : Int32) (h : gk_H) : gk_P gw_V d y_Li_stepOverOne b_Li_stepOverOne 5 none [] (f_Li_stepOverOne_b55 b2 v0 v1 v2 v3 s0 s1 s2 h) 55 [(0, va_rf v0), (1, .int v1), (2, .int v2), (3, .int v3)] [.int s2, .int s1, va_rf s0] h := by
  unfold f_Li_stepOverOne_b55
  refine gk_zast (pc := 55) d_Li_stepOverOne_55 fun h1 => ?_
  refine gk_iincN (pc := 56) 3 (1 : Int32) (L' := fun x1 => [(3, .int x1), (0, va_rf v0), (1, .int v1), (2, .int v2)]) d_Li_stepOverOne_56 rfl rfl (Nat.le_of_ble_eq_true rfl) (fun _ => rfl) fun x1 => ?_
  refine gk_goto (pc := 59) 2 d_Li_stepOverOne_59 rfl ?_
  refine gk_weak [1, 2, 3, 0] (L' := [(0, va_rf v0), (1, .int v1), (2, .int v2), (3, .int x1)]) rfl ?_
  exact q2 v0 v1 v2 x1 h1
theorem p_Li_stepOverOne_b54 (d : Nat) (b2 : Option Nat → Int32 → Int32 → Int32 → gk_H → Option (Unit × gk_H)) (q2 : ∀ (v0 : Option Nat) (v1 : Int32) (v2 : Int32) (v3 : Int32) (h : gk_H), gk_P gw_V d y_Li_stepOverOne b_Li_stepOverOne 5 none [] (b2 v0 v1 v2 v3 h) 2 [(0, va_rf v0), (1, .int v1), (2, .int v2), (3, .int v3)] [] h) (v0 : Option Nat) (v1 : Int32) (v2 : Int32) (v3 : Int32) (s0 : Option Nat) (s1 : Int32) (h : gk_H) : gk_P gw_V d y_Li_stepOverOne b_Li_stepOverOne 5 none [] (f_Li_stepOverOne_b54 b2 v0 v1 v2 v3 s0 s1 h) 54 [(0, va_rf v0), (1, .int v1), (2, .int v2), (3, .int v3)] [.int s1, va_rf s0] h := by
  unfold f_Li_stepOverOne_b54
  refine gk_iconst (pc := 54) (0 : Int32) d_Li_stepOverOne_54 rfl ?_
  exact p_Li_stepOverOne_b55 d b2 q2 v0 v1 v2 v3 s0 s1 (0 : Int32) h
theorem p_Li_stepOverOne_b27 (d : Nat) (b2 : Option Nat → Int32 → Int32 → Int32 → gk_H → Option (Unit × gk_H)) (q2 : ∀ (v0 : Option Nat) (v1 : Int32) (v2 : Int32) (v3 : Int32) (h : gk_H), gk_P gw_V d y_Li_stepOverOne b_Li_stepOverOne 5 none [] (b2 v0 v1 v2 v3 h) 2 [(0, va_rf v0), (1, .int v1), (2, .int v2), (3, .int v3)] [] h) (v0 : Option Nat) (v1 : Int32) (v2 : Int32) (v3 : Int32) (s0 : Int32) (h : gk_H) : gk_P gw_V d y_Li_stepOverOne b_Li_stepOverOne 5 none [] (f_Li_stepOverOne_b27 b2 v0 v1 v2 v3 s0 h) 27 [(0, va_rf v0), (1, .int v1), (2, .int v2), (3, .int v3)] [.int s0] h := by
  unfold f_Li_stepOverOne_b27
  refine gk_istore (pc := 27) (L' := [(4, .int s0), (0, va_rf v0), (1, .int v1), (2, .int v2), (3, .int v3)]) d_Li_stepOverOne_27 (Nat.le_of_ble_eq_true rfl) rfl ?_
  refine gk_aload_n (pc := 29) 1 d_Li_stepOverOne_29 rfl ?_
  refine gk_getR (pc := 30) 3 3 d_Li_stepOverOne_30 rfl (Nat.le_of_ble_eq_true rfl) tw_247 fun x1 => ?_
  refine gk_iload_n (pc := 33) 4 d_Li_stepOverOne_33 rfl ?_
  refine gk_iload (pc := 34) 0 d_Li_stepOverOne_34 rfl ?_
  refine gk_if_eq (pc := 36) 54 d_Li_stepOverOne_36 rfl (fun _ => ?_) (fun _ => ?_)
  · refine gk_weak [1, 2, 3, 4] (L' := [(0, va_rf v0), (1, .int v1), (2, .int v2), (3, .int v3)]) rfl ?_
    exact p_Li_stepOverOne_b54 d b2 q2 v0 v1 v2 v3 x1 v3 h
  · refine gk_aload_n (pc := 39) 1 d_Li_stepOverOne_39 rfl ?_
    refine gk_getR (pc := 40) 3 3 d_Li_stepOverOne_40 rfl (Nat.le_of_ble_eq_true rfl) tw_247 fun x2 => ?_
    refine gk_iload_n (pc := 43) 4 d_Li_stepOverOne_43 rfl ?_
    refine gk_iconst (pc := 44) (1 : Int32) d_Li_stepOverOne_44 rfl ?_
    refine gk_iadd (pc := 45) d_Li_stepOverOne_45 ?_
    refine gk_zald (pc := 46) d_Li_stepOverOne_46 fun x3 => ?_
    refine gk_if_eq (pc := 47) 54 d_Li_stepOverOne_47 rfl (fun _ => ?_) (fun _ => ?_)
    · refine gk_weak [1, 2, 3, 4] (L' := [(0, va_rf v0), (1, .int v1), (2, .int v2), (3, .int v3)]) rfl ?_
      exact p_Li_stepOverOne_b54 d b2 q2 v0 v1 v2 v3 x1 v3 h
    · refine gk_iconst (pc := 50) (1 : Int32) d_Li_stepOverOne_50 rfl ?_
      refine gk_goto (pc := 51) 55 d_Li_stepOverOne_51 rfl ?_
      refine gk_weak [1, 2, 3, 4] (L' := [(0, va_rf v0), (1, .int v1), (2, .int v2), (3, .int v3)]) rfl ?_
      exact p_Li_stepOverOne_b55 d b2 q2 v0 v1 v2 v3 x1 v3 (1 : Int32) h
theorem p_Li_stepOverOne_b22 (d : Nat) (b2 : Option Nat → Int32 → Int32 → Int32 → gk_H → Option (Unit × gk_H)) (q2 : ∀ (v0 : Option Nat) (v1 : Int32) (v2 : Int32) (v3 : Int32) (h : gk_H), gk_P gw_V d y_Li_stepOverOne b_Li_stepOverOne 5 none [] (b2 v0 v1 v2 v3 h) 2 [(0, va_rf v0), (1, .int v1), (2, .int v2), (3, .int v3)] [] h) (v0 : Option Nat) (v1 : Int32) (v2 : Int32) (v3 : Int32) (h : gk_H) : gk_P gw_V d y_Li_stepOverOne b_Li_stepOverOne 5 none [] (f_Li_stepOverOne_b22 b2 v0 v1 v2 v3 h) 22 [(0, va_rf v0), (1, .int v1), (2, .int v2), (3, .int v3)] [] h := by
  unfold f_Li_stepOverOne_b22
  refine gk_iconst (pc := 22) (1 : Int32) d_Li_stepOverOne_22 rfl ?_
  refine gk_goto (pc := 23) 27 d_Li_stepOverOne_23 rfl ?_
  exact p_Li_stepOverOne_b27 d b2 q2 v0 v1 v2 v3 (1 : Int32) h
theorem p_Li_stepOverOne_b2 (d : Nat)  : ∀ (fu : Nat) (v0 : Option Nat) (v1 : Int32) (v2 : Int32) (v3 : Int32) (h : gk_H), gk_P gw_V d y_Li_stepOverOne b_Li_stepOverOne 5 none [] (f_Li_stepOverOne_b2  fu v0 v1 v2 v3 h) 2 [(0, va_rf v0), (1, .int v1), (2, .int v2), (3, .int v3)] [] h := by
  intro fu
  induction fu with
  | zero => intros; exact gk_none
  | succ fu q2 =>
    intro v0 v1 v2 v3 h
    rw [f_Li_stepOverOne_b2]
    refine gk_iload_n (pc := 2) 3 d_Li_stepOverOne_2 rfl ?_
    refine gk_iload_n (pc := 3) 1 d_Li_stepOverOne_3 rfl ?_
    refine gk_icmp_ge (pc := 4) 62 d_Li_stepOverOne_4 rfl (fun _ => ?_) (fun _ => ?_)
    · refine gk_aload_n (pc := 62) 0 d_Li_stepOverOne_62 rfl ?_
      refine gk_getR (pc := 63) 3 3 d_Li_stepOverOne_63 rfl (Nat.le_of_ble_eq_true rfl) tw_247 fun x1 => ?_
      refine gk_iload_n (pc := 66) 1 d_Li_stepOverOne_66 rfl ?_
      refine gk_iconst (pc := 67) (0 : Int32) d_Li_stepOverOne_67 rfl ?_
      refine gk_zast (pc := 68) d_Li_stepOverOne_68 fun h1 => ?_
      exact gk_vret (pc := 69) rfl d_Li_stepOverOne_69 rfl
    · refine gk_iload_n (pc := 7) 2 d_Li_stepOverOne_7 rfl ?_
      refine gk_iconst (pc := 8) (-1 : Int32) d_Li_stepOverOne_8 rfl ?_
      refine gk_icmp_eq (pc := 9) 22 d_Li_stepOverOne_9 rfl (fun _ => ?_) (fun _ => ?_)
      · exact p_Li_stepOverOne_b22 d (f_Li_stepOverOne_b2 fu) q2 v0 v1 v2 v3 h
      · refine gk_iload_n (pc := 12) 2 d_Li_stepOverOne_12 rfl ?_
        refine gk_aload_n (pc := 13) 0 d_Li_stepOverOne_13 rfl ?_
        refine gk_getR (pc := 14) 3 2 d_Li_stepOverOne_14 rfl (Nat.le_of_ble_eq_true rfl) tw_246 fun x2 => ?_
        refine gk_iload_n (pc := 17) 3 d_Li_stepOverOne_17 rfl ?_
        refine gk_cald (pc := 18) d_Li_stepOverOne_18 fun x3 => ?_
        refine gk_icmp_ne (pc := 19) 26 d_Li_stepOverOne_19 rfl (fun _ => ?_) (fun _ => ?_)
        · exact p_Li_stepOverOne_b22 d (f_Li_stepOverOne_b2 fu) q2 v0 v1 v2 v3 h
        · refine gk_iconst (pc := 26) (0 : Int32) d_Li_stepOverOne_26 rfl ?_
          exact p_Li_stepOverOne_b27 d (f_Li_stepOverOne_b2 fu) q2 v0 v1 v2 v3 (0 : Int32) h
theorem w_Li_stepOverOne (d : Nat) (a0 : Option Nat) (a1 : Int32) (a2 : Int32) (h : gk_H) : gk_P gw_V d y_Li_stepOverOne b_Li_stepOverOne 5 none [] (f_Li_stepOverOne a0 a1 a2 h) 0 [(0, va_rf a0), (1, .int a1), (2, .int a2)] [] h := by
  unfold f_Li_stepOverOne
  refine gk_iconst (pc := 0) (0 : Int32) d_Li_stepOverOne_0 rfl ?_
  refine gk_istore_n (pc := 1) (L' := [(3, .int (0 : Int32)), (0, va_rf a0), (1, .int a1), (2, .int a2)]) d_Li_stepOverOne_1 (Nat.le_of_ble_eq_true rfl) rfl ?_
  refine gk_weak [1, 2, 3, 0] (L' := [(0, va_rf a0), (1, .int a1), (2, .int a2), (3, .int (0 : Int32))]) rfl ?_
  exact p_Li_stepOverOne_b2 d gk_F a0 a1 a2 (0 : Int32) h
theorem p_Li_stepOverOne (d : Nat) (a0 : Option Nat) (a1 : Int32) (a2 : Int32) (h : gk_H) : ∀ r h1, f_Li_stepOverOne a0 a1 a2 h = some (r, h1) → gk_M d y_Li_stepOverOne b_Li_stepOverOne 5 none [va_rf a0, .int a1, .int a2] h (.inl (gv_V r)) h1 :=
  fun r h1 e => gk_M_of2 (by decide +kernel) (by simp [lv_args, gk_cat_rf, gk_catI, gk_catJ, gk_catD, gv_V, gv_I, gv_J, gv_D, gv_R]) (by simp [lg_sl, gk_cat_rf, gk_catI, gk_catJ, gk_catD, gv_V, gv_I, gv_J, gv_D, gv_R]) (w_Li_stepOverOne d a0 a1 a2 h r h1 e)
