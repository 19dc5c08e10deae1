theorem d_M_numberOf_0 : decode b_M_numberOf 0 = .ok (.aload_n 0, 1) := by decide +kernel
theorem d_M_numberOf_1 : decode b_M_numberOf 1 = .ok (.getfield 23, 3) := by decide +kernel
theorem d_M_numberOf_4 : decode b_M_numberOf 4 = .ok (.iload_n 1, 1) := by decide +kernel
theorem d_M_numberOf_5 : decode b_M_numberOf 5 = .ok (.iaload, 1) := by decide +kernel
theorem d_M_numberOf_6 : decode b_M_numberOf 6 = .ok (.iconst 4, 1) := by decide +kernel
theorem d_M_numberOf_7 : decode b_M_numberOf 7 = .ok (.if_icmp .ne 16, 3) := by decide +kernel
theorem d_M_numberOf_10 : decode b_M_numberOf 10 = .ok (.aload_n 0, 1) := by decide +kernel
theorem d_M_numberOf_11 : decode b_M_numberOf 11 = .ok (.aload_n 0, 1) := by decide +kernel
theorem d_M_numberOf_12 : decode b_M_numberOf 12 = .ok (.getfield 26, 3) := by decide +kernel
theorem d_M_numberOf_15 : decode b_M_numberOf 15 = .ok (.iload_n 1, 1) := by decide +kernel
theorem d_M_numberOf_16 : decode b_M_numberOf 16 = .ok (.daload, 1) := by decide +kernel
theorem d_M_numberOf_17 : decode b_M_numberOf 17 = .ok (.d2i, 1) := by decide +kernel
theorem d_M_numberOf_18 : decode b_M_numberOf 18 = .ok (.invokevirtual 58, 3) := by decide +kernel
theorem d_M_numberOf_21 : decode b_M_numberOf 21 = .ok (.dconst 0, 1) := by decide +kernel
theorem d_M_numberOf_22 : decode b_M_numberOf 22 = .ok (.dreturn, 1) := by decide +kernel
theorem d_M_numberOf_23 : decode b_M_numberOf 23 = .ok (.aload_n 0, 1) := by decide +kernel
theorem d_M_numberOf_24 : decode b_M_numberOf 24 = .ok (.getfield 23, 3) := by decide +kernel
theorem d_M_numberOf_27 : decode b_M_numberOf 27 = .ok (.iload_n 1, 1) := by decide +kernel
theorem d_M_numberOf_28 : decode b_M_numberOf 28 = .ok (.iaload, 1) := by decide +kernel
theorem d_M_numberOf_29 : decode b_M_numberOf 29 = .ok (.iconst 2, 1) := by decide +kernel
theorem d_M_numberOf_30 : decode b_M_numberOf 30 = .ok (.if_icmp .eq 23, 3) := by decide +kernel
theorem d_M_numberOf_33 : decode b_M_numberOf 33 = .ok (.aload_n 0, 1) := by decide +kernel
theorem d_M_numberOf_34 : decode b_M_numberOf 34 = .ok (.getfield 23, 3) := by decide +kernel
theorem d_M_numberOf_37 : decode b_M_numberOf 37 = .ok (.iload_n 1, 1) := by decide +kernel
theorem d_M_numberOf_38 : decode b_M_numberOf 38 = .ok (.iaload, 1) := by decide +kernel
theorem d_M_numberOf_39 : decode b_M_numberOf 39 = .ok (.ifCond .ne 7, 3) := by decide +kernel
theorem d_M_numberOf_42 : decode b_M_numberOf 42 = .ok (.dconst 0, 1) := by decide +kernel
theorem d_M_numberOf_43 : decode b_M_numberOf 43 = .ok (.goto 9, 3) := by decide +kernel
theorem d_M_numberOf_46 : decode b_M_numberOf 46 = .ok (.aload_n 0, 1) := by decide +kernel
theorem d_M_numberOf_47 : decode b_M_numberOf 47 = .ok (.getfield 26, 3) := by decide +kernel
theorem d_M_numberOf_50 : decode b_M_numberOf 50 = .ok (.iload_n 1, 1) := by decide +kernel
theorem d_M_numberOf_51 : decode b_M_numberOf 51 = .ok (.daload, 1) := by decide +kernel
theorem d_M_numberOf_52 : decode b_M_numberOf 52 = .ok (.dreturn, 1) := by decide +kernel
theorem d_M_numberOf_53 : decode b_M_numberOf 53 = .ok (.aload_n 0, 1) := by decide +kernel
theorem d_M_numberOf_54 : decode b_M_numberOf 54 = .ok (.aload_n 0, 1) := by decide +kernel
theorem d_M_numberOf_55 : decode b_M_numberOf 55 = .ok (.getfield 34, 3) := by decide +kernel
theorem d_M_numberOf_58 : decode b_M_numberOf 58 = .ok (.sipush 256, 3) := by decide +kernel
theorem d_M_numberOf_61 : decode b_M_numberOf 61 = .ok (.iload_n 1, 1) := by decide +kernel
theorem d_M_numberOf_62 : decode b_M_numberOf 62 = .ok (.imul, 1) := by decide +kernel
theorem d_M_numberOf_63 : decode b_M_numberOf 63 = .ok (.aload_n 0, 1) := by decide +kernel
theorem d_M_numberOf_64 : decode b_M_numberOf 64 = .ok (.getfield 30, 3) := by decide +kernel
theorem d_M_numberOf_67 : decode b_M_numberOf 67 = .ok (.iload_n 1, 1) := by decide +kernel
theorem d_M_numberOf_68 : decode b_M_numberOf 68 = .ok (.iaload, 1) := by decide +kernel
theorem d_M_numberOf_69 : decode b_M_numberOf 69 = .ok (.invokevirtual 133, 3) := by decide +kernel
theorem d_M_numberOf_72 : decode b_M_numberOf 72 = .ok (.ifCond .ne 10, 3) := by decide +kernel
theorem d_M_numberOf_75 : decode b_M_numberOf 75 = .ok (.aload_n 0, 1) := by decide +kernel
theorem d_M_numberOf_76 : decode b_M_numberOf 76 = .ok (.iconst 3, 1) := by decide +kernel
theorem d_M_numberOf_77 : decode b_M_numberOf 77 = .ok (.invokevirtual 58, 3) := by decide +kernel
theorem d_M_numberOf_80 : decode b_M_numberOf 80 = .ok (.dconst 0, 1) := by decide +kernel
theorem d_M_numberOf_81 : decode b_M_numberOf 81 = .ok (.dreturn, 1) := by decide +kernel
theorem d_M_numberOf_82 : decode b_M_numberOf 82 = .ok (.aload_n 0, 1) := by decide +kernel
theorem d_M_numberOf_83 : decode b_M_numberOf 83 = .ok (.getfield 103, 3) := by decide +kernel
theorem d_M_numberOf_86 : decode b_M_numberOf 86 = .ok (.dconst 0, 1) := by decide +kernel
theorem d_M_numberOf_87 : decode b_M_numberOf 87 = .ok (.dcmp .l, 1) := by decide +kernel
theorem d_M_numberOf_88 : decode b_M_numberOf 88 = .ok (.ifCond .ne 7, 3) := by decide +kernel
theorem d_M_numberOf_91 : decode b_M_numberOf 91 = .ok (.dconst 0, 1) := by decide +kernel
theorem d_M_numberOf_92 : decode b_M_numberOf 92 = .ok (.goto 7, 3) := by decide +kernel
theorem d_M_numberOf_95 : decode b_M_numberOf 95 = .ok (.aload_n 0, 1) := by decide +kernel
theorem d_M_numberOf_96 : decode b_M_numberOf 96 = .ok (.getfield 103, 3) := by decide +kernel
theorem d_M_numberOf_99 : decode b_M_numberOf 99 = .ok (.dreturn, 1) := by decide +kernel
theorem p_M_numberOf_b99 (d : Nat)  (s0 : UInt64) (h : gk_H) : gk_P gw_D (d + 2) y_M_numberOf b_M_numberOf 2 (some .double) [] (f_M_numberOf_b99  s0 h) 99 [] [.double s0] h := by
  unfold f_M_numberOf_b99
  exact gk_dret (pc := 99) rfl d_M_numberOf_99 rfl
theorem p_M_numberOf_b52 (d : Nat)  (s0 : UInt64) (h : gk_H) : gk_P gw_D (d + 2) y_M_numberOf b_M_numberOf 2 (some .double) [] (f_M_numberOf_b52  s0 h) 52 [] [.double s0] h := by
  unfold f_M_numberOf_b52
  exact gk_dret (pc := 52) rfl d_M_numberOf_52 rfl
theorem w_M_numberOf (d : Nat) (a0 : Option Nat) (a1 : Int32) (h : gk_H) : gk_P gw_D (d + 2) y_M_numberOf b_M_numberOf 2 (some .double) [] (f_M_numberOf a0 a1 h) 0 [(0, va_rf a0), (1, .int a1)] [] h := by
  unfold f_M_numberOf
  refine gk_aload_n (pc := 0) 0 d_M_numberOf_0 rfl ?_
  refine gk_getR (pc := 1) 7 7 d_M_numberOf_1 rfl (Nat.le_of_ble_eq_true rfl) tw_1652 fun x1 => ?_
  refine gk_iload_n (pc := 4) 1 d_M_numberOf_4 rfl ?_
  refine gk_iald (pc := 5) d_M_numberOf_5 fun x2 => ?_
  refine gk_iconst (pc := 6) (4 : Int32) d_M_numberOf_6 rfl ?_
  refine gk_icmp_ne (pc := 7) 23 d_M_numberOf_7 rfl (fun _ => ?_) (fun _ => ?_)
  · refine gk_aload_n (pc := 10) 0 d_M_numberOf_10 rfl ?_
    refine gk_aload_n (pc := 11) 0 d_M_numberOf_11 rfl ?_
    refine gk_getR (pc := 12) 7 8 d_M_numberOf_12 rfl (Nat.le_of_ble_eq_true rfl) tw_1653 fun x3 => ?_
    refine gk_iload_n (pc := 15) 1 d_M_numberOf_15 rfl ?_
    refine gk_dald (pc := 16) d_M_numberOf_16 fun x4 => ?_
    refine gk_d2i (pc := 17) d_M_numberOf_17 ?_
    refine gk_callV (pc := 18) (d := (d + 1)) (w' := gv_V) (as := [.int (FP.d2i x4)]) (n := 1) 7 d_M_numberOf_18 rfl rfl rfl rfl (Nat.le_of_ble_eq_true rfl) tw_1805 tw_1807 tw_21 tw_99 cw_M_fail hy_M_fail (Nat.le_of_ble_eq_true rfl) (p_M_fail (d + 1) a0 (FP.d2i x4) h) fun _ h1 => ?_
    refine gk_dconst0 (pc := 21) d_M_numberOf_21 ?_
    exact gk_dret (pc := 22) rfl d_M_numberOf_22 rfl
  · refine gk_aload_n (pc := 23) 0 d_M_numberOf_23 rfl ?_
    refine gk_getR (pc := 24) 7 7 d_M_numberOf_24 rfl (Nat.le_of_ble_eq_true rfl) tw_1652 fun x5 => ?_
    refine gk_iload_n (pc := 27) 1 d_M_numberOf_27 rfl ?_
    refine gk_iald (pc := 28) d_M_numberOf_28 fun x6 => ?_
    refine gk_iconst (pc := 29) (2 : Int32) d_M_numberOf_29 rfl ?_
    refine gk_icmp_eq (pc := 30) 53 d_M_numberOf_30 rfl (fun _ => ?_) (fun _ => ?_)
    · refine gk_aload_n (pc := 53) 0 d_M_numberOf_53 rfl ?_
      refine gk_aload_n (pc := 54) 0 d_M_numberOf_54 rfl ?_
      refine gk_getR (pc := 55) 7 10 d_M_numberOf_55 rfl (Nat.le_of_ble_eq_true rfl) tw_1655 fun x7 => ?_
      refine gk_sipush (pc := 58) (256 : Int32) d_M_numberOf_58 rfl ?_
      refine gk_iload_n (pc := 61) 1 d_M_numberOf_61 rfl ?_
      refine gk_imul (pc := 62) d_M_numberOf_62 ?_
      refine gk_aload_n (pc := 63) 0 d_M_numberOf_63 rfl ?_
      refine gk_getR (pc := 64) 7 9 d_M_numberOf_64 rfl (Nat.le_of_ble_eq_true rfl) tw_1654 fun x8 => ?_
      refine gk_iload_n (pc := 67) 1 d_M_numberOf_67 rfl ?_
      refine gk_iald (pc := 68) d_M_numberOf_68 fun x9 => ?_
      refine gk_callV (pc := 69) (d := (d + 1)) (w' := gv_I) (as := [va_rf x7, .int ((256 : Int32) * a1), .int x9]) (n := 3) 7 d_M_numberOf_69 rfl rfl rfl rfl (Nat.le_of_ble_eq_true rfl) tw_1876 tw_1878 tw_33 tw_99 cw_M_isNumeral hy_M_isNumeral (Nat.le_of_ble_eq_true rfl) (p_M_isNumeral d a0 x7 ((256 : Int32) * a1) x9 h) fun x10 h2 => ?_
      refine gk_if_ne (pc := 72) 82 d_M_numberOf_72 rfl (fun _ => ?_) (fun _ => ?_)
      · refine gk_aload_n (pc := 75) 0 d_M_numberOf_75 rfl ?_
        refine gk_iconst (pc := 76) (3 : Int32) d_M_numberOf_76 rfl ?_
        refine gk_callV (pc := 77) (d := (d + 1)) (w' := gv_V) (as := [.int (3 : Int32)]) (n := 1) 7 d_M_numberOf_77 rfl rfl rfl rfl (Nat.le_of_ble_eq_true rfl) tw_1805 tw_1807 tw_21 tw_99 cw_M_fail hy_M_fail (Nat.le_of_ble_eq_true rfl) (p_M_fail (d + 1) a0 (3 : Int32) h2) fun _ h3 => ?_
        refine gk_dconst0 (pc := 80) d_M_numberOf_80 ?_
        exact gk_dret (pc := 81) rfl d_M_numberOf_81 rfl
      · refine gk_aload_n (pc := 82) 0 d_M_numberOf_82 rfl ?_
        refine gk_getD (pc := 83) 7 16 d_M_numberOf_83 rfl (Nat.le_of_ble_eq_true rfl) tw_1661 fun x11 => ?_
        refine gk_dconst0 (pc := 86) d_M_numberOf_86 ?_
        refine gk_dcmp (pc := 87) d_M_numberOf_87 ?_
        refine gk_if_ne (pc := 88) 95 d_M_numberOf_88 rfl (fun _ => ?_) (fun _ => ?_)
        · refine gk_dconst0 (pc := 91) d_M_numberOf_91 ?_
          refine gk_goto (pc := 92) 99 d_M_numberOf_92 rfl ?_
          refine gk_weak [] (L' := []) rfl ?_
          exact p_M_numberOf_b99 d (0x0000000000000000) h2
        · refine gk_aload_n (pc := 95) 0 d_M_numberOf_95 rfl ?_
          refine gk_getD (pc := 96) 7 16 d_M_numberOf_96 rfl (Nat.le_of_ble_eq_true rfl) tw_1661 fun x12 => ?_
          refine gk_weak [] (L' := []) rfl ?_
          exact p_M_numberOf_b99 d x12 h2
    · refine gk_aload_n (pc := 33) 0 d_M_numberOf_33 rfl ?_
      refine gk_getR (pc := 34) 7 7 d_M_numberOf_34 rfl (Nat.le_of_ble_eq_true rfl) tw_1652 fun x13 => ?_
      refine gk_iload_n (pc := 37) 1 d_M_numberOf_37 rfl ?_
      refine gk_iald (pc := 38) d_M_numberOf_38 fun x14 => ?_
      refine gk_if_ne (pc := 39) 46 d_M_numberOf_39 rfl (fun _ => ?_) (fun _ => ?_)
      · refine gk_dconst0 (pc := 42) d_M_numberOf_42 ?_
        refine gk_goto (pc := 43) 52 d_M_numberOf_43 rfl ?_
        refine gk_weak [] (L' := []) rfl ?_
        exact p_M_numberOf_b52 d (0x0000000000000000) h
      · refine gk_aload_n (pc := 46) 0 d_M_numberOf_46 rfl ?_
        refine gk_getR (pc := 47) 7 8 d_M_numberOf_47 rfl (Nat.le_of_ble_eq_true rfl) tw_1653 fun x15 => ?_
        refine gk_iload_n (pc := 50) 1 d_M_numberOf_50 rfl ?_
        refine gk_dald (pc := 51) d_M_numberOf_51 fun x16 => ?_
        refine gk_weak [] (L' := []) rfl ?_
        exact p_M_numberOf_b52 d x16 h
theorem p_M_numberOf (d : Nat) (a0 : Option Nat) (a1 : Int32) (h : gk_H) : ∀ r h1, f_M_numberOf a0 a1 h = some (r, h1) → gk_M (d + 2) y_M_numberOf b_M_numberOf 2 (some .double) [va_rf a0, .int a1] h (.inl (gv_D r)) h1 :=
  fun r h1 e => gk_M_of2 (by decide +kernel) (by simp [lv_args, gk_cat_rf, gk_catI, gk_catJ, gk_catD, gv_V, gv_I, gv_J, gv_D, gv_R]) (by simp [lg_sl, gk_cat_rf, gk_catI, gk_catJ, gk_catD, gv_V, gv_I, gv_J, gv_D, gv_R]) (w_M_numberOf d a0 a1 h r h1 e)
theorem d_M_wantNumber_0 : decode b_M_wantNumber 0 = .ok (.aload_n 0, 1) := by decide +kernel
theorem d_M_wantNumber_1 : decode b_M_wantNumber 1 = .ok (.getfield 62, 3) := by decide +kernel
theorem d_M_wantNumber_4 : decode b_M_wantNumber 4 = .ok (.ifCond .le 5, 3) := by decide +kernel
theorem d_M_wantNumber_7 : decode b_M_wantNumber 7 = .ok (.dconst 0, 1) := by decide +kernel
theorem d_M_wantNumber_8 : decode b_M_wantNumber 8 = .ok (.dreturn, 1) := by decide +kernel
theorem d_M_wantNumber_9 : decode b_M_wantNumber 9 = .ok (.aload_n 0, 1) := by decide +kernel
theorem d_M_wantNumber_10 : decode b_M_wantNumber 10 = .ok (.iload_n 1, 1) := by decide +kernel
theorem d_M_wantNumber_11 : decode b_M_wantNumber 11 = .ok (.invokevirtual 126, 3) := by decide +kernel
theorem d_M_wantNumber_14 : decode b_M_wantNumber 14 = .ok (.istore_n 2, 1) := by decide +kernel
theorem d_M_wantNumber_15 : decode b_M_wantNumber 15 = .ok (.aload_n 0, 1) := by decide +kernel
theorem d_M_wantNumber_16 : decode b_M_wantNumber 16 = .ok (.getfield 62, 3) := by decide +kernel
theorem d_M_wantNumber_19 : decode b_M_wantNumber 19 = .ok (.ifCond .le 7, 3) := by decide +kernel
theorem d_M_wantNumber_22 : decode b_M_wantNumber 22 = .ok (.dconst 0, 1) := by decide +kernel
theorem d_M_wantNumber_23 : decode b_M_wantNumber 23 = .ok (.goto 8, 3) := by decide +kernel
theorem d_M_wantNumber_26 : decode b_M_wantNumber 26 = .ok (.aload_n 0, 1) := by decide +kernel
theorem d_M_wantNumber_27 : decode b_M_wantNumber 27 = .ok (.iload_n 2, 1) := by decide +kernel
theorem d_M_wantNumber_28 : decode b_M_wantNumber 28 = .ok (.invokevirtual 130, 3) := by decide +kernel
theorem d_M_wantNumber_31 : decode b_M_wantNumber 31 = .ok (.dreturn, 1) := by decide +kernel
theorem p_M_wantNumber_b31 (d : Nat)  (s0 : UInt64) (h : gk_H) : gk_P gw_D (d + 3) y_M_wantNumber b_M_wantNumber 3 (some .double) [] (f_M_wantNumber_b31  s0 h) 31 [] [.double s0] h := by
  unfold f_M_wantNumber_b31
  exact gk_dret (pc := 31) rfl d_M_wantNumber_31 rfl
theorem w_M_wantNumber (d : Nat) (a0 : Option Nat) (a1 : Int32) (h : gk_H) : gk_P gw_D (d + 3) y_M_wantNumber b_M_wantNumber 3 (some .double) [] (f_M_wantNumber a0 a1 h) 0 [(0, va_rf a0), (1, .int a1)] [] h := by
  unfold f_M_wantNumber
  refine gk_aload_n (pc := 0) 0 d_M_wantNumber_0 rfl ?_
  refine gk_getI (pc := 1) 7 11 d_M_wantNumber_1 rfl (Nat.le_of_ble_eq_true rfl) tw_1656 fun x1 => ?_
  refine gk_if_le (pc := 4) 9 d_M_wantNumber_4 rfl (fun _ => ?_) (fun _ => ?_)
  · refine gk_aload_n (pc := 9) 0 d_M_wantNumber_9 rfl ?_
    refine gk_iload_n (pc := 10) 1 d_M_wantNumber_10 rfl ?_
    refine gk_callV (pc := 11) (d := (d + 2)) (w' := gv_I) (as := [.int a1]) (n := 1) 7 d_M_wantNumber_11 rfl rfl rfl rfl (Nat.le_of_ble_eq_true rfl) tw_1801 tw_1803 tw_20 tw_99 cw_M_single hy_M_single (Nat.le_of_ble_eq_true rfl) (p_M_single (d + 1) a0 a1 h) fun x2 h1 => ?_
    refine gk_istore_n (pc := 14) (L' := [(2, .int x2), (0, va_rf a0), (1, .int a1)]) d_M_wantNumber_14 (Nat.le_of_ble_eq_true rfl) rfl ?_
    refine gk_aload_n (pc := 15) 1 d_M_wantNumber_15 rfl ?_
    refine gk_getI (pc := 16) 7 11 d_M_wantNumber_16 rfl (Nat.le_of_ble_eq_true rfl) tw_1656 fun x3 => ?_
    refine gk_if_le (pc := 19) 26 d_M_wantNumber_19 rfl (fun _ => ?_) (fun _ => ?_)
    · refine gk_aload_n (pc := 26) 1 d_M_wantNumber_26 rfl ?_
      refine gk_iload_n (pc := 27) 0 d_M_wantNumber_27 rfl ?_
      refine gk_callV (pc := 28) (d := (d + 2)) (w' := gv_D) (as := [.int x2]) (n := 1) 7 d_M_wantNumber_28 rfl rfl rfl rfl (Nat.le_of_ble_eq_true rfl) tw_1872 tw_1874 tw_32 tw_99 cw_M_numberOf hy_M_numberOf (Nat.le_of_ble_eq_true rfl) (p_M_numberOf d a0 x2 h1) fun x4 h2 => ?_
      refine gk_weak [] (L' := []) rfl ?_
      exact p_M_wantNumber_b31 d x4 h2
    · refine gk_dconst0 (pc := 22) d_M_wantNumber_22 ?_
      refine gk_goto (pc := 23) 31 d_M_wantNumber_23 rfl ?_
      refine gk_weak [] (L' := []) rfl ?_
      exact p_M_wantNumber_b31 d (0x0000000000000000) h1
  · refine gk_dconst0 (pc := 7) d_M_wantNumber_7 ?_
    exact gk_dret (pc := 8) rfl d_M_wantNumber_8 rfl
theorem p_M_wantNumber (d : Nat) (a0 : Option Nat) (a1 : Int32) (h : gk_H) : ∀ r h1, f_M_wantNumber a0 a1 h = some (r, h1) → gk_M (d + 3) y_M_wantNumber b_M_wantNumber 3 (some .double) [va_rf a0, .int a1] h (.inl (gv_D r)) h1 :=
  fun r h1 e => gk_M_of2 (by decide +kernel) (by simp [lv_args, gk_cat_rf, gk_catI, gk_catJ, gk_catD, gv_V, gv_I, gv_J, gv_D, gv_R]) (by simp [lg_sl, gk_cat_rf, gk_catI, gk_catJ, gk_catD, gv_V, gv_I, gv_J, gv_D, gv_R]) (w_M_wantNumber d a0 a1 h r h1 e)
theorem d_M_isEndless_0 : decode b_M_isEndless 0 = .ok (.dload_n 0, 1) := by decide +kernel
theorem d_M_isEndless_1 : decode b_M_isEndless 1 = .ok (.ldc2_w 50, 3) := by decide +kernel
theorem d_M_isEndless_4 : decode b_M_isEndless 4 = .ok (.dcmp .l, 1) := by decide +kernel
theorem d_M_isEndless_5 : decode b_M_isEndless 5 = .ok (.ifCond .gt 11, 3) := by decide +kernel
theorem d_M_isEndless_8 : decode b_M_isEndless 8 = .ok (.dload_n 0, 1) := by decide +kernel
theorem d_M_isEndless_9 : decode b_M_isEndless 9 = .ok (.ldc2_w 52, 3) := by decide +kernel
theorem d_M_isEndless_12 : decode b_M_isEndless 12 = .ok (.dcmp .g, 1) := by decide +kernel
theorem d_M_isEndless_13 : decode b_M_isEndless 13 = .ok (.ifCond .ge 7, 3) := by decide +kernel
theorem d_M_isEndless_16 : decode b_M_isEndless 16 = .ok (.iconst 1, 1) := by decide +kernel
theorem d_M_isEndless_17 : decode b_M_isEndless 17 = .ok (.goto 4, 3) := by decide +kernel
theorem d_M_isEndless_20 : decode b_M_isEndless 20 = .ok (.iconst 0, 1) := by decide +kernel
theorem d_M_isEndless_21 : decode b_M_isEndless 21 = .ok (.ireturn, 1) := by decide +kernel
theorem p_M_isEndless_b21 (d : Nat)  (s0 : Int32) (h : gk_H) : gk_P gw_I d y_M_isEndless b_M_isEndless 2 (some .boolean) [] (f_M_isEndless_b21  s0 h) 21 [] [.int s0] h := by
  unfold f_M_isEndless_b21
  exact gk_zret (pc := 21) rfl d_M_isEndless_21 rfl
theorem p_M_isEndless_b16 (d : Nat)   (h : gk_H) : gk_P gw_I d y_M_isEndless b_M_isEndless 2 (some .boolean) [] (f_M_isEndless_b16   h) 16 [] [] h := by
  unfold f_M_isEndless_b16
  refine gk_iconst (pc := 16) (1 : Int32) d_M_isEndless_16 rfl ?_
  refine gk_goto (pc := 17) 21 d_M_isEndless_17 rfl ?_
  exact p_M_isEndless_b21 d (1 : Int32) h
theorem w_M_isEndless (d : Nat) (a0 : UInt64) (h : gk_H) : gk_P gw_I d y_M_isEndless b_M_isEndless 2 (some .boolean) [] (f_M_isEndless a0 h) 0 [(0, .double a0)] [] h := by
  unfold f_M_isEndless
  refine gk_dload_n (pc := 0) 0 d_M_isEndless_0 rfl ?_
  refine gk_ldc2d (pc := 1) tw_1910 d_M_isEndless_1 ?_
  refine gk_dcmp (pc := 4) d_M_isEndless_4 ?_
  refine gk_if_gt (pc := 5) 16 d_M_isEndless_5 rfl (fun _ => ?_) (fun _ => ?_)
  · refine gk_weak [] (L' := []) rfl ?_
    exact p_M_isEndless_b16 d h
  · refine gk_dload_n (pc := 8) 0 d_M_isEndless_8 rfl ?_
    refine gk_ldc2d (pc := 9) tw_1911 d_M_isEndless_9 ?_
    refine gk_dcmp (pc := 12) d_M_isEndless_12 ?_
    refine gk_if_ge (pc := 13) 20 d_M_isEndless_13 rfl (fun _ => ?_) (fun _ => ?_)
    · refine gk_iconst (pc := 20) (0 : Int32) d_M_isEndless_20 rfl ?_
      refine gk_weak [] (L' := []) rfl ?_
      exact p_M_isEndless_b21 d (0 : Int32) h
    · refine gk_weak [] (L' := []) rfl ?_
      exact p_M_isEndless_b16 d h
theorem p_M_isEndless (d : Nat) (a0 : UInt64) (h : gk_H) : ∀ r h1, f_M_isEndless a0 h = some (r, h1) → gk_M d y_M_isEndless b_M_isEndless 2 (some .boolean) [.double a0] h (.inl (gv_I r)) h1 :=
  fun r h1 e => gk_M_of2 (by decide +kernel) (by simp [lv_args, gk_cat_rf, gk_catI, gk_catJ, gk_catD, gv_V, gv_I, gv_J, gv_D, gv_R]) (by simp [lg_sl, gk_cat_rf, gk_catI, gk_catJ, gk_catD, gv_V, gv_I, gv_J, gv_D, gv_R]) (w_M_isEndless d a0 h r h1 e)
theorem d_M_step_0 : decode b_M_step 0 = .ok (.dload_n 1, 1) := by decide +kernel
theorem d_M_step_1 : decode b_M_step 1 = .ok (.invokestatic 54, 3) := by decide +kernel
theorem d_M_step_4 : decode b_M_step 4 = .ok (.ifCond .eq 11, 3) := by decide +kernel
theorem d_M_step_7 : decode b_M_step 7 = .ok (.aload_n 0, 1) := by decide +kernel
theorem d_M_step_8 : decode b_M_step 8 = .ok (.bipush 6, 2) := by decide +kernel
theorem d_M_step_10 : decode b_M_step 10 = .ok (.invokevirtual 58, 3) := by decide +kernel
theorem d_M_step_13 : decode b_M_step 13 = .ok (.dconst 0, 1) := by decide +kernel
theorem d_M_step_14 : decode b_M_step 14 = .ok (.dreturn, 1) := by decide +kernel
theorem d_M_step_15 : decode b_M_step 15 = .ok (.dload_n 1, 1) := by decide +kernel
theorem d_M_step_16 : decode b_M_step 16 = .ok (.dreturn, 1) := by decide +kernel
theorem w_M_step (d : Nat) (a0 : Option Nat) (a1 : UInt64) (h : gk_H) : gk_P gw_D (d + 1) y_M_step b_M_step 3 (some .double) [] (f_M_step a0 a1 h) 0 [(0, va_rf a0), (1, .double a1)] [] h := by
  unfold f_M_step
  refine gk_dload_n (pc := 0) 1 d_M_step_0 rfl ?_
  refine gk_callS (pc := 1) (d := d) (w' := gv_I) (as := [.double a1]) (n := 1) d_M_step_1 rfl rfl (Nat.le_of_ble_eq_true rfl) tw_1907 tw_1908 tw_99 cw_M_isEndless hy_M_isEndless (Nat.le_of_ble_eq_true rfl) (p_M_isEndless d a1 h) fun x1 h1 => ?_
  refine gk_if_eq (pc := 4) 15 d_M_step_4 rfl (fun _ => ?_) (fun _ => ?_)
  · refine gk_dload_n (pc := 15) 1 d_M_step_15 rfl ?_
    exact gk_dret (pc := 16) rfl d_M_step_16 rfl
  · refine gk_aload_n (pc := 7) 0 d_M_step_7 rfl ?_
    refine gk_bipush (pc := 8) (6 : Int32) d_M_step_8 rfl ?_
    refine gk_callV (pc := 10) (d := d) (w' := gv_V) (as := [.int (6 : Int32)]) (n := 1) 7 d_M_step_10 rfl rfl rfl rfl (Nat.le_of_ble_eq_true rfl) tw_1805 tw_1807 tw_21 tw_99 cw_M_fail hy_M_fail (Nat.le_of_ble_eq_true rfl) (p_M_fail d a0 (6 : Int32) h1) fun _ h2 => ?_
    refine gk_dconst0 (pc := 13) d_M_step_13 ?_
    exact gk_dret (pc := 14) rfl d_M_step_14 rfl
theorem p_M_step (d : Nat) (a0 : Option Nat) (a1 : UInt64) (h : gk_H) : ∀ r h1, f_M_step a0 a1 h = some (r, h1) → gk_M (d + 1) y_M_step b_M_step 3 (some .double) [va_rf a0, .double a1] h (.inl (gv_D r)) h1 :=
  fun r h1 e => gk_M_of2 (by decide +kernel) (by simp [lv_args, gk_cat_rf, gk_catI, gk_catJ, gk_catD, gv_V, gv_I, gv_J, gv_D, gv_R]) (by simp [lg_sl, gk_cat_rf, gk_catI, gk_catJ, gk_catD, gv_V, gv_I, gv_J, gv_D, gv_R]) (w_M_step d a0 a1 h r h1 e)
theorem d_M_divide_0 : decode b_M_divide 0 = .ok (.dload_n 3, 1) := by decide +kernel
theorem d_M_divide_1 : decode b_M_divide 1 = .ok (.dconst 0, 1) := by decide +kernel
theorem d_M_divide_2 : decode b_M_divide 2 = .ok (.dcmp .l, 1) := by decide +kernel
theorem d_M_divide_3 : decode b_M_divide 3 = .ok (.ifCond .ne 10, 3) := by decide +kernel
theorem d_M_divide_6 : decode b_M_divide 6 = .ok (.aload_n 0, 1) := by decide +kernel
theorem d_M_divide_7 : decode b_M_divide 7 = .ok (.iconst 2, 1) := by decide +kernel
theorem d_M_divide_8 : decode b_M_divide 8 = .ok (.invokevirtual 58, 3) := by decide +kernel
theorem d_M_divide_11 : decode b_M_divide 11 = .ok (.dconst 0, 1) := by decide +kernel
theorem d_M_divide_12 : decode b_M_divide 12 = .ok (.dreturn, 1) := by decide +kernel
theorem d_M_divide_13 : decode b_M_divide 13 = .ok (.aload_n 0, 1) := by decide +kernel
theorem d_M_divide_14 : decode b_M_divide 14 = .ok (.dload_n 1, 1) := by decide +kernel
theorem d_M_divide_15 : decode b_M_divide 15 = .ok (.dload_n 3, 1) := by decide +kernel
theorem d_M_divide_16 : decode b_M_divide 16 = .ok (.ddiv, 1) := by decide +kernel
theorem d_M_divide_17 : decode b_M_divide 17 = .ok (.invokevirtual 217, 3) := by decide +kernel
theorem d_M_divide_20 : decode b_M_divide 20 = .ok (.dreturn, 1) := by decide +kernel
theorem w_M_divide (d : Nat) (a0 : Option Nat) (a1 : UInt64) (a2 : UInt64) (h : gk_H) : gk_P gw_D (d + 2) y_M_divide b_M_divide 5 (some .double) [] (f_M_divide a0 a1 a2 h) 0 [(0, va_rf a0), (1, .double a1), (3, .double a2)] [] h := by
  unfold f_M_divide
  refine gk_dload_n (pc := 0) 2 d_M_divide_0 rfl ?_
  refine gk_dconst0 (pc := 1) d_M_divide_1 ?_
  refine gk_dcmp (pc := 2) d_M_divide_2 ?_
  refine gk_if_ne (pc := 3) 13 d_M_divide_3 rfl (fun _ => ?_) (fun _ => ?_)
  · refine gk_aload_n (pc := 6) 0 d_M_divide_6 rfl ?_
    refine gk_iconst (pc := 7) (2 : Int32) d_M_divide_7 rfl ?_
    refine gk_callV (pc := 8) (d := (d + 1)) (w' := gv_V) (as := [.int (2 : Int32)]) (n := 1) 7 d_M_divide_8 rfl rfl rfl rfl (Nat.le_of_ble_eq_true rfl) tw_1805 tw_1807 tw_21 tw_99 cw_M_fail hy_M_fail (Nat.le_of_ble_eq_true rfl) (p_M_fail (d + 1) a0 (2 : Int32) h) fun _ h1 => ?_
    refine gk_dconst0 (pc := 11) d_M_divide_11 ?_
    exact gk_dret (pc := 12) rfl d_M_divide_12 rfl
  · refine gk_aload_n (pc := 13) 0 d_M_divide_13 rfl ?_
    refine gk_dload_n (pc := 14) 1 d_M_divide_14 rfl ?_
    refine gk_dload_n (pc := 15) 2 d_M_divide_15 rfl ?_
    refine gk_ddivN (pc := 16) d_M_divide_16 fun x1 => ?_
    refine gk_callV (pc := 17) (d := (d + 1)) (w' := gv_D) (as := [.double x1]) (n := 1) 7 d_M_divide_17 rfl rfl rfl rfl (Nat.le_of_ble_eq_true rfl) tw_1903 tw_1905 tw_36 tw_99 cw_M_step hy_M_step (Nat.le_of_ble_eq_true rfl) (p_M_step d a0 x1 h) fun x2 h2 => ?_
    exact gk_dret (pc := 20) rfl d_M_divide_20 rfl
theorem p_M_divide (d : Nat) (a0 : Option Nat) (a1 : UInt64) (a2 : UInt64) (h : gk_H) : ∀ r h1, f_M_divide a0 a1 a2 h = some (r, h1) → gk_M (d + 2) y_M_divide b_M_divide 5 (some .double) [va_rf a0, .double a1, .double a2] h (.inl (gv_D r)) h1 :=
  fun r h1 e => gk_M_of2 (by decide +kernel) (by simp [lv_args, gk_cat_rf, gk_catI, gk_catJ, gk_catD, gv_V, gv_I, gv_J, gv_D, gv_R]) (by simp [lg_sl, gk_cat_rf, gk_catI, gk_catJ, gk_catD, gv_V, gv_I, gv_J, gv_D, gv_R]) (w_M_divide d a0 a1 a2 h r h1 e)
theorem d_M_isWhole_0 : decode b_M_isWhole 0 = .ok (.dload_n 0, 1) := by decide +kernel
theorem d_M_isWhole_1 : decode b_M_isWhole 1 = .ok (.ldc2_w 140, 3) := by decide +kernel
theorem d_M_isWhole_4 : decode b_M_isWhole 4 = .ok (.dcmp .l, 1) := by decide +kernel
theorem d_M_isWhole_5 : decode b_M_isWhole 5 = .ok (.ifCond .ge 19, 3) := by decide +kernel
theorem d_M_isWhole_8 : decode b_M_isWhole 8 = .ok (.dload_n 0, 1) := by decide +kernel
theorem d_M_isWhole_9 : decode b_M_isWhole 9 = .ok (.ldc2_w 142, 3) := by decide +kernel
theorem d_M_isWhole_12 : decode b_M_isWhole 12 = .ok (.dcmp .g, 1) := by decide +kernel
theorem d_M_isWhole_13 : decode b_M_isWhole 13 = .ok (.ifCond .le 11, 3) := by decide +kernel
theorem d_M_isWhole_16 : decode b_M_isWhole 16 = .ok (.dload_n 0, 1) := by decide +kernel
theorem d_M_isWhole_17 : decode b_M_isWhole 17 = .ok (.d2l, 1) := by decide +kernel
theorem d_M_isWhole_18 : decode b_M_isWhole 18 = .ok (.l2d, 1) := by decide +kernel
theorem d_M_isWhole_19 : decode b_M_isWhole 19 = .ok (.dload_n 0, 1) := by decide +kernel
theorem d_M_isWhole_20 : decode b_M_isWhole 20 = .ok (.dcmp .l, 1) := by decide +kernel
theorem d_M_isWhole_21 : decode b_M_isWhole 21 = .ok (.ifCond .ne 7, 3) := by decide +kernel
theorem d_M_isWhole_24 : decode b_M_isWhole 24 = .ok (.iconst 1, 1) := by decide +kernel
theorem d_M_isWhole_25 : decode b_M_isWhole 25 = .ok (.goto 4, 3) := by decide +kernel
theorem d_M_isWhole_28 : decode b_M_isWhole 28 = .ok (.iconst 0, 1) := by decide +kernel
theorem d_M_isWhole_29 : decode b_M_isWhole 29 = .ok (.ireturn, 1) := by decide +kernel
theorem p_M_isWhole_b29 (d : Nat)  (s0 : Int32) (h : gk_H) : gk_P gw_I d y_M_isWhole b_M_isWhole 2 (some .boolean) [] (f_M_isWhole_b29  s0 h) 29 [] [.int s0] h := by
  unfold f_M_isWhole_b29
  exact gk_zret (pc := 29) rfl d_M_isWhole_29 rfl
theorem p_M_isWhole_b24 (d : Nat)   (h : gk_H) : gk_P gw_I d y_M_isWhole b_M_isWhole 2 (some .boolean) [] (f_M_isWhole_b24   h) 24 [] [] h := by
  unfold f_M_isWhole_b24
  refine gk_iconst (pc := 24) (1 : Int32) d_M_isWhole_24 rfl ?_
  refine gk_goto (pc := 25) 29 d_M_isWhole_25 rfl ?_
  exact p_M_isWhole_b29 d (1 : Int32) h
theorem w_M_isWhole (d : Nat) (a0 : UInt64) (h : gk_H) : gk_P gw_I d y_M_isWhole b_M_isWhole 2 (some .boolean) [] (f_M_isWhole a0 h) 0 [(0, .double a0)] [] h := by
  unfold f_M_isWhole
  refine gk_dload_n (pc := 0) 0 d_M_isWhole_0 rfl ?_
  refine gk_ldc2d (pc := 1) tw_1901 d_M_isWhole_1 ?_
  refine gk_dcmp (pc := 4) d_M_isWhole_4 ?_
  refine gk_if_ge (pc := 5) 24 d_M_isWhole_5 rfl (fun _ => ?_) (fun _ => ?_)
  · refine gk_weak [] (L' := []) rfl ?_
    exact p_M_isWhole_b24 d h
  · refine gk_dload_n (pc := 8) 0 d_M_isWhole_8 rfl ?_
    refine gk_ldc2d (pc := 9) tw_1902 d_M_isWhole_9 ?_
    refine gk_dcmp (pc := 12) d_M_isWhole_12 ?_
    refine gk_if_le (pc := 13) 24 d_M_isWhole_13 rfl (fun _ => ?_) (fun _ => ?_)
    · refine gk_weak [] (L' := []) rfl ?_
      exact p_M_isWhole_b24 d h
    · refine gk_dload_n (pc := 16) 0 d_M_isWhole_16 rfl ?_
      refine gk_d2l (pc := 17) d_M_isWhole_17 ?_
      refine gk_l2d (pc := 18) d_M_isWhole_18 ?_
      refine gk_dload_n (pc := 19) 0 d_M_isWhole_19 rfl ?_
      refine gk_dcmp (pc := 20) d_M_isWhole_20 ?_
      refine gk_if_ne (pc := 21) 28 d_M_isWhole_21 rfl (fun _ => ?_) (fun _ => ?_)
      · refine gk_weak [] (L' := []) rfl ?_
        exact p_M_isWhole_b24 d h
      · refine gk_iconst (pc := 28) (0 : Int32) d_M_isWhole_28 rfl ?_
        refine gk_weak [] (L' := []) rfl ?_
        exact p_M_isWhole_b29 d (0 : Int32) h
theorem p_M_isWhole (d : Nat) (a0 : UInt64) (h : gk_H) : ∀ r h1, f_M_isWhole a0 h = some (r, h1) → gk_M d y_M_isWhole b_M_isWhole 2 (some .boolean) [.double a0] h (.inl (gv_I r)) h1 :=
  fun r h1 e => gk_M_of2 (by decide +kernel) (by simp [lv_args, gk_cat_rf, gk_catI, gk_catJ, gk_catD, gv_V, gv_I, gv_J, gv_D, gv_R]) (by simp [lg_sl, gk_cat_rf, gk_catI, gk_catJ, gk_catD, gv_V, gv_I, gv_J, gv_D, gv_R]) (w_M_isWhole d a0 h r h1 e)
theorem d_M_power_0 : decode b_M_power 0 = .ok (.dload_n 3, 1) := by decide +kernel
theorem d_M_power_1 : decode b_M_power 1 = .ok (.ldc2_w 230, 3) := by decide +kernel
theorem d_M_power_4 : decode b_M_power 4 = .ok (.dcmp .l, 1) := by decide +kernel
theorem d_M_power_5 : decode b_M_power 5 = .ok (.ifCond .lt 34, 3) := by decide +kernel
theorem d_M_power_8 : decode b_M_power 8 = .ok (.dload_n 3, 1) := by decide +kernel
theorem d_M_power_9 : decode b_M_power 9 = .ok (.ldc2_w 232, 3) := by decide +kernel
theorem d_M_power_12 : decode b_M_power 12 = .ok (.dcmp .g, 1) := by decide +kernel
theorem d_M_power_13 : decode b_M_power 13 = .ok (.ifCond .gt 26, 3) := by decide +kernel
theorem d_M_power_16 : decode b_M_power 16 = .ok (.dload_n 3, 1) := by decide +kernel
theorem d_M_power_17 : decode b_M_power 17 = .ok (.invokestatic 234, 3) := by decide +kernel
theorem d_M_power_20 : decode b_M_power 20 = .ok (.ifCond .eq 19, 3) := by decide +kernel
theorem d_M_power_23 : decode b_M_power 23 = .ok (.dload_n 1, 1) := by decide +kernel
theorem d_M_power_24 : decode b_M_power 24 = .ok (.dconst 0, 1) := by decide +kernel
theorem d_M_power_25 : decode b_M_power 25 = .ok (.dcmp .l, 1) := by decide +kernel
theorem d_M_power_26 : decode b_M_power 26 = .ok (.ifCond .ne 9, 3) := by decide +kernel
theorem d_M_power_29 : decode b_M_power 29 = .ok (.dload_n 3, 1) := by decide +kernel
theorem d_M_power_30 : decode b_M_power 30 = .ok (.dconst 0, 1) := by decide +kernel
theorem d_M_power_31 : decode b_M_power 31 = .ok (.dcmp .l, 1) := by decide +kernel
theorem d_M_power_32 : decode b_M_power 32 = .ok (.ifCond .eq 7, 3) := by decide +kernel
theorem d_M_power_35 : decode b_M_power 35 = .ok (.iconst 1, 1) := by decide +kernel
theorem d_M_power_36 : decode b_M_power 36 = .ok (.goto 4, 3) := by decide +kernel
theorem d_M_power_39 : decode b_M_power 39 = .ok (.iconst 0, 1) := by decide +kernel
theorem d_M_power_40 : decode b_M_power 40 = .ok (.istore 5, 2) := by decide +kernel
theorem d_M_power_42 : decode b_M_power 42 = .ok (.iload 5, 2) := by decide +kernel
theorem d_M_power_44 : decode b_M_power 44 = .ok (.ifCond .ne 11, 3) := by decide +kernel
theorem d_M_power_47 : decode b_M_power 47 = .ok (.aload_n 0, 1) := by decide +kernel
theorem d_M_power_48 : decode b_M_power 48 = .ok (.bipush 6, 2) := by decide +kernel
theorem d_M_power_50 : decode b_M_power 50 = .ok (.invokevirtual 58, 3) := by decide +kernel
theorem d_M_power_53 : decode b_M_power 53 = .ok (.dconst 0, 1) := by decide +kernel
theorem d_M_power_54 : decode b_M_power 54 = .ok (.dreturn, 1) := by decide +kernel
theorem d_M_power_55 : decode b_M_power 55 = .ok (.dload_n 1, 1) := by decide +kernel
theorem d_M_power_56 : decode b_M_power 56 = .ok (.dconst 0, 1) := by decide +kernel
theorem d_M_power_57 : decode b_M_power 57 = .ok (.dcmp .l, 1) := by decide +kernel
theorem d_M_power_58 : decode b_M_power 58 = .ok (.ifCond .ne 16, 3) := by decide +kernel
theorem d_M_power_61 : decode b_M_power 61 = .ok (.dload_n 3, 1) := by decide +kernel
theorem d_M_power_62 : decode b_M_power 62 = .ok (.dconst 0, 1) := by decide +kernel
theorem d_M_power_63 : decode b_M_power 63 = .ok (.dcmp .g, 1) := by decide +kernel
theorem d_M_power_64 : decode b_M_power 64 = .ok (.ifCond .ge 10, 3) := by decide +kernel
theorem d_M_power_67 : decode b_M_power 67 = .ok (.aload_n 0, 1) := by decide +kernel
theorem d_M_power_68 : decode b_M_power 68 = .ok (.iconst 2, 1) := by decide +kernel
theorem d_M_power_69 : decode b_M_power 69 = .ok (.invokevirtual 58, 3) := by decide +kernel
theorem d_M_power_72 : decode b_M_power 72 = .ok (.dconst 0, 1) := by decide +kernel
theorem d_M_power_73 : decode b_M_power 73 = .ok (.dreturn, 1) := by decide +kernel
theorem d_M_power_74 : decode b_M_power 74 = .ok (.dload_n 3, 1) := by decide +kernel
theorem d_M_power_75 : decode b_M_power 75 = .ok (.dconst 0, 1) := by decide +kernel
theorem d_M_power_76 : decode b_M_power 76 = .ok (.dcmp .g, 1) := by decide +kernel
theorem d_M_power_77 : decode b_M_power 77 = .ok (.ifCond .ge 8, 3) := by decide +kernel
theorem d_M_power_80 : decode b_M_power 80 = .ok (.dload_n 3, 1) := by decide +kernel
theorem d_M_power_81 : decode b_M_power 81 = .ok (.dneg, 1) := by decide +kernel
theorem d_M_power_82 : decode b_M_power 82 = .ok (.goto 4, 3) := by decide +kernel
theorem d_M_power_85 : decode b_M_power 85 = .ok (.dload_n 3, 1) := by decide +kernel
theorem d_M_power_86 : decode b_M_power 86 = .ok (.d2i, 1) := by decide +kernel
theorem d_M_power_87 : decode b_M_power 87 = .ok (.istore 6, 2) := by decide +kernel
theorem d_M_power_89 : decode b_M_power 89 = .ok (.dconst 1, 1) := by decide +kernel
theorem d_M_power_90 : decode b_M_power 90 = .ok (.dstore 7, 2) := by decide +kernel
theorem d_M_power_92 : decode b_M_power 92 = .ok (.dload_n 1, 1) := by decide +kernel
theorem d_M_power_93 : decode b_M_power 93 = .ok (.dstore 9, 2) := by decide +kernel
theorem d_M_power_95 : decode b_M_power 95 = .ok (.iload 6, 2) := by decide +kernel
theorem d_M_power_97 : decode b_M_power 97 = .ok (.ifCond .le 71, 3) := by decide +kernel
theorem d_M_power_100 : decode b_M_power 100 = .ok (.aload_n 0, 1) := by decide +kernel
theorem d_M_power_101 : decode b_M_power 101 = .ok (.getfield 62, 3) := by decide +kernel
theorem d_M_power_104 : decode b_M_power 104 = .ok (.ifCond .ne 64, 3) := by decide +kernel
theorem d_M_power_107 : decode b_M_power 107 = .ok (.iload 6, 2) := by decide +kernel
theorem d_M_power_109 : decode b_M_power 109 = .ok (.iconst 2, 1) := by decide +kernel
theorem d_M_power_110 : decode b_M_power 110 = .ok (.irem, 1) := by decide +kernel
theorem d_M_power_111 : decode b_M_power 111 = .ok (.iconst 1, 1) := by decide +kernel
theorem d_M_power_112 : decode b_M_power 112 = .ok (.if_icmp .ne 15, 3) := by decide +kernel
theorem d_M_power_115 : decode b_M_power 115 = .ok (.aload_n 0, 1) := by decide +kernel
theorem d_M_power_116 : decode b_M_power 116 = .ok (.dload 7, 2) := by decide +kernel
theorem d_M_power_118 : decode b_M_power 118 = .ok (.dload 9, 2) := by decide +kernel
theorem d_M_power_120 : decode b_M_power 120 = .ok (.dmul, 1) := by decide +kernel
theorem d_M_power_121 : decode b_M_power 121 = .ok (.invokevirtual 217, 3) := by decide +kernel
theorem d_M_power_124 : decode b_M_power 124 = .ok (.goto 5, 3) := by decide +kernel
theorem d_M_power_127 : decode b_M_power 127 = .ok (.dload 7, 2) := by decide +kernel
theorem d_M_power_129 : decode b_M_power 129 = .ok (.dstore 7, 2) := by decide +kernel
theorem d_M_power_131 : decode b_M_power 131 = .ok (.iload 6, 2) := by decide +kernel
theorem d_M_power_133 : decode b_M_power 133 = .ok (.iconst 2, 1) := by decide +kernel
theorem d_M_power_134 : decode b_M_power 134 = .ok (.idiv, 1) := by decide +kernel
theorem d_M_power_135 : decode b_M_power 135 = .ok (.istore 6, 2) := by decide +kernel
theorem d_M_power_137 : decode b_M_power 137 = .ok (.iload 6, 2) := by decide +kernel
theorem d_M_power_139 : decode b_M_power 139 = .ok (.ifCond .le 22, 3) := by decide +kernel
theorem d_M_power_142 : decode b_M_power 142 = .ok (.aload_n 0, 1) := by decide +kernel
theorem d_M_power_143 : decode b_M_power 143 = .ok (.getfield 62, 3) := by decide +kernel
theorem d_M_power_146 : decode b_M_power 146 = .ok (.ifCond .ne 15, 3) := by decide +kernel
theorem d_M_power_149 : decode b_M_power 149 = .ok (.aload_n 0, 1) := by decide +kernel
theorem d_M_power_150 : decode b_M_power 150 = .ok (.dload 9, 2) := by decide +kernel
theorem d_M_power_152 : decode b_M_power 152 = .ok (.dload 9, 2) := by decide +kernel
theorem d_M_power_154 : decode b_M_power 154 = .ok (.dmul, 1) := by decide +kernel
theorem d_M_power_155 : decode b_M_power 155 = .ok (.invokevirtual 217, 3) := by decide +kernel
theorem d_M_power_158 : decode b_M_power 158 = .ok (.goto 5, 3) := by decide +kernel
theorem d_M_power_161 : decode b_M_power 161 = .ok (.dload 9, 2) := by decide +kernel
theorem d_M_power_163 : decode b_M_power 163 = .ok (.dstore 9, 2) := by decide +kernel
theorem d_M_power_165 : decode b_M_power 165 = .ok (.goto (-70), 3) := by decide +kernel
theorem d_M_power_168 : decode b_M_power 168 = .ok (.aload_n 0, 1) := by decide +kernel
theorem d_M_power_169 : decode b_M_power 169 = .ok (.getfield 62, 3) := by decide +kernel
theorem d_M_power_172 : decode b_M_power 172 = .ok (.ifCond .ne 35, 3) := by decide +kernel
theorem d_M_power_175 : decode b_M_power 175 = .ok (.dload_n 3, 1) := by decide +kernel
theorem d_M_power_176 : decode b_M_power 176 = .ok (.dconst 0, 1) := by decide +kernel
theorem d_M_power_177 : decode b_M_power 177 = .ok (.dcmp .g, 1) := by decide +kernel
theorem d_M_power_178 : decode b_M_power 178 = .ok (.ifCond .ge 29, 3) := by decide +kernel
theorem d_M_power_181 : decode b_M_power 181 = .ok (.dload 7, 2) := by decide +kernel
theorem d_M_power_183 : decode b_M_power 183 = .ok (.dconst 0, 1) := by decide +kernel
theorem d_M_power_184 : decode b_M_power 184 = .ok (.dcmp .l, 1) := by decide +kernel
theorem d_M_power_185 : decode b_M_power 185 = .ok (.ifCond .ne 12, 3) := by decide +kernel
theorem d_M_power_188 : decode b_M_power 188 = .ok (.aload_n 0, 1) := by decide +kernel
theorem d_M_power_189 : decode b_M_power 189 = .ok (.bipush 6, 2) := by decide +kernel
theorem d_M_power_191 : decode b_M_power 191 = .ok (.invokevirtual 58, 3) := by decide +kernel
theorem d_M_power_194 : decode b_M_power 194 = .ok (.goto 13, 3) := by decide +kernel
theorem d_M_power_197 : decode b_M_power 197 = .ok (.aload_n 0, 1) := by decide +kernel
theorem d_M_power_198 : decode b_M_power 198 = .ok (.dconst 1, 1) := by decide +kernel
theorem d_M_power_199 : decode b_M_power 199 = .ok (.dload 7, 2) := by decide +kernel
theorem d_M_power_201 : decode b_M_power 201 = .ok (.ddiv, 1) := by decide +kernel
theorem d_M_power_202 : decode b_M_power 202 = .ok (.invokevirtual 217, 3) := by decide +kernel
theorem d_M_power_205 : decode b_M_power 205 = .ok (.dstore 7, 2) := by decide +kernel
theorem d_M_power_207 : decode b_M_power 207 = .ok (.dload 7, 2) := by decide +kernel
theorem d_M_power_209 : decode b_M_power 209 = .ok (.dreturn, 1) := by decide +kernel
theorem p_M_power_b207 (d : Nat)  (v7 : UInt64) (h : gk_H) : gk_P gw_D (d + 2) y_M_power b_M_power 11 (some .double) [] (f_M_power_b207  v7 h) 207 [(7, .double v7)] [] h := by
  unfold f_M_power_b207
  refine gk_dload (pc := 207) 0 d_M_power_207 rfl ?_
  exact gk_dret (pc := 209) rfl d_M_power_209 rfl
theorem p_M_power_b168 (d : Nat)  (v0 : Option Nat) (v3 : UInt64) (v7 : UInt64) (h : gk_H) : gk_P gw_D (d + 2) y_M_power b_M_power 11 (some .double) [] (f_M_power_b168  v0 v3 v7 h) 168 [(0, va_rf v0), (3, .double v3), (7, .double v7)] [] h := by
  unfold f_M_power_b168
  refine gk_aload_n (pc := 168) 0 d_M_power_168 rfl ?_
  refine gk_getI (pc := 169) 7 11 d_M_power_169 rfl (Nat.le_of_ble_eq_true rfl) tw_1656 fun x1 => ?_
  refine gk_if_ne (pc := 172) 207 d_M_power_172 rfl (fun _ => ?_) (fun _ => ?_)
  · refine gk_dload_n (pc := 175) 1 d_M_power_175 rfl ?_
    refine gk_dconst0 (pc := 176) d_M_power_176 ?_
    refine gk_dcmp (pc := 177) d_M_power_177 ?_
    refine gk_if_ge (pc := 178) 207 d_M_power_178 rfl (fun _ => ?_) (fun _ => ?_)
    · refine gk_weak [2] (L' := [(7, .double v7)]) rfl ?_
      exact p_M_power_b207 d v7 h
    · refine gk_dload (pc := 181) 2 d_M_power_181 rfl ?_
      refine gk_dconst0 (pc := 183) d_M_power_183 ?_
      refine gk_dcmp (pc := 184) d_M_power_184 ?_
      refine gk_if_ne (pc := 185) 197 d_M_power_185 rfl (fun _ => ?_) (fun _ => ?_)
      · refine gk_aload_n (pc := 188) 0 d_M_power_188 rfl ?_
        refine gk_bipush (pc := 189) (6 : Int32) d_M_power_189 rfl ?_
        refine gk_callV (pc := 191) (d := (d + 1)) (w' := gv_V) (as := [.int (6 : Int32)]) (n := 1) 7 d_M_power_191 rfl rfl rfl rfl (Nat.le_of_ble_eq_true rfl) tw_1805 tw_1807 tw_21 tw_99 cw_M_fail hy_M_fail (Nat.le_of_ble_eq_true rfl) (p_M_fail (d + 1) v0 (6 : Int32) h) fun _ h1 => ?_
        refine gk_goto (pc := 194) 207 d_M_power_194 rfl ?_
        refine gk_weak [2] (L' := [(7, .double v7)]) rfl ?_
        exact p_M_power_b207 d v7 h1
      · refine gk_aload_n (pc := 197) 0 d_M_power_197 rfl ?_
        refine gk_dconst1 (pc := 198) d_M_power_198 ?_
        refine gk_dload (pc := 199) 2 d_M_power_199 rfl ?_
        refine gk_ddivN (pc := 201) d_M_power_201 fun x2 => ?_
        refine gk_callV (pc := 202) (d := (d + 1)) (w' := gv_D) (as := [.double x2]) (n := 1) 7 d_M_power_202 rfl rfl rfl rfl (Nat.le_of_ble_eq_true rfl) tw_1903 tw_1905 tw_36 tw_99 cw_M_step hy_M_step (Nat.le_of_ble_eq_true rfl) (p_M_step d v0 x2 h) fun x3 h2 => ?_
        refine gk_dstore (pc := 205) (L' := [(7, .double x3), (0, va_rf v0), (3, .double v3)]) d_M_power_205 (Nat.le_of_ble_eq_true rfl) rfl ?_
        refine gk_weak [0] (L' := [(7, .double x3)]) rfl ?_
        exact p_M_power_b207 d x3 h2
  · refine gk_weak [2] (L' := [(7, .double v7)]) rfl ?_
    exact p_M_power_b207 d v7 h
theorem p_M_power_b163 (d : Nat) (b95 : Option Nat → UInt64 → Int32 → UInt64 → UInt64 → gk_H → Option (UInt64 × gk_H)) (q95 : ∀ (v0 : Option Nat) (v3 : UInt64) (v6 : Int32) (v7 : UInt64) (v9 : UInt64) (h : gk_H), gk_P gw_D (d + 2) y_M_power b_M_power 11 (some .double) [] (b95 v0 v3 v6 v7 v9 h) 95 [(0, va_rf v0), (3, .double v3), (6, .int v6), (7, .double v7), (9, .double v9)] [] h) (v0 : Option Nat) (v3 : UInt64) (v6 : Int32) (v7 : UInt64) (s0 : UInt64) (h : gk_H) : gk_P gw_D (d + 2) y_M_power b_M_power 11 (some .double) [] (f_M_power_b163 b95 v0 v3 v6 v7 s0 h) 163 [(0, va_rf v0), (3, .double v3), (6, .int v6), (7, .double v7)] [.double s0] h := by
  unfold f_M_power_b163
  refine gk_dstore (pc := 163) (L' := [(9, .double s0), (0, va_rf v0), (3, .double v3), (6, .int v6), (7, .double v7)]) d_M_power_163 (Nat.le_of_ble_eq_true rfl) rfl ?_
  refine gk_goto (pc := 165) 95 d_M_power_165 rfl ?_
  refine gk_weak [1, 2, 3, 4, 0] (L' := [(0, va_rf v0), (3, .double v3), (6, .int v6), (7, .double v7), (9, .double s0)]) rfl ?_
  exact q95 v0 v3 v6 v7 s0 h
theorem p_M_power_b161 (d : Nat) (b95 : Option Nat → UInt64 → Int32 → UInt64 → UInt64 → gk_H → Option (UInt64 × gk_H)) (q95 : ∀ (v0 : Option Nat) (v3 : UInt64) (v6 : Int32) (v7 : UInt64) (v9 : UInt64) (h : gk_H), gk_P gw_D (d + 2) y_M_power b_M_power 11 (some .double) [] (b95 v0 v3 v6 v7 v9 h) 95 [(0, va_rf v0), (3, .double v3), (6, .int v6), (7, .double v7), (9, .double v9)] [] h) (v0 : Option Nat) (v3 : UInt64) (v6 : Int32) (v7 : UInt64) (v9 : UInt64) (h : gk_H) : gk_P gw_D (d + 2) y_M_power b_M_power 11 (some .double) [] (f_M_power_b161 b95 v0 v3 v6 v7 v9 h) 161 [(0, va_rf v0), (3, .double v3), (6, .int v6), (7, .double v7), (9, .double v9)] [] h := by
  unfold f_M_power_b161
  refine gk_dload (pc := 161) 4 d_M_power_161 rfl ?_
  refine gk_weak [0, 1, 2, 3] (L' := [(0, va_rf v0), (3, .double v3), (6, .int v6), (7, .double v7)]) rfl ?_
  exact p_M_power_b163 d b95 q95 v0 v3 v6 v7 v9 h
theorem p_M_power_b129 (d : Nat) (b95 : Option Nat → UInt64 → Int32 → UInt64 → UInt64 → gk_H → Option (UInt64 × gk_H)) (q95 : ∀ (v0 : Option Nat) (v3 : UInt64) (v6 : Int32) (v7 : UInt64) (v9 : UInt64) (h : gk_H), gk_P gw_D (d + 2) y_M_power b_M_power 11 (some .double) [] (b95 v0 v3 v6 v7 v9 h) 95 [(0, va_rf v0), (3, .double v3), (6, .int v6), (7, .double v7), (9, .double v9)] [] h) (v0 : Option Nat) (v3 : UInt64) (v6 : Int32) (v9 : UInt64) (s0 : UInt64) (h : gk_H) : gk_P gw_D (d + 2) y_M_power b_M_power 11 (some .double) [] (f_M_power_b129 b95 v0 v3 v6 v9 s0 h) 129 [(0, va_rf v0), (3, .double v3), (6, .int v6), (9, .double v9)] [.double s0] h := by
  unfold f_M_power_b129
  refine gk_dstore (pc := 129) (L' := [(7, .double s0), (0, va_rf v0), (3, .double v3), (6, .int v6), (9, .double v9)]) d_M_power_129 (Nat.le_of_ble_eq_true rfl) rfl ?_
  refine gk_iload (pc := 131) 3 d_M_power_131 rfl ?_
  refine gk_iconst (pc := 133) (2 : Int32) d_M_power_133 rfl ?_
  refine gk_idiv (pc := 134) (by decide) d_M_power_134 ?_
  refine gk_topI (pc := 135) fun x1 => ?_
  refine gk_istore (pc := 135) (L' := [(6, .int x1), (7, .double s0), (0, va_rf v0), (3, .double v3), (9, .double v9)]) d_M_power_135 (Nat.le_of_ble_eq_true rfl) rfl ?_
  refine gk_iload (pc := 137) 0 d_M_power_137 rfl ?_
  refine gk_if_le (pc := 139) 161 d_M_power_139 rfl (fun _ => ?_) (fun _ => ?_)
  · refine gk_weak [2, 3, 0, 1, 4] (L' := [(0, va_rf v0), (3, .double v3), (6, .int x1), (7, .double s0), (9, .double v9)]) rfl ?_
    exact p_M_power_b161 d b95 q95 v0 v3 x1 s0 v9 h
  · refine gk_aload_n (pc := 142) 2 d_M_power_142 rfl ?_
    refine gk_getI (pc := 143) 7 11 d_M_power_143 rfl (Nat.le_of_ble_eq_true rfl) tw_1656 fun x2 => ?_
    refine gk_if_ne (pc := 146) 161 d_M_power_146 rfl (fun _ => ?_) (fun _ => ?_)
    · refine gk_aload_n (pc := 149) 2 d_M_power_149 rfl ?_
      refine gk_dload (pc := 150) 4 d_M_power_150 rfl ?_
      refine gk_dload (pc := 152) 4 d_M_power_152 rfl ?_
      refine gk_dmulN (pc := 154) d_M_power_154 fun x3 => ?_
      refine gk_callV (pc := 155) (d := (d + 1)) (w' := gv_D) (as := [.double x3]) (n := 1) 7 d_M_power_155 rfl rfl rfl rfl (Nat.le_of_ble_eq_true rfl) tw_1903 tw_1905 tw_36 tw_99 cw_M_step hy_M_step (Nat.le_of_ble_eq_true rfl) (p_M_step d v0 x3 h) fun x4 h1 => ?_
      refine gk_goto (pc := 158) 163 d_M_power_158 rfl ?_
      refine gk_weak [2, 3, 0, 1] (L' := [(0, va_rf v0), (3, .double v3), (6, .int x1), (7, .double s0)]) rfl ?_
      exact p_M_power_b163 d b95 q95 v0 v3 x1 s0 x4 h1
    · refine gk_weak [2, 3, 0, 1, 4] (L' := [(0, va_rf v0), (3, .double v3), (6, .int x1), (7, .double s0), (9, .double v9)]) rfl ?_
      exact p_M_power_b161 d b95 q95 v0 v3 x1 s0 v9 h
theorem p_M_power_b95 (d : Nat)  : ∀ (fu : Nat) (v0 : Option Nat) (v3 : UInt64) (v6 : Int32) (v7 : UInt64) (v9 : UInt64) (h : gk_H), gk_P gw_D (d + 2) y_M_power b_M_power 11 (some .double) [] (f_M_power_b95  fu v0 v3 v6 v7 v9 h) 95 [(0, va_rf v0), (3, .double v3), (6, .int v6), (7, .double v7), (9, .double v9)] [] h := by
  intro fu
  induction fu with
  | zero => intros; exact gk_none
  | succ fu q95 =>
    intro v0 v3 v6 v7 v9 h
    rw [f_M_power_b95]
    refine gk_iload (pc := 95) 2 d_M_power_95 rfl ?_
    refine gk_if_le (pc := 97) 168 d_M_power_97 rfl (fun _ => ?_) (fun _ => ?_)
    · refine gk_weak [0, 1, 3] (L' := [(0, va_rf v0), (3, .double v3), (7, .double v7)]) rfl ?_
      exact p_M_power_b168 d v0 v3 v7 h
    · refine gk_aload_n (pc := 100) 0 d_M_power_100 rfl ?_
      refine gk_getI (pc := 101) 7 11 d_M_power_101 rfl (Nat.le_of_ble_eq_true rfl) tw_1656 fun x1 => ?_
      refine gk_if_ne (pc := 104) 168 d_M_power_104 rfl (fun _ => ?_) (fun _ => ?_)
      · refine gk_iload (pc := 107) 2 d_M_power_107 rfl ?_
        refine gk_iconst (pc := 109) (2 : Int32) d_M_power_109 rfl ?_
        refine gk_irem (pc := 110) (by decide) d_M_power_110 ?_
        refine gk_iconst (pc := 111) (1 : Int32) d_M_power_111 rfl ?_
        refine gk_icmp_ne (pc := 112) 127 d_M_power_112 rfl (fun _ => ?_) (fun _ => ?_)
        · refine gk_aload_n (pc := 115) 0 d_M_power_115 rfl ?_
          refine gk_dload (pc := 116) 3 d_M_power_116 rfl ?_
          refine gk_dload (pc := 118) 4 d_M_power_118 rfl ?_
          refine gk_dmulN (pc := 120) d_M_power_120 fun x2 => ?_
          refine gk_callV (pc := 121) (d := (d + 1)) (w' := gv_D) (as := [.double x2]) (n := 1) 7 d_M_power_121 rfl rfl rfl rfl (Nat.le_of_ble_eq_true rfl) tw_1903 tw_1905 tw_36 tw_99 cw_M_step hy_M_step (Nat.le_of_ble_eq_true rfl) (p_M_step d v0 x2 h) fun x3 h1 => ?_
          refine gk_goto (pc := 124) 129 d_M_power_124 rfl ?_
          refine gk_weak [0, 1, 2, 4] (L' := [(0, va_rf v0), (3, .double v3), (6, .int v6), (9, .double v9)]) rfl ?_
          exact p_M_power_b129 d (f_M_power_b95 fu) q95 v0 v3 v6 v9 x3 h1
        · refine gk_dload (pc := 127) 3 d_M_power_127 rfl ?_
          refine gk_weak [0, 1, 2, 4] (L' := [(0, va_rf v0), (3, .double v3), (6, .int v6), (9, .double v9)]) rfl ?_
          exact p_M_power_b129 d (f_M_power_b95 fu) q95 v0 v3 v6 v9 v7 h
      · refine gk_weak [0, 1, 3] (L' := [(0, va_rf v0), (3, .double v3), (7, .double v7)]) rfl ?_
        exact p_M_power_b168 d v0 v3 v7 h
theorem p_M_power_b86 (d : Nat)  (v0 : Option Nat) (v1 : UInt64) (v3 : UInt64) (s0 : UInt64) (h : gk_H) : gk_P gw_D (d + 2) y_M_power b_M_power 11 (some .double) [] (f_M_power_b86  v0 v1 v3 s0 h) 86 [(0, va_rf v0), (1, .double v1), (3, .double v3)] [.double s0] h := by
  unfold f_M_power_b86
  refine gk_d2i (pc := 86) d_M_power_86 ?_
  refine gk_topI (pc := 87) fun x1 => ?_
  refine gk_istore (pc := 87) (L' := [(6, .int x1), (0, va_rf v0), (1, .double v1), (3, .double v3)]) d_M_power_87 (Nat.le_of_ble_eq_true rfl) rfl ?_
  refine gk_dconst1 (pc := 89) d_M_power_89 ?_
  refine gk_dstore (pc := 90) (L' := [(7, .double (0x3ff0000000000000)), (6, .int x1), (0, va_rf v0), (1, .double v1), (3, .double v3)]) d_M_power_90 (Nat.le_of_ble_eq_true rfl) rfl ?_
  refine gk_dload_n (pc := 92) 3 d_M_power_92 rfl ?_
  refine gk_dstore (pc := 93) (L' := [(9, .double v1), (7, .double (0x3ff0000000000000)), (6, .int x1), (0, va_rf v0), (1, .double v1), (3, .double v3)]) d_M_power_93 (Nat.le_of_ble_eq_true rfl) rfl ?_
  refine gk_weak [3, 5, 2, 1, 0] (L' := [(0, va_rf v0), (3, .double v3), (6, .int x1), (7, .double (0x3ff0000000000000)), (9, .double v1)]) rfl ?_
  exact p_M_power_b95 d gk_F v0 v3 x1 (0x3ff0000000000000) v1 h
theorem p_M_power_b74 (d : Nat)  (v0 : Option Nat) (v1 : UInt64) (v3 : UInt64) (h : gk_H) : gk_P gw_D (d + 2) y_M_power b_M_power 11 (some .double) [] (f_M_power_b74  v0 v1 v3 h) 74 [(0, va_rf v0), (1, .double v1), (3, .double v3)] [] h := by
  unfold f_M_power_b74
  refine gk_dload_n (pc := 74) 2 d_M_power_74 rfl ?_
  refine gk_dconst0 (pc := 75) d_M_power_75 ?_
  refine gk_dcmp (pc := 76) d_M_power_76 ?_
  refine gk_if_ge (pc := 77) 85 d_M_power_77 rfl (fun _ => ?_) (fun _ => ?_)
  · refine gk_dload_n (pc := 85) 2 d_M_power_85 rfl ?_
    exact p_M_power_b86 d v0 v1 v3 v3 h
  · refine gk_dload_n (pc := 80) 2 d_M_power_80 rfl ?_
    refine gk_dneg (pc := 81) d_M_power_81 ?_
    refine gk_goto (pc := 82) 86 d_M_power_82 rfl ?_
    exact p_M_power_b86 d v0 v1 v3 (FP.dneg v3) h
theorem p_M_power_b40 (d : Nat)  (v0 : Option Nat) (v1 : UInt64) (v3 : UInt64) (s0 : Int32) (h : gk_H) : gk_P gw_D (d + 2) y_M_power b_M_power 11 (some .double) [] (f_M_power_b40  v0 v1 v3 s0 h) 40 [(0, va_rf v0), (1, .double v1), (3, .double v3)] [.int s0] h := by
  unfold f_M_power_b40
  refine gk_istore (pc := 40) (L' := [(5, .int s0), (0, va_rf v0), (1, .double v1), (3, .double v3)]) d_M_power_40 (Nat.le_of_ble_eq_true rfl) rfl ?_
  refine gk_iload (pc := 42) 0 d_M_power_42 rfl ?_
  refine gk_if_ne (pc := 44) 55 d_M_power_44 rfl (fun _ => ?_) (fun _ => ?_)
  · refine gk_aload_n (pc := 47) 1 d_M_power_47 rfl ?_
    refine gk_bipush (pc := 48) (6 : Int32) d_M_power_48 rfl ?_
    refine gk_callV (pc := 50) (d := (d + 1)) (w' := gv_V) (as := [.int (6 : Int32)]) (n := 1) 7 d_M_power_50 rfl rfl rfl rfl (Nat.le_of_ble_eq_true rfl) tw_1805 tw_1807 tw_21 tw_99 cw_M_fail hy_M_fail (Nat.le_of_ble_eq_true rfl) (p_M_fail (d + 1) v0 (6 : Int32) h) fun _ h1 => ?_
    refine gk_dconst0 (pc := 53) d_M_power_53 ?_
    exact gk_dret (pc := 54) rfl d_M_power_54 rfl
  · refine gk_dload_n (pc := 55) 2 d_M_power_55 rfl ?_
    refine gk_dconst0 (pc := 56) d_M_power_56 ?_
    refine gk_dcmp (pc := 57) d_M_power_57 ?_
    refine gk_if_ne (pc := 58) 74 d_M_power_58 rfl (fun _ => ?_) (fun _ => ?_)
    · refine gk_dload_n (pc := 61) 3 d_M_power_61 rfl ?_
      refine gk_dconst0 (pc := 62) d_M_power_62 ?_
      refine gk_dcmp (pc := 63) d_M_power_63 ?_
      refine gk_if_ge (pc := 64) 74 d_M_power_64 rfl (fun _ => ?_) (fun _ => ?_)
      · refine gk_weak [1, 2, 3] (L' := [(0, va_rf v0), (1, .double v1), (3, .double v3)]) rfl ?_
        exact p_M_power_b74 d v0 v1 v3 h
      · refine gk_aload_n (pc := 67) 1 d_M_power_67 rfl ?_
        refine gk_iconst (pc := 68) (2 : Int32) d_M_power_68 rfl ?_
        refine gk_callV (pc := 69) (d := (d + 1)) (w' := gv_V) (as := [.int (2 : Int32)]) (n := 1) 7 d_M_power_69 rfl rfl rfl rfl (Nat.le_of_ble_eq_true rfl) tw_1805 tw_1807 tw_21 tw_99 cw_M_fail hy_M_fail (Nat.le_of_ble_eq_true rfl) (p_M_fail (d + 1) v0 (2 : Int32) h) fun _ h2 => ?_
        refine gk_dconst0 (pc := 72) d_M_power_72 ?_
        exact gk_dret (pc := 73) rfl d_M_power_73 rfl
    · refine gk_weak [1, 2, 3] (L' := [(0, va_rf v0), (1, .double v1), (3, .double v3)]) rfl ?_
      exact p_M_power_b74 d v0 v1 v3 h
theorem p_M_power_b39 (d : Nat)  (v0 : Option Nat) (v1 : UInt64) (v3 : UInt64) (h : gk_H) : gk_P gw_D (d + 2) y_M_power b_M_power 11 (some .double) [] (f_M_power_b39  v0 v1 v3 h) 39 [(0, va_rf v0), (1, .double v1), (3, .double v3)] [] h := by
  unfold f_M_power_b39
  refine gk_iconst (pc := 39) (0 : Int32) d_M_power_39 rfl ?_
  exact p_M_power_b40 d v0 v1 v3 (0 : Int32) h
theorem p_M_power_b35 (d : Nat)  (v0 : Option Nat) (v1 : UInt64) (v3 : UInt64) (h : gk_H) : gk_P gw_D (d + 2) y_M_power b_M_power 11 (some .double) [] (f_M_power_b35  v0 v1 v3 h) 35 [(0, va_rf v0), (1, .double v1), (3, .double v3)] [] h := by
  unfold f_M_power_b35
  refine gk_iconst (pc := 35) (1 : Int32) d_M_power_35 rfl ?_
  refine gk_goto (pc := 36) 40 d_M_power_36 rfl ?_
  exact p_M_power_b40 d v0 v1 v3 (1 : Int32) h
theorem w_M_power (d : Nat) (a0 : Option Nat) (a1 : UInt64) (a2 : UInt64) (h : gk_H) : gk_P gw_D (d + 2) y_M_power b_M_power 11 (some .double) [] (f_M_power a0 a1 a2 h) 0 [(0, va_rf a0), (1, .double a1), (3, .double a2)] [] h := by
  unfold f_M_power
  refine gk_dload_n (pc := 0) 2 d_M_power_0 rfl ?_
  refine gk_ldc2d (pc := 1) tw_1896 d_M_power_1 ?_
  refine gk_dcmp (pc := 4) d_M_power_4 ?_
  refine gk_if_lt (pc := 5) 39 d_M_power_5 rfl (fun _ => ?_) (fun _ => ?_)
  · exact p_M_power_b39 d a0 a1 a2 h
  · refine gk_dload_n (pc := 8) 2 d_M_power_8 rfl ?_
    refine gk_ldc2d (pc := 9) tw_1897 d_M_power_9 ?_
    refine gk_dcmp (pc := 12) d_M_power_12 ?_
    refine gk_if_gt (pc := 13) 39 d_M_power_13 rfl (fun _ => ?_) (fun _ => ?_)
    · exact p_M_power_b39 d a0 a1 a2 h
    · refine gk_dload_n (pc := 16) 2 d_M_power_16 rfl ?_
      refine gk_callS (pc := 17) (d := (d + 1)) (w' := gv_I) (as := [.double a2]) (n := 1) d_M_power_17 rfl rfl (Nat.le_of_ble_eq_true rfl) tw_1898 tw_1899 tw_99 cw_M_isWhole hy_M_isWhole (Nat.le_of_ble_eq_true rfl) (p_M_isWhole (d + 1) a2 h) fun x1 h1 => ?_
      refine gk_if_eq (pc := 20) 39 d_M_power_20 rfl (fun _ => ?_) (fun _ => ?_)
      · exact p_M_power_b39 d a0 a1 a2 h1
      · refine gk_dload_n (pc := 23) 1 d_M_power_23 rfl ?_
        refine gk_dconst0 (pc := 24) d_M_power_24 ?_
        refine gk_dcmp (pc := 25) d_M_power_25 ?_
        refine gk_if_ne (pc := 26) 35 d_M_power_26 rfl (fun _ => ?_) (fun _ => ?_)
        · refine gk_dload_n (pc := 29) 2 d_M_power_29 rfl ?_
          refine gk_dconst0 (pc := 30) d_M_power_30 ?_
          refine gk_dcmp (pc := 31) d_M_power_31 ?_
          refine gk_if_eq (pc := 32) 39 d_M_power_32 rfl (fun _ => ?_) (fun _ => ?_)
          · exact p_M_power_b39 d a0 a1 a2 h1
          · exact p_M_power_b35 d a0 a1 a2 h1
        · exact p_M_power_b35 d a0 a1 a2 h1
theorem p_M_power (d : Nat) (a0 : Option Nat) (a1 : UInt64) (a2 : UInt64) (h : gk_H) : ∀ r h1, f_M_power a0 a1 a2 h = some (r, h1) → gk_M (d + 2) y_M_power b_M_power 11 (some .double) [va_rf a0, .double a1, .double a2] h (.inl (gv_D r)) h1 :=
  fun r h1 e => gk_M_of2 (by decide +kernel) (by simp [lv_args, gk_cat_rf, gk_catI, gk_catJ, gk_catD, gv_V, gv_I, gv_J, gv_D, gv_R]) (by simp [lg_sl, gk_cat_rf, gk_catI, gk_catJ, gk_catD, gv_V, gv_I, gv_J, gv_D, gv_R]) (w_M_power d a0 a1 a2 h r h1 e)
theorem d_M_reckon_0 : decode b_M_reckon 0 = .ok (.iload_n 1, 1) := by decide +kernel
theorem d_M_reckon_1 : decode b_M_reckon 1 = .ok (.tableswitch 83 0 5 #[39, 43, 49, 57, 66, 74], 39) := by decide +kernel
theorem d_M_reckon_40 : decode b_M_reckon 40 = .ok (.dconst 0, 1) := by decide +kernel
theorem d_M_reckon_41 : decode b_M_reckon 41 = .ok (.dload_n 2, 1) := by decide +kernel
theorem d_M_reckon_42 : decode b_M_reckon 42 = .ok (.dsub, 1) := by decide +kernel
theorem d_M_reckon_43 : decode b_M_reckon 43 = .ok (.dreturn, 1) := by decide +kernel
theorem d_M_reckon_44 : decode b_M_reckon 44 = .ok (.dload_n 2, 1) := by decide +kernel
theorem d_M_reckon_45 : decode b_M_reckon 45 = .ok (.ldc2_w 101, 3) := by decide +kernel
theorem d_M_reckon_48 : decode b_M_reckon 48 = .ok (.ddiv, 1) := by decide +kernel
theorem d_M_reckon_49 : decode b_M_reckon 49 = .ok (.dreturn, 1) := by decide +kernel
theorem d_M_reckon_50 : decode b_M_reckon 50 = .ok (.aload_n 0, 1) := by decide +kernel
theorem d_M_reckon_51 : decode b_M_reckon 51 = .ok (.dload_n 2, 1) := by decide +kernel
theorem d_M_reckon_52 : decode b_M_reckon 52 = .ok (.dload 4, 2) := by decide +kernel
theorem d_M_reckon_54 : decode b_M_reckon 54 = .ok (.invokevirtual 213, 3) := by decide +kernel
theorem d_M_reckon_57 : decode b_M_reckon 57 = .ok (.dreturn, 1) := by decide +kernel
theorem d_M_reckon_58 : decode b_M_reckon 58 = .ok (.aload_n 0, 1) := by decide +kernel
theorem d_M_reckon_59 : decode b_M_reckon 59 = .ok (.dload_n 2, 1) := by decide +kernel
theorem d_M_reckon_60 : decode b_M_reckon 60 = .ok (.dload 4, 2) := by decide +kernel
theorem d_M_reckon_62 : decode b_M_reckon 62 = .ok (.dmul, 1) := by decide +kernel
theorem d_M_reckon_63 : decode b_M_reckon 63 = .ok (.invokevirtual 217, 3) := by decide +kernel
theorem d_M_reckon_66 : decode b_M_reckon 66 = .ok (.dreturn, 1) := by decide +kernel
theorem d_M_reckon_67 : decode b_M_reckon 67 = .ok (.aload_n 0, 1) := by decide +kernel
theorem d_M_reckon_68 : decode b_M_reckon 68 = .ok (.dload_n 2, 1) := by decide +kernel
theorem d_M_reckon_69 : decode b_M_reckon 69 = .ok (.dload 4, 2) := by decide +kernel
theorem d_M_reckon_71 : decode b_M_reckon 71 = .ok (.invokevirtual 221, 3) := by decide +kernel
theorem d_M_reckon_74 : decode b_M_reckon 74 = .ok (.dreturn, 1) := by decide +kernel
theorem d_M_reckon_75 : decode b_M_reckon 75 = .ok (.aload_n 0, 1) := by decide +kernel
theorem d_M_reckon_76 : decode b_M_reckon 76 = .ok (.dload_n 2, 1) := by decide +kernel
theorem d_M_reckon_77 : decode b_M_reckon 77 = .ok (.dload 4, 2) := by decide +kernel
theorem d_M_reckon_79 : decode b_M_reckon 79 = .ok (.dadd, 1) := by decide +kernel
theorem d_M_reckon_80 : decode b_M_reckon 80 = .ok (.invokevirtual 217, 3) := by decide +kernel
theorem d_M_reckon_83 : decode b_M_reckon 83 = .ok (.dreturn, 1) := by decide +kernel
theorem d_M_reckon_84 : decode b_M_reckon 84 = .ok (.aload_n 0, 1) := by decide +kernel
theorem d_M_reckon_85 : decode b_M_reckon 85 = .ok (.dload_n 2, 1) := by decide +kernel
theorem d_M_reckon_86 : decode b_M_reckon 86 = .ok (.dload 4, 2) := by decide +kernel
theorem d_M_reckon_88 : decode b_M_reckon 88 = .ok (.dsub, 1) := by decide +kernel
theorem d_M_reckon_89 : decode b_M_reckon 89 = .ok (.invokevirtual 217, 3) := by decide +kernel
theorem d_M_reckon_92 : decode b_M_reckon 92 = .ok (.dreturn, 1) := by decide +kernel
theorem w_M_reckon (d : Nat) (a0 : Option Nat) (a1 : Int32) (a2 : UInt64) (a3 : UInt64) (h : gk_H) : gk_P gw_D (d + 3) y_M_reckon b_M_reckon 6 (some .double) [] (f_M_reckon a0 a1 a2 a3 h) 0 [(0, va_rf a0), (1, .int a1), (2, .double a2), (4, .double a3)] [] h := by
  unfold f_M_reckon
  refine gk_iload_n (pc := 0) 1 d_M_reckon_0 rfl ?_
  refine gk_ite (fun z1_0 => ?_) (fun z1_0 => ?_)
  · refine gk_tsw_in (pc := 1) (0 : Int32) 40 d_M_reckon_1 z1_0 (by decide) (by decide) rfl rfl ?_
    refine gk_dconst0 (pc := 40) d_M_reckon_40 ?_
    refine gk_dload_n (pc := 41) 2 d_M_reckon_41 rfl ?_
    refine gk_dsubN (pc := 42) d_M_reckon_42 fun x1 => ?_
    exact gk_dret (pc := 43) rfl d_M_reckon_43 rfl
  ·
    refine gk_ite (fun z1_1 => ?_) (fun z1_1 => ?_)
    · refine gk_tsw_in (pc := 1) (1 : Int32) 44 d_M_reckon_1 z1_1 (by decide) (by decide) rfl rfl ?_
      refine gk_dload_n (pc := 44) 2 d_M_reckon_44 rfl ?_
      refine gk_ldc2d (pc := 45) tw_1887 d_M_reckon_45 ?_
      refine gk_ddivN (pc := 48) d_M_reckon_48 fun x2 => ?_
      exact gk_dret (pc := 49) rfl d_M_reckon_49 rfl
    ·
      refine gk_ite (fun z1_2 => ?_) (fun z1_2 => ?_)
      · refine gk_tsw_in (pc := 1) (2 : Int32) 50 d_M_reckon_1 z1_2 (by decide) (by decide) rfl rfl ?_
        refine gk_aload_n (pc := 50) 0 d_M_reckon_50 rfl ?_
        refine gk_dload_n (pc := 51) 2 d_M_reckon_51 rfl ?_
        refine gk_dload (pc := 52) 3 d_M_reckon_52 rfl ?_
        refine gk_callV (pc := 54) (d := (d + 2)) (w' := gv_D) (as := [.double a2, .double a3]) (n := 2) 7 d_M_reckon_54 rfl rfl rfl rfl (Nat.le_of_ble_eq_true rfl) tw_1892 tw_1894 tw_35 tw_99 cw_M_power hy_M_power (Nat.le_of_ble_eq_true rfl) (p_M_power d a0 a2 a3 h) fun x3 h1 => ?_
        exact gk_dret (pc := 57) rfl d_M_reckon_57 rfl
      ·
        refine gk_ite (fun z1_3 => ?_) (fun z1_3 => ?_)
        · refine gk_tsw_in (pc := 1) (3 : Int32) 58 d_M_reckon_1 z1_3 (by decide) (by decide) rfl rfl ?_
          refine gk_aload_n (pc := 58) 0 d_M_reckon_58 rfl ?_
          refine gk_dload_n (pc := 59) 2 d_M_reckon_59 rfl ?_
          refine gk_dload (pc := 60) 3 d_M_reckon_60 rfl ?_
          refine gk_dmulN (pc := 62) d_M_reckon_62 fun x4 => ?_
          refine gk_callV (pc := 63) (d := (d + 2)) (w' := gv_D) (as := [.double x4]) (n := 1) 7 d_M_reckon_63 rfl rfl rfl rfl (Nat.le_of_ble_eq_true rfl) tw_1903 tw_1905 tw_36 tw_99 cw_M_step hy_M_step (Nat.le_of_ble_eq_true rfl) (p_M_step (d + 1) a0 x4 h) fun x5 h2 => ?_
          exact gk_dret (pc := 66) rfl d_M_reckon_66 rfl
        ·
          refine gk_ite (fun z1_4 => ?_) (fun z1_4 => ?_)
          · refine gk_tsw_in (pc := 1) (4 : Int32) 67 d_M_reckon_1 z1_4 (by decide) (by decide) rfl rfl ?_
            refine gk_aload_n (pc := 67) 0 d_M_reckon_67 rfl ?_
            refine gk_dload_n (pc := 68) 2 d_M_reckon_68 rfl ?_
            refine gk_dload (pc := 69) 3 d_M_reckon_69 rfl ?_
            refine gk_callV (pc := 71) (d := (d + 2)) (w' := gv_D) (as := [.double a2, .double a3]) (n := 2) 7 d_M_reckon_71 rfl rfl rfl rfl (Nat.le_of_ble_eq_true rfl) tw_1912 tw_1914 tw_37 tw_99 cw_M_divide hy_M_divide (Nat.le_of_ble_eq_true rfl) (p_M_divide d a0 a2 a3 h) fun x6 h3 => ?_
            exact gk_dret (pc := 74) rfl d_M_reckon_74 rfl
          ·
            refine gk_ite (fun z1_5 => ?_) (fun z1_5 => ?_)
            · refine gk_tsw_in (pc := 1) (5 : Int32) 75 d_M_reckon_1 z1_5 (by decide) (by decide) rfl rfl ?_
              refine gk_aload_n (pc := 75) 0 d_M_reckon_75 rfl ?_
              refine gk_dload_n (pc := 76) 2 d_M_reckon_76 rfl ?_
              refine gk_dload (pc := 77) 3 d_M_reckon_77 rfl ?_
              refine gk_daddN (pc := 79) d_M_reckon_79 fun x7 => ?_
              refine gk_callV (pc := 80) (d := (d + 2)) (w' := gv_D) (as := [.double x7]) (n := 1) 7 d_M_reckon_80 rfl rfl rfl rfl (Nat.le_of_ble_eq_true rfl) tw_1903 tw_1905 tw_36 tw_99 cw_M_step hy_M_step (Nat.le_of_ble_eq_true rfl) (p_M_step (d + 1) a0 x7 h) fun x8 h4 => ?_
              exact gk_dret (pc := 83) rfl d_M_reckon_83 rfl
            ·
              refine gk_tsw_out (pc := 1) 84 d_M_reckon_1 (by have e0 := gk_neT z1_0 (by decide : (0 : Int32).toInt = 0); have e1 := gk_neT z1_1 (by decide : (1 : Int32).toInt = 1); have e2 := gk_neT z1_2 (by decide : (2 : Int32).toInt = 2); have e3 := gk_neT z1_3 (by decide : (3 : Int32).toInt = 3); have e4 := gk_neT z1_4 (by decide : (4 : Int32).toInt = 4); have e5 := gk_neT z1_5 (by decide : (5 : Int32).toInt = 5); omega) rfl ?_
              refine gk_aload_n (pc := 84) 0 d_M_reckon_84 rfl ?_
              refine gk_dload_n (pc := 85) 2 d_M_reckon_85 rfl ?_
              refine gk_dload (pc := 86) 3 d_M_reckon_86 rfl ?_
              refine gk_dsubN (pc := 88) d_M_reckon_88 fun x9 => ?_
              refine gk_callV (pc := 89) (d := (d + 2)) (w' := gv_D) (as := [.double x9]) (n := 1) 7 d_M_reckon_89 rfl rfl rfl rfl (Nat.le_of_ble_eq_true rfl) tw_1903 tw_1905 tw_36 tw_99 cw_M_step hy_M_step (Nat.le_of_ble_eq_true rfl) (p_M_step (d + 1) a0 x9 h) fun x10 h5 => ?_
              exact gk_dret (pc := 92) rfl d_M_reckon_92 rfl
theorem p_M_reckon (d : Nat) (a0 : Option Nat) (a1 : Int32) (a2 : UInt64) (a3 : UInt64) (h : gk_H) : ∀ r h1, f_M_reckon a0 a1 a2 a3 h = some (r, h1) → gk_M (d + 3) y_M_reckon b_M_reckon 6 (some .double) [va_rf a0, .int a1, .double a2, .double a3] h (.inl (gv_D r)) h1 :=
  fun r h1 e => gk_M_of2 (by decide +kernel) (by simp [lv_args, gk_cat_rf, gk_catI, gk_catJ, gk_catD, gv_V, gv_I, gv_J, gv_D, gv_R]) (by simp [lg_sl, gk_cat_rf, gk_catI, gk_catJ, gk_catD, gv_V, gv_I, gv_J, gv_D, gv_R]) (w_M_reckon d a0 a1 a2 a3 h r h1 e)
theorem d_M_answerNumber_0 : decode b_M_answerNumber 0 = .ok (.aload_n 0, 1) := by decide +kernel
theorem d_M_answerNumber_1 : decode b_M_answerNumber 1 = .ok (.bipush 16, 2) := by decide +kernel
theorem d_M_answerNumber_3 : decode b_M_answerNumber 3 = .ok (.iconst 1, 1) := by decide +kernel
theorem d_M_answerNumber_4 : decode b_M_answerNumber 4 = .ok (.dload_n 1, 1) := by decide +kernel
theorem d_M_answerNumber_5 : decode b_M_answerNumber 5 = .ok (.invokevirtual 76, 3) := by decide +kernel
theorem d_M_answerNumber_8 : decode b_M_answerNumber 8 = .ok (.return_, 1) := by decide +kernel
theorem w_M_answerNumber (d : Nat) (a0 : Option Nat) (a1 : UInt64) (h : gk_H) : gk_P gw_V (d + 1) y_M_answerNumber b_M_answerNumber 3 none [] (f_M_answerNumber a0 a1 h) 0 [(0, va_rf a0), (1, .double a1)] [] h := by
  unfold f_M_answerNumber
  refine gk_aload_n (pc := 0) 0 d_M_answerNumber_0 rfl ?_
  refine gk_bipush (pc := 1) (16 : Int32) d_M_answerNumber_1 rfl ?_
  refine gk_iconst (pc := 3) (1 : Int32) d_M_answerNumber_3 rfl ?_
  refine gk_dload_n (pc := 4) 1 d_M_answerNumber_4 rfl ?_
  refine gk_callV (pc := 5) (d := d) (w' := gv_V) (as := [.int (16 : Int32), .int (1 : Int32), .double a1]) (n := 3) 7 d_M_answerNumber_5 rfl rfl rfl rfl (Nat.le_of_ble_eq_true rfl) tw_1733 tw_1735 tw_15 tw_99 cw_M_setSingle hy_M_setSingle (Nat.le_of_ble_eq_true rfl) (p_M_setSingle d a0 (16 : Int32) (1 : Int32) a1 h) fun _ h1 => ?_
  exact gk_vret (pc := 8) rfl d_M_answerNumber_8 rfl
theorem p_M_answerNumber (d : Nat) (a0 : Option Nat) (a1 : UInt64) (h : gk_H) : ∀ r h1, f_M_answerNumber a0 a1 h = some (r, h1) → gk_M (d + 1) y_M_answerNumber b_M_answerNumber 3 none [va_rf a0, .double a1] h (.inl (gv_V r)) h1 :=
  fun r h1 e => gk_M_of2 (by decide +kernel) (by simp [lv_args, gk_cat_rf, gk_catI, gk_catJ, gk_catD, gv_V, gv_I, gv_J, gv_D, gv_R]) (by simp [lg_sl, gk_cat_rf, gk_catI, gk_catJ, gk_catD, gv_V, gv_I, gv_J, gv_D, gv_R]) (w_M_answerNumber d a0 a1 h r h1 e)
theorem d_M_finish_0 : decode b_M_finish 0 = .ok (.aload_n 0, 1) := by decide +kernel
theorem d_M_finish_1 : decode b_M_finish 1 = .ok (.getfield 62, 3) := by decide +kernel
theorem d_M_finish_4 : decode b_M_finish 4 = .ok (.ifCond .le 15, 3) := by decide +kernel
theorem d_M_finish_7 : decode b_M_finish 7 = .ok (.aload_n 0, 1) := by decide +kernel
theorem d_M_finish_8 : decode b_M_finish 8 = .ok (.bipush 16, 2) := by decide +kernel
theorem d_M_finish_10 : decode b_M_finish 10 = .ok (.iconst 4, 1) := by decide +kernel
theorem d_M_finish_11 : decode b_M_finish 11 = .ok (.aload_n 0, 1) := by decide +kernel
theorem d_M_finish_12 : decode b_M_finish 12 = .ok (.getfield 62, 3) := by decide +kernel
theorem d_M_finish_15 : decode b_M_finish 15 = .ok (.i2d, 1) := by decide +kernel
theorem d_M_finish_16 : decode b_M_finish 16 = .ok (.invokevirtual 76, 3) := by decide +kernel
theorem d_M_finish_19 : decode b_M_finish 19 = .ok (.aload_n 0, 1) := by decide +kernel
theorem d_M_finish_20 : decode b_M_finish 20 = .ok (.aload_n 0, 1) := by decide +kernel
theorem d_M_finish_21 : decode b_M_finish 21 = .ok (.getfield 69, 3) := by decide +kernel
theorem d_M_finish_24 : decode b_M_finish 24 = .ok (.iload_n 1, 1) := by decide +kernel
theorem d_M_finish_25 : decode b_M_finish 25 = .ok (.isub, 1) := by decide +kernel
theorem d_M_finish_26 : decode b_M_finish 26 = .ok (.putfield 69, 3) := by decide +kernel
theorem d_M_finish_29 : decode b_M_finish 29 = .ok (.aload_n 0, 1) := by decide +kernel
theorem d_M_finish_30 : decode b_M_finish 30 = .ok (.bipush 16, 2) := by decide +kernel
theorem d_M_finish_32 : decode b_M_finish 32 = .ok (.aload_n 0, 1) := by decide +kernel
theorem d_M_finish_33 : decode b_M_finish 33 = .ok (.getfield 69, 3) := by decide +kernel
theorem d_M_finish_36 : decode b_M_finish 36 = .ok (.invokevirtual 83, 3) := by decide +kernel
theorem d_M_finish_39 : decode b_M_finish 39 = .ok (.aload_n 0, 1) := by decide +kernel
theorem d_M_finish_40 : decode b_M_finish 40 = .ok (.dup, 1) := by decide +kernel
theorem d_M_finish_41 : decode b_M_finish 41 = .ok (.getfield 69, 3) := by decide +kernel
theorem d_M_finish_44 : decode b_M_finish 44 = .ok (.iconst 1, 1) := by decide +kernel
theorem d_M_finish_45 : decode b_M_finish 45 = .ok (.iadd, 1) := by decide +kernel
theorem d_M_finish_46 : decode b_M_finish 46 = .ok (.putfield 69, 3) := by decide +kernel
theorem d_M_finish_49 : decode b_M_finish 49 = .ok (.return_, 1) := by decide +kernel
theorem p_M_finish_b19 (d : Nat)  (v0 : Option Nat) (v1 : Int32) (h : gk_H) : gk_P gw_V (d + 2) y_M_finish b_M_finish 2 none [] (f_M_finish_b19  v0 v1 h) 19 [(0, va_rf v0), (1, .int v1)] [] h := by
  unfold f_M_finish_b19
  refine gk_aload_n (pc := 19) 0 d_M_finish_19 rfl ?_
  refine gk_aload_n (pc := 20) 0 d_M_finish_20 rfl ?_
  refine gk_getI (pc := 21) 7 3 d_M_finish_21 rfl (Nat.le_of_ble_eq_true rfl) tw_1648 fun x1 => ?_
  refine gk_iload_n (pc := 24) 1 d_M_finish_24 rfl ?_
  refine gk_isub (pc := 25) d_M_finish_25 ?_
  refine gk_putfield (pc := 26) 7 3 d_M_finish_26 rfl (Nat.le_of_ble_eq_true rfl) tw_1648 (Or.inl rfl) fun h1 => ?_
  refine gk_aload_n (pc := 29) 0 d_M_finish_29 rfl ?_
  refine gk_bipush (pc := 30) (16 : Int32) d_M_finish_30 rfl ?_
  refine gk_aload_n (pc := 32) 0 d_M_finish_32 rfl ?_
  refine gk_getI (pc := 33) 7 3 d_M_finish_33 rfl (Nat.le_of_ble_eq_true rfl) tw_1648 fun x2 => ?_
  refine gk_callV (pc := 36) (d := (d + 1)) (w' := gv_V) (as := [.int (16 : Int32), .int x2]) (n := 2) 7 d_M_finish_36 rfl rfl rfl rfl (Nat.le_of_ble_eq_true rfl) tw_1765 tw_1767 tw_17 tw_99 cw_M_copyValue hy_M_copyValue (Nat.le_of_ble_eq_true rfl) (p_M_copyValue d v0 (16 : Int32) x2 h1) fun _ h2 => ?_
  refine gk_aload_n (pc := 39) 0 d_M_finish_39 rfl ?_
  refine gk_dup (pc := 40) d_M_finish_40 (gk_cat_rf _) ?_
  refine gk_getI (pc := 41) 7 3 d_M_finish_41 rfl (Nat.le_of_ble_eq_true rfl) tw_1648 fun x3 => ?_
  refine gk_iconst (pc := 44) (1 : Int32) d_M_finish_44 rfl ?_
  refine gk_iadd (pc := 45) d_M_finish_45 ?_
  refine gk_putfield (pc := 46) 7 3 d_M_finish_46 rfl (Nat.le_of_ble_eq_true rfl) tw_1648 (Or.inl rfl) fun h3 => ?_
  exact gk_vret (pc := 49) rfl d_M_finish_49 rfl
theorem w_M_finish (d : Nat) (a0 : Option Nat) (a1 : Int32) (h : gk_H) : gk_P gw_V (d + 2) y_M_finish b_M_finish 2 none [] (f_M_finish a0 a1 h) 0 [(0, va_rf a0), (1, .int a1)] [] h := by
  unfold f_M_finish
  refine gk_aload_n (pc := 0) 0 d_M_finish_0 rfl ?_
  refine gk_getI (pc := 1) 7 11 d_M_finish_1 rfl (Nat.le_of_ble_eq_true rfl) tw_1656 fun x1 => ?_
  refine gk_if_le (pc := 4) 19 d_M_finish_4 rfl (fun _ => ?_) (fun _ => ?_)
  · exact p_M_finish_b19 d a0 a1 h
  · refine gk_aload_n (pc := 7) 0 d_M_finish_7 rfl ?_
    refine gk_bipush (pc := 8) (16 : Int32) d_M_finish_8 rfl ?_
    refine gk_iconst (pc := 10) (4 : Int32) d_M_finish_10 rfl ?_
    refine gk_aload_n (pc := 11) 0 d_M_finish_11 rfl ?_
    refine gk_getI (pc := 12) 7 11 d_M_finish_12 rfl (Nat.le_of_ble_eq_true rfl) tw_1656 fun x2 => ?_
    refine gk_i2d (pc := 15) d_M_finish_15 ?_
    refine gk_callV (pc := 16) (d := (d + 1)) (w' := gv_V) (as := [.int (16 : Int32), .int (4 : Int32), .double (FP.i2d x2)]) (n := 3) 7 d_M_finish_16 rfl rfl rfl rfl (Nat.le_of_ble_eq_true rfl) tw_1733 tw_1735 tw_15 tw_99 cw_M_setSingle hy_M_setSingle (Nat.le_of_ble_eq_true rfl) (p_M_setSingle (d + 1) a0 (16 : Int32) (4 : Int32) (FP.i2d x2) h) fun _ h1 => ?_
    exact p_M_finish_b19 d a0 a1 h1
theorem p_M_finish (d : Nat) (a0 : Option Nat) (a1 : Int32) (h : gk_H) : ∀ r h1, f_M_finish a0 a1 h = some (r, h1) → gk_M (d + 2) y_M_finish b_M_finish 2 none [va_rf a0, .int a1] h (.inl (gv_V r)) h1 :=
  fun r h1 e => gk_M_of2 (by decide +kernel) (by simp [lv_args, gk_cat_rf, gk_catI, gk_catJ, gk_catD, gv_V, gv_I, gv_J, gv_D, gv_R]) (by simp [lg_sl, gk_cat_rf, gk_catI, gk_catJ, gk_catD, gv_V, gv_I, gv_J, gv_D, gv_R]) (w_M_finish d a0 a1 h r h1 e)
theorem d_M_operate_0 : decode b_M_operate 0 = .ok (.iload_n 1, 1) := by decide +kernel
theorem d_M_operate_1 : decode b_M_operate 1 = .ok (.iconst 2, 1) := by decide +kernel
theorem d_M_operate_2 : decode b_M_operate 2 = .ok (.if_icmp .ge 7, 3) := by decide +kernel
theorem d_M_operate_5 : decode b_M_operate 5 = .ok (.iconst 1, 1) := by decide +kernel
theorem d_M_operate_6 : decode b_M_operate 6 = .ok (.goto 4, 3) := by decide +kernel
theorem d_M_operate_9 : decode b_M_operate 9 = .ok (.iconst 2, 1) := by decide +kernel
theorem d_M_operate_10 : decode b_M_operate 10 = .ok (.istore_n 2, 1) := by decide +kernel
theorem d_M_operate_11 : decode b_M_operate 11 = .ok (.aload_n 0, 1) := by decide +kernel
theorem d_M_operate_12 : decode b_M_operate 12 = .ok (.iload_n 1, 1) := by decide +kernel
theorem d_M_operate_13 : decode b_M_operate 13 = .ok (.ifCond .lt 17, 3) := by decide +kernel
theorem d_M_operate_16 : decode b_M_operate 16 = .ok (.iload_n 1, 1) := by decide +kernel
theorem d_M_operate_17 : decode b_M_operate 17 = .ok (.bipush 13, 2) := by decide +kernel
theorem d_M_operate_19 : decode b_M_operate 19 = .ok (.if_icmp .gt 11, 3) := by decide +kernel
theorem d_M_operate_22 : decode b_M_operate 22 = .ok (.aload_n 0, 1) := by decide +kernel
theorem d_M_operate_23 : decode b_M_operate 23 = .ok (.getfield 69, 3) := by decide +kernel
theorem d_M_operate_26 : decode b_M_operate 26 = .ok (.iload_n 2, 1) := by decide +kernel
theorem d_M_operate_27 : decode b_M_operate 27 = .ok (.if_icmp .ge 7, 3) := by decide +kernel
theorem d_M_operate_30 : decode b_M_operate 30 = .ok (.iconst 1, 1) := by decide +kernel
theorem d_M_operate_31 : decode b_M_operate 31 = .ok (.goto 4, 3) := by decide +kernel
theorem d_M_operate_34 : decode b_M_operate 34 = .ok (.iconst 0, 1) := by decide +kernel
theorem d_M_operate_35 : decode b_M_operate 35 = .ok (.putfield 46, 3) := by decide +kernel
theorem d_M_operate_38 : decode b_M_operate 38 = .ok (.aload_n 0, 1) := by decide +kernel
theorem d_M_operate_39 : decode b_M_operate 39 = .ok (.getfield 46, 3) := by decide +kernel
theorem d_M_operate_42 : decode b_M_operate 42 = .ok (.ifCond .le 4, 3) := by decide +kernel
theorem d_M_operate_45 : decode b_M_operate 45 = .ok (.return_, 1) := by decide +kernel
theorem d_M_operate_46 : decode b_M_operate 46 = .ok (.aload_n 0, 1) := by decide +kernel
theorem d_M_operate_47 : decode b_M_operate 47 = .ok (.iconst 0, 1) := by decide +kernel
theorem d_M_operate_48 : decode b_M_operate 48 = .ok (.putfield 62, 3) := by decide +kernel
theorem d_M_operate_51 : decode b_M_operate 51 = .ok (.aload_n 0, 1) := by decide +kernel
theorem d_M_operate_52 : decode b_M_operate 52 = .ok (.getfield 69, 3) := by decide +kernel
theorem d_M_operate_55 : decode b_M_operate 55 = .ok (.iload_n 2, 1) := by decide +kernel
theorem d_M_operate_56 : decode b_M_operate 56 = .ok (.isub, 1) := by decide +kernel
theorem d_M_operate_57 : decode b_M_operate 57 = .ok (.istore_n 3, 1) := by decide +kernel
theorem d_M_operate_58 : decode b_M_operate 58 = .ok (.aload_n 0, 1) := by decide +kernel
theorem d_M_operate_59 : decode b_M_operate 59 = .ok (.getfield 69, 3) := by decide +kernel
theorem d_M_operate_62 : decode b_M_operate 62 = .ok (.iconst 1, 1) := by decide +kernel
theorem d_M_operate_63 : decode b_M_operate 63 = .ok (.isub, 1) := by decide +kernel
theorem d_M_operate_64 : decode b_M_operate 64 = .ok (.istore 4, 2) := by decide +kernel
theorem d_M_operate_66 : decode b_M_operate 66 = .ok (.iload_n 1, 1) := by decide +kernel
theorem d_M_operate_67 : decode b_M_operate 67 = .ok (.bipush 7, 2) := by decide +kernel
theorem d_M_operate_69 : decode b_M_operate 69 = .ok (.if_icmp .le 67, 3) := by decide +kernel
theorem d_M_operate_72 : decode b_M_operate 72 = .ok (.aload_n 0, 1) := by decide +kernel
theorem d_M_operate_73 : decode b_M_operate 73 = .ok (.iload_n 3, 1) := by decide +kernel
theorem d_M_operate_74 : decode b_M_operate 74 = .ok (.invokevirtual 183, 3) := by decide +kernel
theorem d_M_operate_77 : decode b_M_operate 77 = .ok (.istore 5, 2) := by decide +kernel
theorem d_M_operate_79 : decode b_M_operate 79 = .ok (.aload_n 0, 1) := by decide +kernel
theorem d_M_operate_80 : decode b_M_operate 80 = .ok (.iload 4, 2) := by decide +kernel
theorem d_M_operate_82 : decode b_M_operate 82 = .ok (.invokevirtual 183, 3) := by decide +kernel
theorem d_M_operate_85 : decode b_M_operate 85 = .ok (.istore 6, 2) := by decide +kernel
theorem d_M_operate_87 : decode b_M_operate 87 = .ok (.aload_n 0, 1) := by decide +kernel
theorem d_M_operate_88 : decode b_M_operate 88 = .ok (.getfield 62, 3) := by decide +kernel
theorem d_M_operate_91 : decode b_M_operate 91 = .ok (.ifCond .ne 42, 3) := by decide +kernel
theorem d_M_operate_94 : decode b_M_operate 94 = .ok (.aload_n 0, 1) := by decide +kernel
theorem d_M_operate_95 : decode b_M_operate 95 = .ok (.iload_n 1, 1) := by decide +kernel
theorem d_M_operate_96 : decode b_M_operate 96 = .ok (.bipush 8, 2) := by decide +kernel
theorem d_M_operate_98 : decode b_M_operate 98 = .ok (.if_icmp .ne 7, 3) := by decide +kernel
theorem d_M_operate_101 : decode b_M_operate 101 = .ok (.iconst 0, 1) := by decide +kernel
theorem d_M_operate_102 : decode b_M_operate 102 = .ok (.goto 17, 3) := by decide +kernel
theorem d_M_operate_105 : decode b_M_operate 105 = .ok (.iload_n 1, 1) := by decide +kernel
theorem d_M_operate_106 : decode b_M_operate 106 = .ok (.bipush 9, 2) := by decide +kernel
theorem d_M_operate_108 : decode b_M_operate 108 = .ok (.if_icmp .ne 7, 3) := by decide +kernel
theorem d_M_operate_111 : decode b_M_operate 111 = .ok (.iconst 1, 1) := by decide +kernel
theorem d_M_operate_112 : decode b_M_operate 112 = .ok (.goto 7, 3) := by decide +kernel
theorem d_M_operate_115 : decode b_M_operate 115 = .ok (.iload_n 1, 1) := by decide +kernel
theorem d_M_operate_116 : decode b_M_operate 116 = .ok (.bipush 8, 2) := by decide +kernel
theorem d_M_operate_118 : decode b_M_operate 118 = .ok (.isub, 1) := by decide +kernel
theorem d_M_operate_119 : decode b_M_operate 119 = .ok (.aload_n 0, 1) := by decide +kernel
theorem d_M_operate_120 : decode b_M_operate 120 = .ok (.iload 5, 2) := by decide +kernel
theorem d_M_operate_122 : decode b_M_operate 122 = .ok (.iload 6, 2) := by decide +kernel
theorem d_M_operate_124 : decode b_M_operate 124 = .ok (.invokevirtual 186, 3) := by decide +kernel
theorem d_M_operate_127 : decode b_M_operate 127 = .ok (.invokestatic 189, 3) := by decide +kernel
theorem d_M_operate_130 : decode b_M_operate 130 = .ok (.invokevirtual 193, 3) := by decide +kernel
theorem d_M_operate_133 : decode b_M_operate 133 = .ok (.goto 74, 3) := by decide +kernel
theorem d_M_operate_136 : decode b_M_operate 136 = .ok (.iload_n 1, 1) := by decide +kernel
theorem d_M_operate_137 : decode b_M_operate 137 = .ok (.bipush 7, 2) := by decide +kernel
theorem d_M_operate_139 : decode b_M_operate 139 = .ok (.if_icmp .ne 24, 3) := by decide +kernel
theorem d_M_operate_142 : decode b_M_operate 142 = .ok (.aload_n 0, 1) := by decide +kernel
theorem d_M_operate_143 : decode b_M_operate 143 = .ok (.iload_n 3, 1) := by decide +kernel
theorem d_M_operate_144 : decode b_M_operate 144 = .ok (.iconst 0, 1) := by decide +kernel
theorem d_M_operate_145 : decode b_M_operate 145 = .ok (.invokevirtual 197, 3) := by decide +kernel
theorem d_M_operate_148 : decode b_M_operate 148 = .ok (.aload_n 0, 1) := by decide +kernel
theorem d_M_operate_149 : decode b_M_operate 149 = .ok (.iload 4, 2) := by decide +kernel
theorem d_M_operate_151 : decode b_M_operate 151 = .ok (.iconst 1, 1) := by decide +kernel
theorem d_M_operate_152 : decode b_M_operate 152 = .ok (.invokevirtual 197, 3) := by decide +kernel
theorem d_M_operate_155 : decode b_M_operate 155 = .ok (.aload_n 0, 1) := by decide +kernel
theorem d_M_operate_156 : decode b_M_operate 156 = .ok (.iconst 2, 1) := by decide +kernel
theorem d_M_operate_157 : decode b_M_operate 157 = .ok (.invokevirtual 200, 3) := by decide +kernel
theorem d_M_operate_160 : decode b_M_operate 160 = .ok (.goto 47, 3) := by decide +kernel
theorem d_M_operate_163 : decode b_M_operate 163 = .ok (.aload_n 0, 1) := by decide +kernel
theorem d_M_operate_164 : decode b_M_operate 164 = .ok (.iload_n 3, 1) := by decide +kernel
theorem d_M_operate_165 : decode b_M_operate 165 = .ok (.invokevirtual 137, 3) := by decide +kernel
theorem d_M_operate_168 : decode b_M_operate 168 = .ok (.dstore 5, 2) := by decide +kernel
theorem d_M_operate_170 : decode b_M_operate 170 = .ok (.iload_n 2, 1) := by decide +kernel
theorem d_M_operate_171 : decode b_M_operate 171 = .ok (.iconst 2, 1) := by decide +kernel
theorem d_M_operate_172 : decode b_M_operate 172 = .ok (.if_icmp .ne 12, 3) := by decide +kernel
theorem d_M_operate_175 : decode b_M_operate 175 = .ok (.aload_n 0, 1) := by decide +kernel
theorem d_M_operate_176 : decode b_M_operate 176 = .ok (.iload 4, 2) := by decide +kernel
theorem d_M_operate_178 : decode b_M_operate 178 = .ok (.invokevirtual 137, 3) := by decide +kernel
theorem d_M_operate_181 : decode b_M_operate 181 = .ok (.goto 4, 3) := by decide +kernel
theorem d_M_operate_184 : decode b_M_operate 184 = .ok (.dconst 0, 1) := by decide +kernel
theorem d_M_operate_185 : decode b_M_operate 185 = .ok (.dstore 7, 2) := by decide +kernel
theorem d_M_operate_187 : decode b_M_operate 187 = .ok (.aload_n 0, 1) := by decide +kernel
theorem d_M_operate_188 : decode b_M_operate 188 = .ok (.getfield 62, 3) := by decide +kernel
theorem d_M_operate_191 : decode b_M_operate 191 = .ok (.ifCond .ne 16, 3) := by decide +kernel
theorem d_M_operate_194 : decode b_M_operate 194 = .ok (.aload_n 0, 1) := by decide +kernel
theorem d_M_operate_195 : decode b_M_operate 195 = .ok (.aload_n 0, 1) := by decide +kernel
theorem d_M_operate_196 : decode b_M_operate 196 = .ok (.iload_n 1, 1) := by decide +kernel
theorem d_M_operate_197 : decode b_M_operate 197 = .ok (.dload 5, 2) := by decide +kernel
theorem d_M_operate_199 : decode b_M_operate 199 = .ok (.dload 7, 2) := by decide +kernel
theorem d_M_operate_201 : decode b_M_operate 201 = .ok (.invokevirtual 203, 3) := by decide +kernel
theorem d_M_operate_204 : decode b_M_operate 204 = .ok (.invokevirtual 207, 3) := by decide +kernel
theorem d_M_operate_207 : decode b_M_operate 207 = .ok (.aload_n 0, 1) := by decide +kernel
theorem d_M_operate_208 : decode b_M_operate 208 = .ok (.iload_n 2, 1) := by decide +kernel
theorem d_M_operate_209 : decode b_M_operate 209 = .ok (.invokevirtual 210, 3) := by decide +kernel
theorem d_M_operate_212 : decode b_M_operate 212 = .ok (.return_, 1) := by decide +kernel
theorem p_M_operate_b207 (d : Nat)  (v0 : Option Nat) (v2 : Int32) (h : gk_H) : gk_P gw_V (d + 4) y_M_operate b_M_operate 9 none [] (f_M_operate_b207  v0 v2 h) 207 [(0, va_rf v0), (2, .int v2)] [] h := by
  unfold f_M_operate_b207
  refine gk_aload_n (pc := 207) 0 d_M_operate_207 rfl ?_
  refine gk_iload_n (pc := 208) 1 d_M_operate_208 rfl ?_
  refine gk_callV (pc := 209) (d := (d + 3)) (w' := gv_V) (as := [.int v2]) (n := 1) 7 d_M_operate_209 rfl rfl rfl rfl (Nat.le_of_ble_eq_true rfl) tw_1920 tw_1922 tw_39 tw_99 cw_M_finish hy_M_finish (Nat.le_of_ble_eq_true rfl) (p_M_finish (d + 1) v0 v2 h) fun _ h1 => ?_
  exact gk_vret (pc := 212) rfl d_M_operate_212 rfl
theorem p_M_operate_b185 (d : Nat)  (v0 : Option Nat) (v1 : Int32) (v2 : Int32) (v5 : UInt64) (s0 : UInt64) (h : gk_H) : gk_P gw_V (d + 4) y_M_operate b_M_operate 9 none [] (f_M_operate_b185  v0 v1 v2 v5 s0 h) 185 [(0, va_rf v0), (1, .int v1), (2, .int v2), (5, .double v5)] [.double s0] h := by
  unfold f_M_operate_b185
  refine gk_dstore (pc := 185) (L' := [(7, .double s0), (0, va_rf v0), (1, .int v1), (2, .int v2), (5, .double v5)]) d_M_operate_185 (Nat.le_of_ble_eq_true rfl) rfl ?_
  refine gk_aload_n (pc := 187) 1 d_M_operate_187 rfl ?_
  refine gk_getI (pc := 188) 7 11 d_M_operate_188 rfl (Nat.le_of_ble_eq_true rfl) tw_1656 fun x1 => ?_
  refine gk_if_ne (pc := 191) 207 d_M_operate_191 rfl (fun _ => ?_) (fun _ => ?_)
  · refine gk_aload_n (pc := 194) 1 d_M_operate_194 rfl ?_
    refine gk_aload_n (pc := 195) 1 d_M_operate_195 rfl ?_
    refine gk_iload_n (pc := 196) 2 d_M_operate_196 rfl ?_
    refine gk_dload (pc := 197) 4 d_M_operate_197 rfl ?_
    refine gk_dload (pc := 199) 0 d_M_operate_199 rfl ?_
    refine gk_callV (pc := 201) (d := (d + 3)) (w' := gv_D) (as := [.int v1, .double v5, .double s0]) (n := 3) 7 d_M_operate_201 rfl rfl rfl rfl (by simp [gk_cat_rf, gk_catI, gk_catJ, gk_catD, gv_V, gv_I, gv_J, gv_D, gv_R]) tw_1888 tw_1890 tw_34 tw_99 cw_M_reckon hy_M_reckon (Nat.le_of_ble_eq_true rfl) (p_M_reckon d v0 v1 v5 s0 h) fun x2 h1 => ?_
    refine gk_callV (pc := 204) (d := (d + 3)) (w' := gv_V) (as := [.double x2]) (n := 1) 7 d_M_operate_204 rfl rfl rfl rfl (Nat.le_of_ble_eq_true rfl) tw_1916 tw_1918 tw_38 tw_99 cw_M_answerNumber hy_M_answerNumber (Nat.le_of_ble_eq_true rfl) (p_M_answerNumber (d + 2) v0 x2 h1) fun _ h2 => ?_
    refine gk_weak [1, 3] (L' := [(0, va_rf v0), (2, .int v2)]) rfl ?_
    exact p_M_operate_b207 d v0 v2 h2
  · refine gk_weak [1, 3] (L' := [(0, va_rf v0), (2, .int v2)]) rfl ?_
    exact p_M_operate_b207 d v0 v2 h
theorem p_M_operate_b133 (d : Nat)  (v0 : Option Nat) (v2 : Int32) (h : gk_H) : gk_P gw_V (d + 4) y_M_operate b_M_operate 9 none [] (f_M_operate_b133  v0 v2 h) 133 [(0, va_rf v0), (2, .int v2)] [] h := by
  unfold f_M_operate_b133
  refine gk_goto (pc := 133) 207 d_M_operate_133 rfl ?_
  exact p_M_operate_b207 d v0 v2 h
theorem p_M_operate_b119 (d : Nat)  (v0 : Option Nat) (v2 : Int32) (v5 : Int32) (v6 : Int32) (s0 : Option Nat) (s1 : Int32) (h : gk_H) : gk_P gw_V (d + 4) y_M_operate b_M_operate 9 none [] (f_M_operate_b119  v0 v2 v5 v6 s0 s1 h) 119 [(0, va_rf v0), (2, .int v2), (5, .int v5), (6, .int v6)] [.int s1, va_rf s0] h := by
  unfold f_M_operate_b119
  refine gk_aload_n (pc := 119) 0 d_M_operate_119 rfl ?_
  refine gk_iload (pc := 120) 2 d_M_operate_120 rfl ?_
  refine gk_iload (pc := 122) 3 d_M_operate_122 rfl ?_
  refine gk_callV (pc := 124) (d := (d + 3)) (w' := gv_I) (as := [.int v5, .int v6]) (n := 2) 7 d_M_operate_124 rfl rfl rfl rfl (by simp [gk_cat_rf, gk_catI, gk_catJ, gk_catD, gv_V, gv_I, gv_J, gv_D, gv_R]) tw_1809 tw_1811 tw_22 tw_99 cw_M_compareCells hy_M_compareCells (Nat.le_of_ble_eq_true rfl) (p_M_compareCells (d + 1) v0 v5 v6 h) fun x1 h1 => ?_
  refine gk_callS (pc := 127) (d := (d + 3)) (w' := gv_I) (as := [.int s1, .int x1]) (n := 2) d_M_operate_127 rfl rfl (by simp [gk_cat_rf, gk_catI, gk_catJ, gk_catD, gv_V, gv_I, gv_J, gv_D, gv_R]) tw_1823 tw_1824 tw_99 cw_M_stands hy_M_stands (Nat.le_of_ble_eq_true rfl) (p_M_stands (d + 3) s1 x1 h1) fun x2 h2 => ?_
  refine gk_callV (pc := 130) (d := (d + 3)) (w' := gv_V) (as := [.int x2]) (n := 1) 7 d_M_operate_130 rfl rfl rfl rfl (Nat.le_of_ble_eq_true rfl) tw_1826 tw_1828 tw_24 tw_99 cw_M_answerTruth hy_M_answerTruth (Nat.le_of_ble_eq_true rfl) (p_M_answerTruth (d + 2) s0 x2 h2) fun _ h3 => ?_
  refine gk_weak [0, 1] (L' := [(0, va_rf v0), (2, .int v2)]) rfl ?_
  exact p_M_operate_b133 d v0 v2 h3
theorem p_M_operate_b35 (d : Nat)  (v0 : Option Nat) (v1 : Int32) (v2 : Int32) (s0 : Option Nat) (s1 : Int32) (h : gk_H) : gk_P gw_V (d + 4) y_M_operate b_M_operate 9 none [] (f_M_operate_b35  v0 v1 v2 s0 s1 h) 35 [(0, va_rf v0), (1, .int v1), (2, .int v2)] [.int s1, va_rf s0] h := by
  unfold f_M_operate_b35
  refine gk_putfield (pc := 35) 7 0 d_M_operate_35 rfl (Nat.le_of_ble_eq_true rfl) tw_1645 (Or.inl rfl) fun h1 => ?_
  refine gk_aload_n (pc := 38) 0 d_M_operate_38 rfl ?_
  refine gk_getI (pc := 39) 7 0 d_M_operate_39 rfl (Nat.le_of_ble_eq_true rfl) tw_1645 fun x1 => ?_
  refine gk_if_le (pc := 42) 46 d_M_operate_42 rfl (fun _ => ?_) (fun _ => ?_)
  · refine gk_aload_n (pc := 46) 0 d_M_operate_46 rfl ?_
    refine gk_iconst (pc := 47) (0 : Int32) d_M_operate_47 rfl ?_
    refine gk_putfield (pc := 48) 7 11 d_M_operate_48 rfl (Nat.le_of_ble_eq_true rfl) tw_1656 (Or.inl rfl) fun h2 => ?_
    refine gk_aload_n (pc := 51) 0 d_M_operate_51 rfl ?_
    refine gk_getI (pc := 52) 7 3 d_M_operate_52 rfl (Nat.le_of_ble_eq_true rfl) tw_1648 fun x2 => ?_
    refine gk_iload_n (pc := 55) 2 d_M_operate_55 rfl ?_
    refine gk_isub (pc := 56) d_M_operate_56 ?_
    refine gk_topI (pc := 57) fun x3 => ?_
    refine gk_istore_n (pc := 57) (L' := [(3, .int x3), (0, va_rf v0), (1, .int v1), (2, .int v2)]) d_M_operate_57 (Nat.le_of_ble_eq_true rfl) rfl ?_
    refine gk_aload_n (pc := 58) 1 d_M_operate_58 rfl ?_
    refine gk_getI (pc := 59) 7 3 d_M_operate_59 rfl (Nat.le_of_ble_eq_true rfl) tw_1648 fun x4 => ?_
    refine gk_iconst (pc := 62) (1 : Int32) d_M_operate_62 rfl ?_
    refine gk_isub (pc := 63) d_M_operate_63 ?_
    refine gk_topI (pc := 64) fun x5 => ?_
    refine gk_istore (pc := 64) (L' := [(4, .int x5), (3, .int x3), (0, va_rf v0), (1, .int v1), (2, .int v2)]) d_M_operate_64 (Nat.le_of_ble_eq_true rfl) rfl ?_
    refine gk_iload_n (pc := 66) 3 d_M_operate_66 rfl ?_
    refine gk_bipush (pc := 67) (7 : Int32) d_M_operate_67 rfl ?_
    refine gk_icmp_le (pc := 69) 136 d_M_operate_69 rfl (fun _ => ?_) (fun _ => ?_)
    · refine gk_iload_n (pc := 136) 3 d_M_operate_136 rfl ?_
      refine gk_bipush (pc := 137) (7 : Int32) d_M_operate_137 rfl ?_
      refine gk_icmp_ne (pc := 139) 163 d_M_operate_139 rfl (fun _ => ?_) (fun _ => ?_)
      · refine gk_aload_n (pc := 142) 2 d_M_operate_142 rfl ?_
        refine gk_iload_n (pc := 143) 1 d_M_operate_143 rfl ?_
        refine gk_iconst (pc := 144) (0 : Int32) d_M_operate_144 rfl ?_
        refine gk_callV (pc := 145) (d := (d + 3)) (w' := gv_V) (as := [.int x3, .int (0 : Int32)]) (n := 2) 7 d_M_operate_145 rfl rfl rfl rfl (Nat.le_of_ble_eq_true rfl) tw_1830 tw_1832 tw_25 tw_99 cw_M_wantText hy_M_wantText (Nat.le_of_ble_eq_true rfl) (p_M_wantText d v0 x3 (0 : Int32) h2) fun _ h3 => ?_
        refine gk_aload_n (pc := 148) 2 d_M_operate_148 rfl ?_
        refine gk_iload (pc := 149) 0 d_M_operate_149 rfl ?_
        refine gk_iconst (pc := 151) (1 : Int32) d_M_operate_151 rfl ?_
        refine gk_callV (pc := 152) (d := (d + 3)) (w' := gv_V) (as := [.int x5, .int (1 : Int32)]) (n := 2) 7 d_M_operate_152 rfl rfl rfl rfl (Nat.le_of_ble_eq_true rfl) tw_1830 tw_1832 tw_25 tw_99 cw_M_wantText hy_M_wantText (Nat.le_of_ble_eq_true rfl) (p_M_wantText d v0 x5 (1 : Int32) h3) fun _ h4 => ?_
        refine gk_aload_n (pc := 155) 2 d_M_operate_155 rfl ?_
        refine gk_iconst (pc := 156) (2 : Int32) d_M_operate_156 rfl ?_
        refine gk_callV (pc := 157) (d := (d + 3)) (w' := gv_V) (as := [.int (2 : Int32)]) (n := 1) 7 d_M_operate_157 rfl rfl rfl rfl (Nat.le_of_ble_eq_true rfl) tw_1859 tw_1861 tw_29 tw_99 cw_M_join hy_M_join (Nat.le_of_ble_eq_true rfl) (p_M_join (d + 1) v0 (2 : Int32) h4) fun _ h5 => ?_
        refine gk_goto (pc := 160) 207 d_M_operate_160 rfl ?_
        refine gk_weak [2, 4] (L' := [(0, va_rf v0), (2, .int v2)]) rfl ?_
        exact p_M_operate_b207 d v0 v2 h5
      · refine gk_aload_n (pc := 163) 2 d_M_operate_163 rfl ?_
        refine gk_iload_n (pc := 164) 1 d_M_operate_164 rfl ?_
        refine gk_callV (pc := 165) (d := (d + 3)) (w' := gv_D) (as := [.int x3]) (n := 1) 7 d_M_operate_165 rfl rfl rfl rfl (Nat.le_of_ble_eq_true rfl) tw_1868 tw_1870 tw_31 tw_99 cw_M_wantNumber hy_M_wantNumber (Nat.le_of_ble_eq_true rfl) (p_M_wantNumber d v0 x3 h2) fun x6 h6 => ?_
        refine gk_dstore (pc := 168) (L' := [(5, .double x6), (4, .int x5), (3, .int x3), (0, va_rf v0), (1, .int v1), (2, .int v2)]) d_M_operate_168 (Nat.le_of_ble_eq_true rfl) rfl ?_
        refine gk_iload_n (pc := 170) 5 d_M_operate_170 rfl ?_
        refine gk_iconst (pc := 171) (2 : Int32) d_M_operate_171 rfl ?_
        refine gk_icmp_ne (pc := 172) 184 d_M_operate_172 rfl (fun _ => ?_) (fun _ => ?_)
        · refine gk_aload_n (pc := 175) 3 d_M_operate_175 rfl ?_
          refine gk_iload (pc := 176) 1 d_M_operate_176 rfl ?_
          refine gk_callV (pc := 178) (d := (d + 3)) (w' := gv_D) (as := [.int x5]) (n := 1) 7 d_M_operate_178 rfl rfl rfl rfl (Nat.le_of_ble_eq_true rfl) tw_1868 tw_1870 tw_31 tw_99 cw_M_wantNumber hy_M_wantNumber (Nat.le_of_ble_eq_true rfl) (p_M_wantNumber d v0 x5 h6) fun x7 h7 => ?_
          refine gk_goto (pc := 181) 185 d_M_operate_181 rfl ?_
          refine gk_weak [3, 4, 5, 0] (L' := [(0, va_rf v0), (1, .int v1), (2, .int v2), (5, .double x6)]) rfl ?_
          exact p_M_operate_b185 d v0 v1 v2 x6 x7 h7
        · refine gk_dconst0 (pc := 184) d_M_operate_184 ?_
          refine gk_weak [3, 4, 5, 0] (L' := [(0, va_rf v0), (1, .int v1), (2, .int v2), (5, .double x6)]) rfl ?_
          exact p_M_operate_b185 d v0 v1 v2 x6 (0x0000000000000000) h6
    · refine gk_aload_n (pc := 72) 2 d_M_operate_72 rfl ?_
      refine gk_iload_n (pc := 73) 1 d_M_operate_73 rfl ?_
      refine gk_callV (pc := 74) (d := (d + 3)) (w' := gv_I) (as := [.int x3]) (n := 1) 7 d_M_operate_74 rfl rfl rfl rfl (Nat.le_of_ble_eq_true rfl) tw_1797 tw_1799 tw_19 tw_99 cw_M_wantAny hy_M_wantAny (Nat.le_of_ble_eq_true rfl) (p_M_wantAny (d + 1) v0 x3 h2) fun x8 h8 => ?_
      refine gk_istore (pc := 77) (L' := [(5, .int x8), (4, .int x5), (3, .int x3), (0, va_rf v0), (1, .int v1), (2, .int v2)]) d_M_operate_77 (Nat.le_of_ble_eq_true rfl) rfl ?_
      refine gk_aload_n (pc := 79) 3 d_M_operate_79 rfl ?_
      refine gk_iload (pc := 80) 1 d_M_operate_80 rfl ?_
      refine gk_callV (pc := 82) (d := (d + 3)) (w' := gv_I) (as := [.int x5]) (n := 1) 7 d_M_operate_82 rfl rfl rfl rfl (Nat.le_of_ble_eq_true rfl) tw_1797 tw_1799 tw_19 tw_99 cw_M_wantAny hy_M_wantAny (Nat.le_of_ble_eq_true rfl) (p_M_wantAny (d + 1) v0 x5 h8) fun x9 h9 => ?_
      refine gk_istore (pc := 85) (L' := [(6, .int x9), (5, .int x8), (4, .int x5), (3, .int x3), (0, va_rf v0), (1, .int v1), (2, .int v2)]) d_M_operate_85 (Nat.le_of_ble_eq_true rfl) rfl ?_
      refine gk_aload_n (pc := 87) 4 d_M_operate_87 rfl ?_
      refine gk_getI (pc := 88) 7 11 d_M_operate_88 rfl (Nat.le_of_ble_eq_true rfl) tw_1656 fun x10 => ?_
      refine gk_if_ne (pc := 91) 133 d_M_operate_91 rfl (fun _ => ?_) (fun _ => ?_)
      · refine gk_aload_n (pc := 94) 4 d_M_operate_94 rfl ?_
        refine gk_iload_n (pc := 95) 5 d_M_operate_95 rfl ?_
        refine gk_bipush (pc := 96) (8 : Int32) d_M_operate_96 rfl ?_
        refine gk_icmp_ne (pc := 98) 105 d_M_operate_98 rfl (fun _ => ?_) (fun _ => ?_)
        · refine gk_iconst (pc := 101) (0 : Int32) d_M_operate_101 rfl ?_
          refine gk_goto (pc := 102) 119 d_M_operate_102 rfl ?_
          refine gk_weak [4, 6, 1, 0] (L' := [(0, va_rf v0), (2, .int v2), (5, .int x8), (6, .int x9)]) rfl ?_
          exact p_M_operate_b119 d v0 v2 x8 x9 v0 (0 : Int32) h9
        · refine gk_iload_n (pc := 105) 5 d_M_operate_105 rfl ?_
          refine gk_bipush (pc := 106) (9 : Int32) d_M_operate_106 rfl ?_
          refine gk_icmp_ne (pc := 108) 115 d_M_operate_108 rfl (fun _ => ?_) (fun _ => ?_)
          · refine gk_iconst (pc := 111) (1 : Int32) d_M_operate_111 rfl ?_
            refine gk_goto (pc := 112) 119 d_M_operate_112 rfl ?_
            refine gk_weak [4, 6, 1, 0] (L' := [(0, va_rf v0), (2, .int v2), (5, .int x8), (6, .int x9)]) rfl ?_
            exact p_M_operate_b119 d v0 v2 x8 x9 v0 (1 : Int32) h9
          · refine gk_iload_n (pc := 115) 5 d_M_operate_115 rfl ?_
            refine gk_bipush (pc := 116) (8 : Int32) d_M_operate_116 rfl ?_
            refine gk_isub (pc := 118) d_M_operate_118 ?_
            refine gk_weak [4, 6, 1, 0] (L' := [(0, va_rf v0), (2, .int v2), (5, .int x8), (6, .int x9)]) rfl ?_
            exact p_M_operate_b119 d v0 v2 x8 x9 v0 (v1 - (8 : Int32)) h9
      · refine gk_weak [4, 6] (L' := [(0, va_rf v0), (2, .int v2)]) rfl ?_
        exact p_M_operate_b133 d v0 v2 h9
  · exact gk_vret (pc := 45) rfl d_M_operate_45 rfl
theorem p_M_operate_b30 (d : Nat)  (v0 : Option Nat) (v1 : Int32) (v2 : Int32) (s0 : Option Nat) (h : gk_H) : gk_P gw_V (d + 4) y_M_operate b_M_operate 9 none [] (f_M_operate_b30  v0 v1 v2 s0 h) 30 [(0, va_rf v0), (1, .int v1), (2, .int v2)] [va_rf s0] h := by
  unfold f_M_operate_b30
  refine gk_iconst (pc := 30) (1 : Int32) d_M_operate_30 rfl ?_
  refine gk_goto (pc := 31) 35 d_M_operate_31 rfl ?_
  exact p_M_operate_b35 d v0 v1 v2 s0 (1 : Int32) h
theorem p_M_operate_b10 (d : Nat)  (v0 : Option Nat) (v1 : Int32) (s0 : Int32) (h : gk_H) : gk_P gw_V (d + 4) y_M_operate b_M_operate 9 none [] (f_M_operate_b10  v0 v1 s0 h) 10 [(0, va_rf v0), (1, .int v1)] [.int s0] h := by
  unfold f_M_operate_b10
  refine gk_istore_n (pc := 10) (L' := [(2, .int s0), (0, va_rf v0), (1, .int v1)]) d_M_operate_10 (Nat.le_of_ble_eq_true rfl) rfl ?_
  refine gk_aload_n (pc := 11) 1 d_M_operate_11 rfl ?_
  refine gk_iload_n (pc := 12) 2 d_M_operate_12 rfl ?_
  refine gk_if_lt (pc := 13) 30 d_M_operate_13 rfl (fun _ => ?_) (fun _ => ?_)
  · refine gk_weak [1, 2, 0] (L' := [(0, va_rf v0), (1, .int v1), (2, .int s0)]) rfl ?_
    exact p_M_operate_b30 d v0 v1 s0 v0 h
  · refine gk_iload_n (pc := 16) 2 d_M_operate_16 rfl ?_
    refine gk_bipush (pc := 17) (13 : Int32) d_M_operate_17 rfl ?_
    refine gk_icmp_gt (pc := 19) 30 d_M_operate_19 rfl (fun _ => ?_) (fun _ => ?_)
    · refine gk_weak [1, 2, 0] (L' := [(0, va_rf v0), (1, .int v1), (2, .int s0)]) rfl ?_
      exact p_M_operate_b30 d v0 v1 s0 v0 h
    · refine gk_aload_n (pc := 22) 1 d_M_operate_22 rfl ?_
      refine gk_getI (pc := 23) 7 3 d_M_operate_23 rfl (Nat.le_of_ble_eq_true rfl) tw_1648 fun x1 => ?_
      refine gk_iload_n (pc := 26) 0 d_M_operate_26 rfl ?_
      refine gk_icmp_ge (pc := 27) 34 d_M_operate_27 rfl (fun _ => ?_) (fun _ => ?_)
      · refine gk_iconst (pc := 34) (0 : Int32) d_M_operate_34 rfl ?_
        refine gk_weak [1, 2, 0] (L' := [(0, va_rf v0), (1, .int v1), (2, .int s0)]) rfl ?_
        exact p_M_operate_b35 d v0 v1 s0 v0 (0 : Int32) h
      · refine gk_weak [1, 2, 0] (L' := [(0, va_rf v0), (1, .int v1), (2, .int s0)]) rfl ?_
        exact p_M_operate_b30 d v0 v1 s0 v0 h
theorem w_M_operate (d : Nat) (a0 : Option Nat) (a1 : Int32) (h : gk_H) : gk_P gw_V (d + 4) y_M_operate b_M_operate 9 none [] (f_M_operate a0 a1 h) 0 [(0, va_rf a0), (1, .int a1)] [] h := by
  unfold f_M_operate
  refine gk_iload_n (pc := 0) 1 d_M_operate_0 rfl ?_
  refine gk_iconst (pc := 1) (2 : Int32) d_M_operate_1 rfl ?_
  refine gk_icmp_ge (pc := 2) 9 d_M_operate_2 rfl (fun _ => ?_) (fun _ => ?_)
  · refine gk_iconst (pc := 9) (2 : Int32) d_M_operate_9 rfl ?_
    exact p_M_operate_b10 d a0 a1 (2 : Int32) h
  · refine gk_iconst (pc := 5) (1 : Int32) d_M_operate_5 rfl ?_
    refine gk_goto (pc := 6) 10 d_M_operate_6 rfl ?_
    exact p_M_operate_b10 d a0 a1 (1 : Int32) h
theorem p_M_operate (d : Nat) (a0 : Option Nat) (a1 : Int32) (h : gk_H) : ∀ r h1, f_M_operate a0 a1 h = some (r, h1) → gk_M (d + 4) y_M_operate b_M_operate 9 none [va_rf a0, .int a1] h (.inl (gv_V r)) h1 :=
  fun r h1 e => gk_M_of2 (by decide +kernel) (by simp [lv_args, gk_cat_rf, gk_catI, gk_catJ, gk_catD, gv_V, gv_I, gv_J, gv_D, gv_R]) (by simp [lg_sl, gk_cat_rf, gk_catI, gk_catJ, gk_catD, gv_V, gv_I, gv_J, gv_D, gv_R]) (w_M_operate d a0 a1 h r h1 e)
theorem d_M_textTakes_0 : decode b_M_textTakes 0 = .ok (.iload_n 0, 1) := by decide +kernel
theorem d_M_textTakes_1 : decode b_M_textTakes 1 = .ok (.bipush 59, 2) := by decide +kernel
theorem d_M_textTakes_3 : decode b_M_textTakes 3 = .ok (.if_icmp .ge 8, 3) := by decide +kernel
theorem d_M_textTakes_6 : decode b_M_textTakes 6 = .ok (.bipush 12, 2) := by decide +kernel
theorem d_M_textTakes_8 : decode b_M_textTakes 8 = .ok (.goto 93, 3) := by decide +kernel
theorem d_M_textTakes_11 : decode b_M_textTakes 11 = .ok (.iload_n 0, 1) := by decide +kernel
theorem d_M_textTakes_12 : decode b_M_textTakes 12 = .ok (.bipush 59, 2) := by decide +kernel
theorem d_M_textTakes_14 : decode b_M_textTakes 14 = .ok (.if_icmp .ne 8, 3) := by decide +kernel
theorem d_M_textTakes_17 : decode b_M_textTakes 17 = .ok (.bipush 33, 2) := by decide +kernel
theorem d_M_textTakes_19 : decode b_M_textTakes 19 = .ok (.goto 82, 3) := by decide +kernel
theorem d_M_textTakes_22 : decode b_M_textTakes 22 = .ok (.iload_n 0, 1) := by decide +kernel
theorem d_M_textTakes_23 : decode b_M_textTakes 23 = .ok (.bipush 64, 2) := by decide +kernel
theorem d_M_textTakes_25 : decode b_M_textTakes 25 = .ok (.if_icmp .ge 8, 3) := by decide +kernel
theorem d_M_textTakes_28 : decode b_M_textTakes 28 = .ok (.bipush 11, 2) := by decide +kernel
theorem d_M_textTakes_30 : decode b_M_textTakes 30 = .ok (.goto 71, 3) := by decide +kernel
theorem d_M_textTakes_33 : decode b_M_textTakes 33 = .ok (.iload_n 0, 1) := by decide +kernel
theorem d_M_textTakes_34 : decode b_M_textTakes 34 = .ok (.bipush 64, 2) := by decide +kernel
theorem d_M_textTakes_36 : decode b_M_textTakes 36 = .ok (.if_icmp .ne 8, 3) := by decide +kernel
theorem d_M_textTakes_39 : decode b_M_textTakes 39 = .ok (.bipush 18, 2) := by decide +kernel
theorem d_M_textTakes_41 : decode b_M_textTakes 41 = .ok (.goto 60, 3) := by decide +kernel
theorem d_M_textTakes_44 : decode b_M_textTakes 44 = .ok (.iload_n 0, 1) := by decide +kernel
theorem d_M_textTakes_45 : decode b_M_textTakes 45 = .ok (.bipush 65, 2) := by decide +kernel
theorem d_M_textTakes_47 : decode b_M_textTakes 47 = .ok (.if_icmp .ne 8, 3) := by decide +kernel
theorem d_M_textTakes_50 : decode b_M_textTakes 50 = .ok (.bipush 22, 2) := by decide +kernel
theorem d_M_textTakes_52 : decode b_M_textTakes 52 = .ok (.goto 49, 3) := by decide +kernel
theorem d_M_textTakes_55 : decode b_M_textTakes 55 = .ok (.iload_n 0, 1) := by decide +kernel
theorem d_M_textTakes_56 : decode b_M_textTakes 56 = .ok (.bipush 66, 2) := by decide +kernel
theorem d_M_textTakes_58 : decode b_M_textTakes 58 = .ok (.if_icmp .ne 8, 3) := by decide +kernel
theorem d_M_textTakes_61 : decode b_M_textTakes 61 = .ok (.bipush 34, 2) := by decide +kernel
theorem d_M_textTakes_63 : decode b_M_textTakes 63 = .ok (.goto 38, 3) := by decide +kernel
theorem d_M_textTakes_66 : decode b_M_textTakes 66 = .ok (.iload_n 0, 1) := by decide +kernel
theorem d_M_textTakes_67 : decode b_M_textTakes 67 = .ok (.bipush 67, 2) := by decide +kernel
theorem d_M_textTakes_69 : decode b_M_textTakes 69 = .ok (.if_icmp .ne 8, 3) := by decide +kernel
theorem d_M_textTakes_72 : decode b_M_textTakes 72 = .ok (.bipush 44, 2) := by decide +kernel
theorem d_M_textTakes_74 : decode b_M_textTakes 74 = .ok (.goto 27, 3) := by decide +kernel
theorem d_M_textTakes_77 : decode b_M_textTakes 77 = .ok (.iload_n 0, 1) := by decide +kernel
theorem d_M_textTakes_78 : decode b_M_textTakes 78 = .ok (.bipush 70, 2) := by decide +kernel
theorem d_M_textTakes_80 : decode b_M_textTakes 80 = .ok (.if_icmp .ge 8, 3) := by decide +kernel
theorem d_M_textTakes_83 : decode b_M_textTakes 83 = .ok (.bipush 23, 2) := by decide +kernel
theorem d_M_textTakes_85 : decode b_M_textTakes 85 = .ok (.goto 16, 3) := by decide +kernel
theorem d_M_textTakes_88 : decode b_M_textTakes 88 = .ok (.iload_n 0, 1) := by decide +kernel
theorem d_M_textTakes_89 : decode b_M_textTakes 89 = .ok (.bipush 70, 2) := by decide +kernel
theorem d_M_textTakes_91 : decode b_M_textTakes 91 = .ok (.if_icmp .ne 8, 3) := by decide +kernel
theorem d_M_textTakes_94 : decode b_M_textTakes 94 = .ok (.bipush 22, 2) := by decide +kernel
theorem d_M_textTakes_96 : decode b_M_textTakes 96 = .ok (.goto 5, 3) := by decide +kernel
theorem d_M_textTakes_99 : decode b_M_textTakes 99 = .ok (.bipush 11, 2) := by decide +kernel
theorem d_M_textTakes_101 : decode b_M_textTakes 101 = .ok (.ireturn, 1) := by decide +kernel
theorem p_M_textTakes_b101 (d : Nat)  (s0 : Int32) (h : gk_H) : gk_P gw_I d y_M_textTakes b_M_textTakes 1 (some .int) [] (f_M_textTakes_b101  s0 h) 101 [] [.int s0] h := by
  unfold f_M_textTakes_b101
  exact gk_iret (pc := 101) rfl d_M_textTakes_101 rfl
theorem w_M_textTakes (d : Nat) (a0 : Int32) (h : gk_H) : gk_P gw_I d y_M_textTakes b_M_textTakes 1 (some .int) [] (f_M_textTakes a0 h) 0 [(0, .int a0)] [] h := by
  unfold f_M_textTakes
  refine gk_iload_n (pc := 0) 0 d_M_textTakes_0 rfl ?_
  refine gk_bipush (pc := 1) (59 : Int32) d_M_textTakes_1 rfl ?_
  refine gk_icmp_ge (pc := 3) 11 d_M_textTakes_3 rfl (fun _ => ?_) (fun _ => ?_)
  · refine gk_iload_n (pc := 11) 0 d_M_textTakes_11 rfl ?_
    refine gk_bipush (pc := 12) (59 : Int32) d_M_textTakes_12 rfl ?_
    refine gk_icmp_ne (pc := 14) 22 d_M_textTakes_14 rfl (fun _ => ?_) (fun _ => ?_)
    · refine gk_bipush (pc := 17) (33 : Int32) d_M_textTakes_17 rfl ?_
      refine gk_goto (pc := 19) 101 d_M_textTakes_19 rfl ?_
      refine gk_weak [] (L' := []) rfl ?_
      exact p_M_textTakes_b101 d (33 : Int32) h
    · refine gk_iload_n (pc := 22) 0 d_M_textTakes_22 rfl ?_
      refine gk_bipush (pc := 23) (64 : Int32) d_M_textTakes_23 rfl ?_
      refine gk_icmp_ge (pc := 25) 33 d_M_textTakes_25 rfl (fun _ => ?_) (fun _ => ?_)
      · refine gk_iload_n (pc := 33) 0 d_M_textTakes_33 rfl ?_
        refine gk_bipush (pc := 34) (64 : Int32) d_M_textTakes_34 rfl ?_
        refine gk_icmp_ne (pc := 36) 44 d_M_textTakes_36 rfl (fun _ => ?_) (fun _ => ?_)
        · refine gk_bipush (pc := 39) (18 : Int32) d_M_textTakes_39 rfl ?_
          refine gk_goto (pc := 41) 101 d_M_textTakes_41 rfl ?_
          refine gk_weak [] (L' := []) rfl ?_
          exact p_M_textTakes_b101 d (18 : Int32) h
        · refine gk_iload_n (pc := 44) 0 d_M_textTakes_44 rfl ?_
          refine gk_bipush (pc := 45) (65 : Int32) d_M_textTakes_45 rfl ?_
          refine gk_icmp_ne (pc := 47) 55 d_M_textTakes_47 rfl (fun _ => ?_) (fun _ => ?_)
          · refine gk_bipush (pc := 50) (22 : Int32) d_M_textTakes_50 rfl ?_
            refine gk_goto (pc := 52) 101 d_M_textTakes_52 rfl ?_
            refine gk_weak [] (L' := []) rfl ?_
            exact p_M_textTakes_b101 d (22 : Int32) h
          · refine gk_iload_n (pc := 55) 0 d_M_textTakes_55 rfl ?_
            refine gk_bipush (pc := 56) (66 : Int32) d_M_textTakes_56 rfl ?_
            refine gk_icmp_ne (pc := 58) 66 d_M_textTakes_58 rfl (fun _ => ?_) (fun _ => ?_)
            · refine gk_bipush (pc := 61) (34 : Int32) d_M_textTakes_61 rfl ?_
              refine gk_goto (pc := 63) 101 d_M_textTakes_63 rfl ?_
              refine gk_weak [] (L' := []) rfl ?_
              exact p_M_textTakes_b101 d (34 : Int32) h
            · refine gk_iload_n (pc := 66) 0 d_M_textTakes_66 rfl ?_
              refine gk_bipush (pc := 67) (67 : Int32) d_M_textTakes_67 rfl ?_
              refine gk_icmp_ne (pc := 69) 77 d_M_textTakes_69 rfl (fun _ => ?_) (fun _ => ?_)
              · refine gk_bipush (pc := 72) (44 : Int32) d_M_textTakes_72 rfl ?_
                refine gk_goto (pc := 74) 101 d_M_textTakes_74 rfl ?_
                refine gk_weak [] (L' := []) rfl ?_
                exact p_M_textTakes_b101 d (44 : Int32) h
              · refine gk_iload_n (pc := 77) 0 d_M_textTakes_77 rfl ?_
                refine gk_bipush (pc := 78) (70 : Int32) d_M_textTakes_78 rfl ?_
                refine gk_icmp_ge (pc := 80) 88 d_M_textTakes_80 rfl (fun _ => ?_) (fun _ => ?_)
                · refine gk_iload_n (pc := 88) 0 d_M_textTakes_88 rfl ?_
                  refine gk_bipush (pc := 89) (70 : Int32) d_M_textTakes_89 rfl ?_
                  refine gk_icmp_ne (pc := 91) 99 d_M_textTakes_91 rfl (fun _ => ?_) (fun _ => ?_)
                  · refine gk_bipush (pc := 94) (22 : Int32) d_M_textTakes_94 rfl ?_
                    refine gk_goto (pc := 96) 101 d_M_textTakes_96 rfl ?_
                    refine gk_weak [] (L' := []) rfl ?_
                    exact p_M_textTakes_b101 d (22 : Int32) h
                  · refine gk_bipush (pc := 99) (11 : Int32) d_M_textTakes_99 rfl ?_
                    refine gk_weak [] (L' := []) rfl ?_
                    exact p_M_textTakes_b101 d (11 : Int32) h
                · refine gk_bipush (pc := 83) (23 : Int32) d_M_textTakes_83 rfl ?_
                  refine gk_goto (pc := 85) 101 d_M_textTakes_85 rfl ?_
                  refine gk_weak [] (L' := []) rfl ?_
                  exact p_M_textTakes_b101 d (23 : Int32) h
      · refine gk_bipush (pc := 28) (11 : Int32) d_M_textTakes_28 rfl ?_
        refine gk_goto (pc := 30) 101 d_M_textTakes_30 rfl ?_
        refine gk_weak [] (L' := []) rfl ?_
        exact p_M_textTakes_b101 d (11 : Int32) h
  · refine gk_bipush (pc := 6) (12 : Int32) d_M_textTakes_6 rfl ?_
    refine gk_goto (pc := 8) 101 d_M_textTakes_8 rfl ?_
    refine gk_weak [] (L' := []) rfl ?_
    exact p_M_textTakes_b101 d (12 : Int32) h
theorem p_M_textTakes (d : Nat) (a0 : Int32) (h : gk_H) : ∀ r h1, f_M_textTakes a0 h = some (r, h1) → gk_M d y_M_textTakes b_M_textTakes 1 (some .int) [.int a0] h (.inl (gv_I r)) h1 :=
  fun r h1 e => gk_M_of2 (by decide +kernel) (by simp [lv_args, gk_cat_rf, gk_catI, gk_catJ, gk_catD, gv_V, gv_I, gv_J, gv_D, gv_R]) (by simp [lg_sl, gk_cat_rf, gk_catI, gk_catJ, gk_catD, gv_V, gv_I, gv_J, gv_D, gv_R]) (w_M_textTakes d a0 h r h1 e)
theorem d_M_takes_0 : decode b_M_takes 0 = .ok (.iload_n 0, 1) := by decide +kernel
theorem d_M_takes_1 : decode b_M_takes 1 = .ok (.bipush 10, 2) := by decide +kernel
theorem d_M_takes_3 : decode b_M_takes 3 = .ok (.if_icmp .lt 15, 3) := by decide +kernel
theorem d_M_takes_6 : decode b_M_takes 6 = .ok (.iload_n 0, 1) := by decide +kernel
theorem d_M_takes_7 : decode b_M_takes 7 = .ok (.bipush 13, 2) := by decide +kernel
theorem d_M_takes_9 : decode b_M_takes 9 = .ok (.if_icmp .eq 9, 3) := by decide +kernel
theorem d_M_takes_12 : decode b_M_takes 12 = .ok (.iload_n 0, 1) := by decide +kernel
theorem d_M_takes_13 : decode b_M_takes 13 = .ok (.bipush 14, 2) := by decide +kernel
theorem d_M_takes_15 : decode b_M_takes 15 = .ok (.if_icmp .ne 17, 3) := by decide +kernel
theorem d_M_takes_18 : decode b_M_takes 18 = .ok (.iload_n 0, 1) := by decide +kernel
theorem d_M_takes_19 : decode b_M_takes 19 = .ok (.bipush 8, 2) := by decide +kernel
theorem d_M_takes_21 : decode b_M_takes 21 = .ok (.if_icmp .ne 8, 3) := by decide +kernel
theorem d_M_takes_24 : decode b_M_takes 24 = .ok (.bipush 11, 2) := by decide +kernel
theorem d_M_takes_26 : decode b_M_takes 26 = .ok (.goto 5, 3) := by decide +kernel
theorem d_M_takes_29 : decode b_M_takes 29 = .ok (.bipush 18, 2) := by decide +kernel
theorem d_M_takes_31 : decode b_M_takes 31 = .ok (.ireturn, 1) := by decide +kernel
theorem d_M_takes_32 : decode b_M_takes 32 = .ok (.iload_n 0, 1) := by decide +kernel
theorem d_M_takes_33 : decode b_M_takes 33 = .ok (.bipush 20, 2) := by decide +kernel
theorem d_M_takes_35 : decode b_M_takes 35 = .ok (.if_icmp .ge 45, 3) := by decide +kernel
theorem d_M_takes_38 : decode b_M_takes 38 = .ok (.iload_n 0, 1) := by decide +kernel
theorem d_M_takes_39 : decode b_M_takes 39 = .ok (.bipush 15, 2) := by decide +kernel
theorem d_M_takes_41 : decode b_M_takes 41 = .ok (.if_icmp .ne 8, 3) := by decide +kernel
theorem d_M_takes_44 : decode b_M_takes 44 = .ok (.bipush 14, 2) := by decide +kernel
theorem d_M_takes_46 : decode b_M_takes 46 = .ok (.goto 33, 3) := by decide +kernel
theorem d_M_takes_49 : decode b_M_takes 49 = .ok (.iload_n 0, 1) := by decide +kernel
theorem d_M_takes_50 : decode b_M_takes 50 = .ok (.bipush 17, 2) := by decide +kernel
theorem d_M_takes_52 : decode b_M_takes 52 = .ok (.if_icmp .eq 9, 3) := by decide +kernel
theorem d_M_takes_55 : decode b_M_takes 55 = .ok (.iload_n 0, 1) := by decide +kernel
theorem d_M_takes_56 : decode b_M_takes 56 = .ok (.bipush 18, 2) := by decide +kernel
theorem d_M_takes_58 : decode b_M_takes 58 = .ok (.if_icmp .ne 8, 3) := by decide +kernel
theorem d_M_takes_61 : decode b_M_takes 61 = .ok (.bipush 23, 2) := by decide +kernel
theorem d_M_takes_63 : decode b_M_takes 63 = .ok (.goto 16, 3) := by decide +kernel
theorem d_M_takes_66 : decode b_M_takes 66 = .ok (.iload_n 0, 1) := by decide +kernel
theorem d_M_takes_67 : decode b_M_takes 67 = .ok (.bipush 19, 2) := by decide +kernel
theorem d_M_takes_69 : decode b_M_takes 69 = .ok (.if_icmp .ne 8, 3) := by decide +kernel
theorem d_M_takes_72 : decode b_M_takes 72 = .ok (.bipush 11, 2) := by decide +kernel
theorem d_M_takes_74 : decode b_M_takes 74 = .ok (.goto 5, 3) := by decide +kernel
theorem d_M_takes_77 : decode b_M_takes 77 = .ok (.bipush 22, 2) := by decide +kernel
theorem d_M_takes_79 : decode b_M_takes 79 = .ok (.ireturn, 1) := by decide +kernel
theorem d_M_takes_80 : decode b_M_takes 80 = .ok (.iload_n 0, 1) := by decide +kernel
theorem d_M_takes_81 : decode b_M_takes 81 = .ok (.bipush 35, 2) := by decide +kernel
theorem d_M_takes_83 : decode b_M_takes 83 = .ok (.if_icmp .ge 63, 3) := by decide +kernel
theorem d_M_takes_86 : decode b_M_takes 86 = .ok (.iload_n 0, 1) := by decide +kernel
theorem d_M_takes_87 : decode b_M_takes 87 = .ok (.bipush 22, 2) := by decide +kernel
theorem d_M_takes_89 : decode b_M_takes 89 = .ok (.if_icmp .lt 21, 3) := by decide +kernel
theorem d_M_takes_92 : decode b_M_takes 92 = .ok (.iload_n 0, 1) := by decide +kernel
theorem d_M_takes_93 : decode b_M_takes 93 = .ok (.bipush 27, 2) := by decide +kernel
theorem d_M_takes_95 : decode b_M_takes 95 = .ok (.if_icmp .eq 15, 3) := by decide +kernel
theorem d_M_takes_98 : decode b_M_takes 98 = .ok (.iload_n 0, 1) := by decide +kernel
theorem d_M_takes_99 : decode b_M_takes 99 = .ok (.bipush 29, 2) := by decide +kernel
theorem d_M_takes_101 : decode b_M_takes 101 = .ok (.if_icmp .eq 9, 3) := by decide +kernel
theorem d_M_takes_104 : decode b_M_takes 104 = .ok (.iload_n 0, 1) := by decide +kernel
theorem d_M_takes_105 : decode b_M_takes 105 = .ok (.bipush 30, 2) := by decide +kernel
theorem d_M_takes_107 : decode b_M_takes 107 = .ok (.if_icmp .ne 8, 3) := by decide +kernel
theorem d_M_takes_110 : decode b_M_takes 110 = .ok (.bipush 11, 2) := by decide +kernel
theorem d_M_takes_112 : decode b_M_takes 112 = .ok (.goto 33, 3) := by decide +kernel
theorem d_M_takes_115 : decode b_M_takes 115 = .ok (.iload_n 0, 1) := by decide +kernel
theorem d_M_takes_116 : decode b_M_takes 116 = .ok (.bipush 25, 2) := by decide +kernel
theorem d_M_takes_118 : decode b_M_takes 118 = .ok (.if_icmp .eq 9, 3) := by decide +kernel
theorem d_M_takes_121 : decode b_M_takes 121 = .ok (.iload_n 0, 1) := by decide +kernel
theorem d_M_takes_122 : decode b_M_takes 122 = .ok (.bipush 26, 2) := by decide +kernel
theorem d_M_takes_124 : decode b_M_takes 124 = .ok (.if_icmp .ne 8, 3) := by decide +kernel
theorem d_M_takes_127 : decode b_M_takes 127 = .ok (.bipush 18, 2) := by decide +kernel
theorem d_M_takes_129 : decode b_M_takes 129 = .ok (.goto 16, 3) := by decide +kernel
theorem d_M_takes_132 : decode b_M_takes 132 = .ok (.iload_n 0, 1) := by decide +kernel
theorem d_M_takes_133 : decode b_M_takes 133 = .ok (.bipush 32, 2) := by decide +kernel
theorem d_M_takes_135 : decode b_M_takes 135 = .ok (.if_icmp .le 8, 3) := by decide +kernel
theorem d_M_takes_138 : decode b_M_takes 138 = .ok (.bipush 12, 2) := by decide +kernel
theorem d_M_takes_140 : decode b_M_takes 140 = .ok (.goto 5, 3) := by decide +kernel
theorem d_M_takes_143 : decode b_M_takes 143 = .ok (.bipush 22, 2) := by decide +kernel
theorem d_M_takes_145 : decode b_M_takes 145 = .ok (.ireturn, 1) := by decide +kernel
theorem d_M_takes_146 : decode b_M_takes 146 = .ok (.iload_n 0, 1) := by decide +kernel
theorem d_M_takes_147 : decode b_M_takes 147 = .ok (.bipush 46, 2) := by decide +kernel
theorem d_M_takes_149 : decode b_M_takes 149 = .ok (.if_icmp .ge 60, 3) := by decide +kernel
theorem d_M_takes_152 : decode b_M_takes 152 = .ok (.iload_n 0, 1) := by decide +kernel
theorem d_M_takes_153 : decode b_M_takes 153 = .ok (.bipush 35, 2) := by decide +kernel
theorem d_M_takes_155 : decode b_M_takes 155 = .ok (.if_icmp .ne 8, 3) := by decide +kernel
theorem d_M_takes_158 : decode b_M_takes 158 = .ok (.bipush 23, 2) := by decide +kernel
theorem d_M_takes_160 : decode b_M_takes 160 = .ok (.goto 48, 3) := by decide +kernel
theorem d_M_takes_163 : decode b_M_takes 163 = .ok (.iload_n 0, 1) := by decide +kernel
theorem d_M_takes_164 : decode b_M_takes 164 = .ok (.bipush 38, 2) := by decide +kernel
theorem d_M_takes_166 : decode b_M_takes 166 = .ok (.if_icmp .ge 8, 3) := by decide +kernel
theorem d_M_takes_169 : decode b_M_takes 169 = .ok (.bipush 22, 2) := by decide +kernel
theorem d_M_takes_171 : decode b_M_takes 171 = .ok (.goto 37, 3) := by decide +kernel
theorem d_M_takes_174 : decode b_M_takes 174 = .ok (.iload_n 0, 1) := by decide +kernel
theorem d_M_takes_175 : decode b_M_takes 175 = .ok (.bipush 38, 2) := by decide +kernel
theorem d_M_takes_177 : decode b_M_takes 177 = .ok (.if_icmp .ne 8, 3) := by decide +kernel
theorem d_M_takes_180 : decode b_M_takes 180 = .ok (.bipush 28, 2) := by decide +kernel
theorem d_M_takes_182 : decode b_M_takes 182 = .ok (.goto 26, 3) := by decide +kernel
theorem d_M_takes_185 : decode b_M_takes 185 = .ok (.iload_n 0, 1) := by decide +kernel
theorem d_M_takes_186 : decode b_M_takes 186 = .ok (.bipush 42, 2) := by decide +kernel
theorem d_M_takes_188 : decode b_M_takes 188 = .ok (.if_icmp .ge 8, 3) := by decide +kernel
theorem d_M_takes_191 : decode b_M_takes 191 = .ok (.bipush 18, 2) := by decide +kernel
theorem d_M_takes_193 : decode b_M_takes 193 = .ok (.goto 15, 3) := by decide +kernel
theorem d_M_takes_196 : decode b_M_takes 196 = .ok (.iload_n 0, 1) := by decide +kernel
theorem d_M_takes_197 : decode b_M_takes 197 = .ok (.bipush 42, 2) := by decide +kernel
theorem d_M_takes_199 : decode b_M_takes 199 = .ok (.if_icmp .ne 8, 3) := by decide +kernel
theorem d_M_takes_202 : decode b_M_takes 202 = .ok (.bipush 11, 2) := by decide +kernel
theorem d_M_takes_204 : decode b_M_takes 204 = .ok (.goto 4, 3) := by decide +kernel
theorem d_M_takes_207 : decode b_M_takes 207 = .ok (.iconst 0, 1) := by decide +kernel
theorem d_M_takes_208 : decode b_M_takes 208 = .ok (.ireturn, 1) := by decide +kernel
theorem d_M_takes_209 : decode b_M_takes 209 = .ok (.iload_n 0, 1) := by decide +kernel
theorem d_M_takes_210 : decode b_M_takes 210 = .ok (.bipush 57, 2) := by decide +kernel
theorem d_M_takes_212 : decode b_M_takes 212 = .ok (.if_icmp .ge 6, 3) := by decide +kernel
theorem d_M_takes_215 : decode b_M_takes 215 = .ok (.bipush 11, 2) := by decide +kernel
theorem d_M_takes_217 : decode b_M_takes 217 = .ok (.ireturn, 1) := by decide +kernel
theorem d_M_takes_218 : decode b_M_takes 218 = .ok (.iload_n 0, 1) := by decide +kernel
theorem d_M_takes_219 : decode b_M_takes 219 = .ok (.bipush 74, 2) := by decide +kernel
theorem d_M_takes_221 : decode b_M_takes 221 = .ok (.if_icmp .ge 8, 3) := by decide +kernel
theorem d_M_takes_224 : decode b_M_takes 224 = .ok (.iload_n 0, 1) := by decide +kernel
theorem d_M_takes_225 : decode b_M_takes 225 = .ok (.invokestatic 237, 3) := by decide +kernel
theorem d_M_takes_228 : decode b_M_takes 228 = .ok (.ireturn, 1) := by decide +kernel
theorem d_M_takes_229 : decode b_M_takes 229 = .ok (.iload_n 0, 1) := by decide +kernel
theorem d_M_takes_230 : decode b_M_takes 230 = .ok (.bipush 81, 2) := by decide +kernel
theorem d_M_takes_232 : decode b_M_takes 232 = .ok (.if_icmp .ge 40, 3) := by decide +kernel
theorem d_M_takes_235 : decode b_M_takes 235 = .ok (.iload_n 0, 1) := by decide +kernel
theorem d_M_takes_236 : decode b_M_takes 236 = .ok (.bipush 76, 2) := by decide +kernel
theorem d_M_takes_238 : decode b_M_takes 238 = .ok (.if_icmp .eq 9, 3) := by decide +kernel
theorem d_M_takes_241 : decode b_M_takes 241 = .ok (.iload_n 0, 1) := by decide +kernel
theorem d_M_takes_242 : decode b_M_takes 242 = .ok (.bipush 77, 2) := by decide +kernel
theorem d_M_takes_244 : decode b_M_takes 244 = .ok (.if_icmp .ne 8, 3) := by decide +kernel
theorem d_M_takes_247 : decode b_M_takes 247 = .ok (.bipush 23, 2) := by decide +kernel
theorem d_M_takes_249 : decode b_M_takes 249 = .ok (.goto 22, 3) := by decide +kernel
theorem d_M_takes_252 : decode b_M_takes 252 = .ok (.iload_n 0, 1) := by decide +kernel
theorem d_M_takes_253 : decode b_M_takes 253 = .ok (.bipush 78, 2) := by decide +kernel
theorem d_M_takes_255 : decode b_M_takes 255 = .ok (.if_icmp .eq 9, 3) := by decide +kernel
theorem d_M_takes_258 : decode b_M_takes 258 = .ok (.iload_n 0, 1) := by decide +kernel
theorem d_M_takes_259 : decode b_M_takes 259 = .ok (.bipush 79, 2) := by decide +kernel
theorem d_M_takes_261 : decode b_M_takes 261 = .ok (.if_icmp .ne 8, 3) := by decide +kernel
theorem d_M_takes_264 : decode b_M_takes 264 = .ok (.bipush 34, 2) := by decide +kernel
theorem d_M_takes_266 : decode b_M_takes 266 = .ok (.goto 5, 3) := by decide +kernel
theorem d_M_takes_269 : decode b_M_takes 269 = .ok (.bipush 11, 2) := by decide +kernel
theorem d_M_takes_271 : decode b_M_takes 271 = .ok (.ireturn, 1) := by decide +kernel
theorem d_M_takes_272 : decode b_M_takes 272 = .ok (.iload_n 0, 1) := by decide +kernel
theorem d_M_takes_273 : decode b_M_takes 273 = .ok (.bipush 81, 2) := by decide +kernel
theorem d_M_takes_275 : decode b_M_takes 275 = .ok (.if_icmp .eq 9, 3) := by decide +kernel
theorem d_M_takes_278 : decode b_M_takes 278 = .ok (.iload_n 0, 1) := by decide +kernel
theorem d_M_takes_279 : decode b_M_takes 279 = .ok (.bipush 88, 2) := by decide +kernel
theorem d_M_takes_281 : decode b_M_takes 281 = .ok (.if_icmp .ne 8, 3) := by decide +kernel
theorem d_M_takes_284 : decode b_M_takes 284 = .ok (.bipush 33, 2) := by decide +kernel
theorem d_M_takes_286 : decode b_M_takes 286 = .ok (.goto 33, 3) := by decide +kernel
theorem d_M_takes_289 : decode b_M_takes 289 = .ok (.iload_n 0, 1) := by decide +kernel
theorem d_M_takes_290 : decode b_M_takes 290 = .ok (.bipush 85, 2) := by decide +kernel
theorem d_M_takes_292 : decode b_M_takes 292 = .ok (.if_icmp .ne 8, 3) := by decide +kernel
theorem d_M_takes_295 : decode b_M_takes 295 = .ok (.bipush 12, 2) := by decide +kernel
theorem d_M_takes_297 : decode b_M_takes 297 = .ok (.goto 22, 3) := by decide +kernel
theorem d_M_takes_300 : decode b_M_takes 300 = .ok (.iload_n 0, 1) := by decide +kernel
theorem d_M_takes_301 : decode b_M_takes 301 = .ok (.bipush 86, 2) := by decide +kernel
theorem d_M_takes_303 : decode b_M_takes 303 = .ok (.if_icmp .eq 9, 3) := by decide +kernel
theorem d_M_takes_306 : decode b_M_takes 306 = .ok (.iload_n 0, 1) := by decide +kernel
theorem d_M_takes_307 : decode b_M_takes 307 = .ok (.bipush 87, 2) := by decide +kernel
theorem d_M_takes_309 : decode b_M_takes 309 = .ok (.if_icmp .ne 8, 3) := by decide +kernel
theorem d_M_takes_312 : decode b_M_takes 312 = .ok (.bipush 22, 2) := by decide +kernel
theorem d_M_takes_314 : decode b_M_takes 314 = .ok (.goto 5, 3) := by decide +kernel
theorem d_M_takes_317 : decode b_M_takes 317 = .ok (.bipush 11, 2) := by decide +kernel
theorem d_M_takes_319 : decode b_M_takes 319 = .ok (.ireturn, 1) := by decide +kernel
theorem p_M_takes_b31 (d : Nat)  (s0 : Int32) (h : gk_H) : gk_P gw_I (d + 1) y_M_takes b_M_takes 1 (some .int) [] (f_M_takes_b31  s0 h) 31 [] [.int s0] h := by
  unfold f_M_takes_b31
  exact gk_iret (pc := 31) rfl d_M_takes_31 rfl
theorem p_M_takes_b18 (d : Nat)  (v0 : Int32) (h : gk_H) : gk_P gw_I (d + 1) y_M_takes b_M_takes 1 (some .int) [] (f_M_takes_b18  v0 h) 18 [(0, .int v0)] [] h := by
  unfold f_M_takes_b18
  refine gk_iload_n (pc := 18) 0 d_M_takes_18 rfl ?_
  refine gk_bipush (pc := 19) (8 : Int32) d_M_takes_19 rfl ?_
  refine gk_icmp_ne (pc := 21) 29 d_M_takes_21 rfl (fun _ => ?_) (fun _ => ?_)
  · refine gk_bipush (pc := 24) (11 : Int32) d_M_takes_24 rfl ?_
    refine gk_goto (pc := 26) 31 d_M_takes_26 rfl ?_
    refine gk_weak [] (L' := []) rfl ?_
    exact p_M_takes_b31 d (11 : Int32) h
  · refine gk_bipush (pc := 29) (18 : Int32) d_M_takes_29 rfl ?_
    refine gk_weak [] (L' := []) rfl ?_
    exact p_M_takes_b31 d (18 : Int32) h
theorem p_M_takes_b319 (d : Nat)  (s0 : Int32) (h : gk_H) : gk_P gw_I (d + 1) y_M_takes b_M_takes 1 (some .int) [] (f_M_takes_b319  s0 h) 319 [] [.int s0] h := by
  unfold f_M_takes_b319
  exact gk_iret (pc := 319) rfl d_M_takes_319 rfl
theorem p_M_takes_b284 (d : Nat)   (h : gk_H) : gk_P gw_I (d + 1) y_M_takes b_M_takes 1 (some .int) [] (f_M_takes_b284   h) 284 [] [] h := by
  unfold f_M_takes_b284
  refine gk_bipush (pc := 284) (33 : Int32) d_M_takes_284 rfl ?_
  refine gk_goto (pc := 286) 319 d_M_takes_286 rfl ?_
  exact p_M_takes_b319 d (33 : Int32) h
theorem p_M_takes_b312 (d : Nat)   (h : gk_H) : gk_P gw_I (d + 1) y_M_takes b_M_takes 1 (some .int) [] (f_M_takes_b312   h) 312 [] [] h := by
  unfold f_M_takes_b312
  refine gk_bipush (pc := 312) (22 : Int32) d_M_takes_312 rfl ?_
  refine gk_goto (pc := 314) 319 d_M_takes_314 rfl ?_
  exact p_M_takes_b319 d (22 : Int32) h
theorem p_M_takes_b271 (d : Nat)  (s0 : Int32) (h : gk_H) : gk_P gw_I (d + 1) y_M_takes b_M_takes 1 (some .int) [] (f_M_takes_b271  s0 h) 271 [] [.int s0] h := by
  unfold f_M_takes_b271
  exact gk_iret (pc := 271) rfl d_M_takes_271 rfl
theorem p_M_takes_b247 (d : Nat)   (h : gk_H) : gk_P gw_I (d + 1) y_M_takes b_M_takes 1 (some .int) [] (f_M_takes_b247   h) 247 [] [] h := by
  unfold f_M_takes_b247
  refine gk_bipush (pc := 247) (23 : Int32) d_M_takes_247 rfl ?_
  refine gk_goto (pc := 249) 271 d_M_takes_249 rfl ?_
  exact p_M_takes_b271 d (23 : Int32) h
theorem p_M_takes_b264 (d : Nat)   (h : gk_H) : gk_P gw_I (d + 1) y_M_takes b_M_takes 1 (some .int) [] (f_M_takes_b264   h) 264 [] [] h := by
  unfold f_M_takes_b264
  refine gk_bipush (pc := 264) (34 : Int32) d_M_takes_264 rfl ?_
  refine gk_goto (pc := 266) 271 d_M_takes_266 rfl ?_
  exact p_M_takes_b271 d (34 : Int32) h
theorem p_M_takes_b208 (d : Nat)  (s0 : Int32) (h : gk_H) : gk_P gw_I (d + 1) y_M_takes b_M_takes 1 (some .int) [] (f_M_takes_b208  s0 h) 208 [] [.int s0] h := by
  unfold f_M_takes_b208
  exact gk_iret (pc := 208) rfl d_M_takes_208 rfl
theorem p_M_takes_b145 (d : Nat)  (s0 : Int32) (h : gk_H) : gk_P gw_I (d + 1) y_M_takes b_M_takes 1 (some .int) [] (f_M_takes_b145  s0 h) 145 [] [.int s0] h := by
  unfold f_M_takes_b145
  exact gk_iret (pc := 145) rfl d_M_takes_145 rfl
theorem p_M_takes_b110 (d : Nat)   (h : gk_H) : gk_P gw_I (d + 1) y_M_takes b_M_takes 1 (some .int) [] (f_M_takes_b110   h) 110 [] [] h := by
  unfold f_M_takes_b110
  refine gk_bipush (pc := 110) (11 : Int32) d_M_takes_110 rfl ?_
  refine gk_goto (pc := 112) 145 d_M_takes_112 rfl ?_
  exact p_M_takes_b145 d (11 : Int32) h
theorem p_M_takes_b127 (d : Nat)   (h : gk_H) : gk_P gw_I (d + 1) y_M_takes b_M_takes 1 (some .int) [] (f_M_takes_b127   h) 127 [] [] h := by
  unfold f_M_takes_b127
  refine gk_bipush (pc := 127) (18 : Int32) d_M_takes_127 rfl ?_
  refine gk_goto (pc := 129) 145 d_M_takes_129 rfl ?_
  exact p_M_takes_b145 d (18 : Int32) h
theorem p_M_takes_b79 (d : Nat)  (s0 : Int32) (h : gk_H) : gk_P gw_I (d + 1) y_M_takes b_M_takes 1 (some .int) [] (f_M_takes_b79  s0 h) 79 [] [.int s0] h := by
  unfold f_M_takes_b79
  exact gk_iret (pc := 79) rfl d_M_takes_79 rfl
theorem p_M_takes_b61 (d : Nat)   (h : gk_H) : gk_P gw_I (d + 1) y_M_takes b_M_takes 1 (some .int) [] (f_M_takes_b61   h) 61 [] [] h := by
  unfold f_M_takes_b61
  refine gk_bipush (pc := 61) (23 : Int32) d_M_takes_61 rfl ?_
  refine gk_goto (pc := 63) 79 d_M_takes_63 rfl ?_
  exact p_M_takes_b79 d (23 : Int32) h
theorem w_M_takes (d : Nat) (a0 : Int32) (h : gk_H) : gk_P gw_I (d + 1) y_M_takes b_M_takes 1 (some .int) [] (f_M_takes a0 h) 0 [(0, .int a0)] [] h := by
  unfold f_M_takes
  refine gk_iload_n (pc := 0) 0 d_M_takes_0 rfl ?_
  refine gk_bipush (pc := 1) (10 : Int32) d_M_takes_1 rfl ?_
  refine gk_icmp_lt (pc := 3) 18 d_M_takes_3 rfl (fun _ => ?_) (fun _ => ?_)
  · exact p_M_takes_b18 d a0 h
  · refine gk_iload_n (pc := 6) 0 d_M_takes_6 rfl ?_
    refine gk_bipush (pc := 7) (13 : Int32) d_M_takes_7 rfl ?_
    refine gk_icmp_eq (pc := 9) 18 d_M_takes_9 rfl (fun _ => ?_) (fun _ => ?_)
    · exact p_M_takes_b18 d a0 h
    · refine gk_iload_n (pc := 12) 0 d_M_takes_12 rfl ?_
      refine gk_bipush (pc := 13) (14 : Int32) d_M_takes_13 rfl ?_
      refine gk_icmp_ne (pc := 15) 32 d_M_takes_15 rfl (fun _ => ?_) (fun _ => ?_)
      · exact p_M_takes_b18 d a0 h
      · refine gk_iload_n (pc := 32) 0 d_M_takes_32 rfl ?_
        refine gk_bipush (pc := 33) (20 : Int32) d_M_takes_33 rfl ?_
        refine gk_icmp_ge (pc := 35) 80 d_M_takes_35 rfl (fun _ => ?_) (fun _ => ?_)
        · refine gk_iload_n (pc := 80) 0 d_M_takes_80 rfl ?_
          refine gk_bipush (pc := 81) (35 : Int32) d_M_takes_81 rfl ?_
          refine gk_icmp_ge (pc := 83) 146 d_M_takes_83 rfl (fun _ => ?_) (fun _ => ?_)
          · refine gk_iload_n (pc := 146) 0 d_M_takes_146 rfl ?_
            refine gk_bipush (pc := 147) (46 : Int32) d_M_takes_147 rfl ?_
            refine gk_icmp_ge (pc := 149) 209 d_M_takes_149 rfl (fun _ => ?_) (fun _ => ?_)
            · refine gk_iload_n (pc := 209) 0 d_M_takes_209 rfl ?_
              refine gk_bipush (pc := 210) (57 : Int32) d_M_takes_210 rfl ?_
              refine gk_icmp_ge (pc := 212) 218 d_M_takes_212 rfl (fun _ => ?_) (fun _ => ?_)
              · refine gk_iload_n (pc := 218) 0 d_M_takes_218 rfl ?_
                refine gk_bipush (pc := 219) (74 : Int32) d_M_takes_219 rfl ?_
                refine gk_icmp_ge (pc := 221) 229 d_M_takes_221 rfl (fun _ => ?_) (fun _ => ?_)
                · refine gk_iload_n (pc := 229) 0 d_M_takes_229 rfl ?_
                  refine gk_bipush (pc := 230) (81 : Int32) d_M_takes_230 rfl ?_
                  refine gk_icmp_ge (pc := 232) 272 d_M_takes_232 rfl (fun _ => ?_) (fun _ => ?_)
                  · refine gk_iload_n (pc := 272) 0 d_M_takes_272 rfl ?_
                    refine gk_bipush (pc := 273) (81 : Int32) d_M_takes_273 rfl ?_
                    refine gk_icmp_eq (pc := 275) 284 d_M_takes_275 rfl (fun _ => ?_) (fun _ => ?_)
                    · refine gk_weak [] (L' := []) rfl ?_
                      exact p_M_takes_b284 d h
                    · refine gk_iload_n (pc := 278) 0 d_M_takes_278 rfl ?_
                      refine gk_bipush (pc := 279) (88 : Int32) d_M_takes_279 rfl ?_
                      refine gk_icmp_ne (pc := 281) 289 d_M_takes_281 rfl (fun _ => ?_) (fun _ => ?_)
                      · refine gk_weak [] (L' := []) rfl ?_
                        exact p_M_takes_b284 d h
                      · refine gk_iload_n (pc := 289) 0 d_M_takes_289 rfl ?_
                        refine gk_bipush (pc := 290) (85 : Int32) d_M_takes_290 rfl ?_
                        refine gk_icmp_ne (pc := 292) 300 d_M_takes_292 rfl (fun _ => ?_) (fun _ => ?_)
                        · refine gk_bipush (pc := 295) (12 : Int32) d_M_takes_295 rfl ?_
                          refine gk_goto (pc := 297) 319 d_M_takes_297 rfl ?_
                          refine gk_weak [] (L' := []) rfl ?_
                          exact p_M_takes_b319 d (12 : Int32) h
                        · refine gk_iload_n (pc := 300) 0 d_M_takes_300 rfl ?_
                          refine gk_bipush (pc := 301) (86 : Int32) d_M_takes_301 rfl ?_
                          refine gk_icmp_eq (pc := 303) 312 d_M_takes_303 rfl (fun _ => ?_) (fun _ => ?_)
                          · refine gk_weak [] (L' := []) rfl ?_
                            exact p_M_takes_b312 d h
                          · refine gk_iload_n (pc := 306) 0 d_M_takes_306 rfl ?_
                            refine gk_bipush (pc := 307) (87 : Int32) d_M_takes_307 rfl ?_
                            refine gk_icmp_ne (pc := 309) 317 d_M_takes_309 rfl (fun _ => ?_) (fun _ => ?_)
                            · refine gk_weak [] (L' := []) rfl ?_
                              exact p_M_takes_b312 d h
                            · refine gk_bipush (pc := 317) (11 : Int32) d_M_takes_317 rfl ?_
                              refine gk_weak [] (L' := []) rfl ?_
                              exact p_M_takes_b319 d (11 : Int32) h
                  · refine gk_iload_n (pc := 235) 0 d_M_takes_235 rfl ?_
                    refine gk_bipush (pc := 236) (76 : Int32) d_M_takes_236 rfl ?_
                    refine gk_icmp_eq (pc := 238) 247 d_M_takes_238 rfl (fun _ => ?_) (fun _ => ?_)
                    · refine gk_weak [] (L' := []) rfl ?_
                      exact p_M_takes_b247 d h
                    · refine gk_iload_n (pc := 241) 0 d_M_takes_241 rfl ?_
                      refine gk_bipush (pc := 242) (77 : Int32) d_M_takes_242 rfl ?_
                      refine gk_icmp_ne (pc := 244) 252 d_M_takes_244 rfl (fun _ => ?_) (fun _ => ?_)
                      · refine gk_weak [] (L' := []) rfl ?_
                        exact p_M_takes_b247 d h
                      · refine gk_iload_n (pc := 252) 0 d_M_takes_252 rfl ?_
                        refine gk_bipush (pc := 253) (78 : Int32) d_M_takes_253 rfl ?_
                        refine gk_icmp_eq (pc := 255) 264 d_M_takes_255 rfl (fun _ => ?_) (fun _ => ?_)
                        · refine gk_weak [] (L' := []) rfl ?_
                          exact p_M_takes_b264 d h
                        · refine gk_iload_n (pc := 258) 0 d_M_takes_258 rfl ?_
                          refine gk_bipush (pc := 259) (79 : Int32) d_M_takes_259 rfl ?_
                          refine gk_icmp_ne (pc := 261) 269 d_M_takes_261 rfl (fun _ => ?_) (fun _ => ?_)
                          · refine gk_weak [] (L' := []) rfl ?_
                            exact p_M_takes_b264 d h
                          · refine gk_bipush (pc := 269) (11 : Int32) d_M_takes_269 rfl ?_
                            refine gk_weak [] (L' := []) rfl ?_
                            exact p_M_takes_b271 d (11 : Int32) h
                · refine gk_iload_n (pc := 224) 0 d_M_takes_224 rfl ?_
                  refine gk_callS (pc := 225) (d := d) (w' := gv_I) (as := [.int a0]) (n := 1) d_M_takes_225 rfl rfl (Nat.le_of_ble_eq_true rfl) tw_1931 tw_1932 tw_99 cw_M_textTakes hy_M_textTakes (Nat.le_of_ble_eq_true rfl) (p_M_textTakes d a0 h) fun x1 h1 => ?_
                  exact gk_iret (pc := 228) rfl d_M_takes_228 rfl
              · refine gk_bipush (pc := 215) (11 : Int32) d_M_takes_215 rfl ?_
                exact gk_iret (pc := 217) rfl d_M_takes_217 rfl
            · refine gk_iload_n (pc := 152) 0 d_M_takes_152 rfl ?_
              refine gk_bipush (pc := 153) (35 : Int32) d_M_takes_153 rfl ?_
              refine gk_icmp_ne (pc := 155) 163 d_M_takes_155 rfl (fun _ => ?_) (fun _ => ?_)
              · refine gk_bipush (pc := 158) (23 : Int32) d_M_takes_158 rfl ?_
                refine gk_goto (pc := 160) 208 d_M_takes_160 rfl ?_
                refine gk_weak [] (L' := []) rfl ?_
                exact p_M_takes_b208 d (23 : Int32) h
              · refine gk_iload_n (pc := 163) 0 d_M_takes_163 rfl ?_
                refine gk_bipush (pc := 164) (38 : Int32) d_M_takes_164 rfl ?_
                refine gk_icmp_ge (pc := 166) 174 d_M_takes_166 rfl (fun _ => ?_) (fun _ => ?_)
                · refine gk_iload_n (pc := 174) 0 d_M_takes_174 rfl ?_
                  refine gk_bipush (pc := 175) (38 : Int32) d_M_takes_175 rfl ?_
                  refine gk_icmp_ne (pc := 177) 185 d_M_takes_177 rfl (fun _ => ?_) (fun _ => ?_)
                  · refine gk_bipush (pc := 180) (28 : Int32) d_M_takes_180 rfl ?_
                    refine gk_goto (pc := 182) 208 d_M_takes_182 rfl ?_
                    refine gk_weak [] (L' := []) rfl ?_
                    exact p_M_takes_b208 d (28 : Int32) h
                  · refine gk_iload_n (pc := 185) 0 d_M_takes_185 rfl ?_
                    refine gk_bipush (pc := 186) (42 : Int32) d_M_takes_186 rfl ?_
                    refine gk_icmp_ge (pc := 188) 196 d_M_takes_188 rfl (fun _ => ?_) (fun _ => ?_)
                    · refine gk_iload_n (pc := 196) 0 d_M_takes_196 rfl ?_
                      refine gk_bipush (pc := 197) (42 : Int32) d_M_takes_197 rfl ?_
                      refine gk_icmp_ne (pc := 199) 207 d_M_takes_199 rfl (fun _ => ?_) (fun _ => ?_)
                      · refine gk_bipush (pc := 202) (11 : Int32) d_M_takes_202 rfl ?_
                        refine gk_goto (pc := 204) 208 d_M_takes_204 rfl ?_
                        refine gk_weak [] (L' := []) rfl ?_
                        exact p_M_takes_b208 d (11 : Int32) h
                      · refine gk_iconst (pc := 207) (0 : Int32) d_M_takes_207 rfl ?_
                        refine gk_weak [] (L' := []) rfl ?_
                        exact p_M_takes_b208 d (0 : Int32) h
                    · refine gk_bipush (pc := 191) (18 : Int32) d_M_takes_191 rfl ?_
                      refine gk_goto (pc := 193) 208 d_M_takes_193 rfl ?_
                      refine gk_weak [] (L' := []) rfl ?_
                      exact p_M_takes_b208 d (18 : Int32) h
                · refine gk_bipush (pc := 169) (22 : Int32) d_M_takes_169 rfl ?_
                  refine gk_goto (pc := 171) 208 d_M_takes_171 rfl ?_
                  refine gk_weak [] (L' := []) rfl ?_
                  exact p_M_takes_b208 d (22 : Int32) h
          · refine gk_iload_n (pc := 86) 0 d_M_takes_86 rfl ?_
            refine gk_bipush (pc := 87) (22 : Int32) d_M_takes_87 rfl ?_
            refine gk_icmp_lt (pc := 89) 110 d_M_takes_89 rfl (fun _ => ?_) (fun _ => ?_)
            · refine gk_weak [] (L' := []) rfl ?_
              exact p_M_takes_b110 d h
            · refine gk_iload_n (pc := 92) 0 d_M_takes_92 rfl ?_
              refine gk_bipush (pc := 93) (27 : Int32) d_M_takes_93 rfl ?_
              refine gk_icmp_eq (pc := 95) 110 d_M_takes_95 rfl (fun _ => ?_) (fun _ => ?_)
              · refine gk_weak [] (L' := []) rfl ?_
                exact p_M_takes_b110 d h
              · refine gk_iload_n (pc := 98) 0 d_M_takes_98 rfl ?_
                refine gk_bipush (pc := 99) (29 : Int32) d_M_takes_99 rfl ?_
                refine gk_icmp_eq (pc := 101) 110 d_M_takes_101 rfl (fun _ => ?_) (fun _ => ?_)
                · refine gk_weak [] (L' := []) rfl ?_
                  exact p_M_takes_b110 d h
                · refine gk_iload_n (pc := 104) 0 d_M_takes_104 rfl ?_
                  refine gk_bipush (pc := 105) (30 : Int32) d_M_takes_105 rfl ?_
                  refine gk_icmp_ne (pc := 107) 115 d_M_takes_107 rfl (fun _ => ?_) (fun _ => ?_)
                  · refine gk_weak [] (L' := []) rfl ?_
                    exact p_M_takes_b110 d h
                  · refine gk_iload_n (pc := 115) 0 d_M_takes_115 rfl ?_
                    refine gk_bipush (pc := 116) (25 : Int32) d_M_takes_116 rfl ?_
                    refine gk_icmp_eq (pc := 118) 127 d_M_takes_118 rfl (fun _ => ?_) (fun _ => ?_)
                    · refine gk_weak [] (L' := []) rfl ?_
                      exact p_M_takes_b127 d h
                    · refine gk_iload_n (pc := 121) 0 d_M_takes_121 rfl ?_
                      refine gk_bipush (pc := 122) (26 : Int32) d_M_takes_122 rfl ?_
                      refine gk_icmp_ne (pc := 124) 132 d_M_takes_124 rfl (fun _ => ?_) (fun _ => ?_)
                      · refine gk_weak [] (L' := []) rfl ?_
                        exact p_M_takes_b127 d h
                      · refine gk_iload_n (pc := 132) 0 d_M_takes_132 rfl ?_
                        refine gk_bipush (pc := 133) (32 : Int32) d_M_takes_133 rfl ?_
                        refine gk_icmp_le (pc := 135) 143 d_M_takes_135 rfl (fun _ => ?_) (fun _ => ?_)
                        · refine gk_bipush (pc := 143) (22 : Int32) d_M_takes_143 rfl ?_
                          refine gk_weak [] (L' := []) rfl ?_
                          exact p_M_takes_b145 d (22 : Int32) h
                        · refine gk_bipush (pc := 138) (12 : Int32) d_M_takes_138 rfl ?_
                          refine gk_goto (pc := 140) 145 d_M_takes_140 rfl ?_
                          refine gk_weak [] (L' := []) rfl ?_
                          exact p_M_takes_b145 d (12 : Int32) h
        · refine gk_iload_n (pc := 38) 0 d_M_takes_38 rfl ?_
          refine gk_bipush (pc := 39) (15 : Int32) d_M_takes_39 rfl ?_
          refine gk_icmp_ne (pc := 41) 49 d_M_takes_41 rfl (fun _ => ?_) (fun _ => ?_)
          · refine gk_bipush (pc := 44) (14 : Int32) d_M_takes_44 rfl ?_
            refine gk_goto (pc := 46) 79 d_M_takes_46 rfl ?_
            refine gk_weak [] (L' := []) rfl ?_
            exact p_M_takes_b79 d (14 : Int32) h
          · refine gk_iload_n (pc := 49) 0 d_M_takes_49 rfl ?_
            refine gk_bipush (pc := 50) (17 : Int32) d_M_takes_50 rfl ?_
            refine gk_icmp_eq (pc := 52) 61 d_M_takes_52 rfl (fun _ => ?_) (fun _ => ?_)
            · refine gk_weak [] (L' := []) rfl ?_
              exact p_M_takes_b61 d h
            · refine gk_iload_n (pc := 55) 0 d_M_takes_55 rfl ?_
              refine gk_bipush (pc := 56) (18 : Int32) d_M_takes_56 rfl ?_
              refine gk_icmp_ne (pc := 58) 66 d_M_takes_58 rfl (fun _ => ?_) (fun _ => ?_)
              · refine gk_weak [] (L' := []) rfl ?_
                exact p_M_takes_b61 d h
              · refine gk_iload_n (pc := 66) 0 d_M_takes_66 rfl ?_
                refine gk_bipush (pc := 67) (19 : Int32) d_M_takes_67 rfl ?_
                refine gk_icmp_ne (pc := 69) 77 d_M_takes_69 rfl (fun _ => ?_) (fun _ => ?_)
                · refine gk_bipush (pc := 72) (11 : Int32) d_M_takes_72 rfl ?_
                  refine gk_goto (pc := 74) 79 d_M_takes_74 rfl ?_
                  refine gk_weak [] (L' := []) rfl ?_
                  exact p_M_takes_b79 d (11 : Int32) h
                · refine gk_bipush (pc := 77) (22 : Int32) d_M_takes_77 rfl ?_
                  refine gk_weak [] (L' := []) rfl ?_
                  exact p_M_takes_b79 d (22 : Int32) h
theorem p_M_takes (d : Nat) (a0 : Int32) (h : gk_H) : ∀ r h1, f_M_takes a0 h = some (r, h1) → gk_M (d + 1) y_M_takes b_M_takes 1 (some .int) [.int a0] h (.inl (gv_I r)) h1 :=
  fun r h1 e => gk_M_of2 (by decide +kernel) (by simp [lv_args, gk_cat_rf, gk_catI, gk_catJ, gk_catD, gv_V, gv_I, gv_J, gv_D, gv_R]) (by simp [lg_sl, gk_cat_rf, gk_catI, gk_catJ, gk_catD, gv_V, gv_I, gv_J, gv_D, gv_R]) (w_M_takes d a0 h r h1 e)
theorem d_M_howMany_0 : decode b_M_howMany 0 = .ok (.iconst 0, 1) := by decide +kernel
theorem d_M_howMany_1 : decode b_M_howMany 1 = .ok (.istore 4, 2) := by decide +kernel
theorem d_M_howMany_3 : decode b_M_howMany 3 = .ok (.iload_n 2, 1) := by decide +kernel
theorem d_M_howMany_4 : decode b_M_howMany 4 = .ok (.istore 5, 2) := by decide +kernel
theorem d_M_howMany_6 : decode b_M_howMany 6 = .ok (.iload 5, 2) := by decide +kernel
theorem d_M_howMany_8 : decode b_M_howMany 8 = .ok (.iload_n 2, 1) := by decide +kernel
theorem d_M_howMany_9 : decode b_M_howMany 9 = .ok (.iload_n 3, 1) := by decide +kernel
theorem d_M_howMany_10 : decode b_M_howMany 10 = .ok (.iadd, 1) := by decide +kernel
theorem d_M_howMany_11 : decode b_M_howMany 11 = .ok (.if_icmp .ge 235, 3) := by decide +kernel
theorem d_M_howMany_14 : decode b_M_howMany 14 = .ok (.aload_n 0, 1) := by decide +kernel
theorem d_M_howMany_15 : decode b_M_howMany 15 = .ok (.getfield 13, 3) := by decide +kernel
theorem d_M_howMany_18 : decode b_M_howMany 18 = .ok (.iload 5, 2) := by decide +kernel
theorem d_M_howMany_20 : decode b_M_howMany 20 = .ok (.iaload, 1) := by decide +kernel
theorem d_M_howMany_21 : decode b_M_howMany 21 = .ok (.iconst 5, 1) := by decide +kernel
theorem d_M_howMany_22 : decode b_M_howMany 22 = .ok (.if_icmp .ge 7, 3) := by decide +kernel
theorem d_M_howMany_25 : decode b_M_howMany 25 = .ok (.iconst 1, 1) := by decide +kernel
theorem d_M_howMany_26 : decode b_M_howMany 26 = .ok (.goto 4, 3) := by decide +kernel
theorem d_M_howMany_29 : decode b_M_howMany 29 = .ok (.iconst 0, 1) := by decide +kernel
theorem d_M_howMany_30 : decode b_M_howMany 30 = .ok (.istore 6, 2) := by decide +kernel
theorem d_M_howMany_32 : decode b_M_howMany 32 = .ok (.iconst 0, 1) := by decide +kernel
theorem d_M_howMany_33 : decode b_M_howMany 33 = .ok (.istore 7, 2) := by decide +kernel
theorem d_M_howMany_35 : decode b_M_howMany 35 = .ok (.iload 7, 2) := by decide +kernel
theorem d_M_howMany_37 : decode b_M_howMany 37 = .ok (.aload_n 0, 1) := by decide +kernel
theorem d_M_howMany_38 : decode b_M_howMany 38 = .ok (.getfield 17, 3) := by decide +kernel
theorem d_M_howMany_41 : decode b_M_howMany 41 = .ok (.iload 5, 2) := by decide +kernel
theorem d_M_howMany_43 : decode b_M_howMany 43 = .ok (.iaload, 1) := by decide +kernel
theorem d_M_howMany_44 : decode b_M_howMany 44 = .ok (.aload_n 0, 1) := by decide +kernel
theorem d_M_howMany_45 : decode b_M_howMany 45 = .ok (.getfield 20, 3) := by decide +kernel
theorem d_M_howMany_48 : decode b_M_howMany 48 = .ok (.iload 5, 2) := by decide +kernel
theorem d_M_howMany_50 : decode b_M_howMany 50 = .ok (.iaload, 1) := by decide +kernel
theorem d_M_howMany_51 : decode b_M_howMany 51 = .ok (.imul, 1) := by decide +kernel
theorem d_M_howMany_52 : decode b_M_howMany 52 = .ok (.if_icmp .ge 188, 3) := by decide +kernel
theorem d_M_howMany_55 : decode b_M_howMany 55 = .ok (.bipush 16, 2) := by decide +kernel
theorem d_M_howMany_57 : decode b_M_howMany 57 = .ok (.iload 5, 2) := by decide +kernel
theorem d_M_howMany_59 : decode b_M_howMany 59 = .ok (.imul, 1) := by decide +kernel
theorem d_M_howMany_60 : decode b_M_howMany 60 = .ok (.iload 7, 2) := by decide +kernel
theorem d_M_howMany_62 : decode b_M_howMany 62 = .ok (.iadd, 1) := by decide +kernel
theorem d_M_howMany_63 : decode b_M_howMany 63 = .ok (.istore 8, 2) := by decide +kernel
theorem d_M_howMany_65 : decode b_M_howMany 65 = .ok (.iload_n 1, 1) := by decide +kernel
theorem d_M_howMany_66 : decode b_M_howMany 66 = .ok (.bipush 8, 2) := by decide +kernel
theorem d_M_howMany_68 : decode b_M_howMany 68 = .ok (.if_icmp .ne 42, 3) := by decide +kernel
theorem d_M_howMany_71 : decode b_M_howMany 71 = .ok (.aload_n 0, 1) := by decide +kernel
theorem d_M_howMany_72 : decode b_M_howMany 72 = .ok (.getfield 23, 3) := by decide +kernel
theorem d_M_howMany_75 : decode b_M_howMany 75 = .ok (.iload 8, 2) := by decide +kernel
theorem d_M_howMany_77 : decode b_M_howMany 77 = .ok (.iaload, 1) := by decide +kernel
theorem d_M_howMany_78 : decode b_M_howMany 78 = .ok (.ifCond .eq 24, 3) := by decide +kernel
theorem d_M_howMany_81 : decode b_M_howMany 81 = .ok (.aload_n 0, 1) := by decide +kernel
theorem d_M_howMany_82 : decode b_M_howMany 82 = .ok (.getfield 23, 3) := by decide +kernel
theorem d_M_howMany_85 : decode b_M_howMany 85 = .ok (.iload 8, 2) := by decide +kernel
theorem d_M_howMany_87 : decode b_M_howMany 87 = .ok (.iaload, 1) := by decide +kernel
theorem d_M_howMany_88 : decode b_M_howMany 88 = .ok (.iconst 2, 1) := by decide +kernel
theorem d_M_howMany_89 : decode b_M_howMany 89 = .ok (.if_icmp .ne 17, 3) := by decide +kernel
theorem d_M_howMany_92 : decode b_M_howMany 92 = .ok (.aload_n 0, 1) := by decide +kernel
theorem d_M_howMany_93 : decode b_M_howMany 93 = .ok (.getfield 30, 3) := by decide +kernel
theorem d_M_howMany_96 : decode b_M_howMany 96 = .ok (.iload 8, 2) := by decide +kernel
theorem d_M_howMany_98 : decode b_M_howMany 98 = .ok (.iaload, 1) := by decide +kernel
theorem d_M_howMany_99 : decode b_M_howMany 99 = .ok (.ifCond .ne 7, 3) := by decide +kernel
theorem d_M_howMany_102 : decode b_M_howMany 102 = .ok (.iconst 1, 1) := by decide +kernel
theorem d_M_howMany_103 : decode b_M_howMany 103 = .ok (.goto 113, 3) := by decide +kernel
theorem d_M_howMany_106 : decode b_M_howMany 106 = .ok (.iconst 0, 1) := by decide +kernel
theorem d_M_howMany_107 : decode b_M_howMany 107 = .ok (.goto 109, 3) := by decide +kernel
theorem d_M_howMany_110 : decode b_M_howMany 110 = .ok (.iload_n 1, 1) := by decide +kernel
theorem d_M_howMany_111 : decode b_M_howMany 111 = .ok (.bipush 7, 2) := by decide +kernel
theorem d_M_howMany_113 : decode b_M_howMany 113 = .ok (.if_icmp .ne 26, 3) := by decide +kernel
theorem d_M_howMany_116 : decode b_M_howMany 116 = .ok (.iload 6, 2) := by decide +kernel
theorem d_M_howMany_118 : decode b_M_howMany 118 = .ok (.ifCond .ne 13, 3) := by decide +kernel
theorem d_M_howMany_121 : decode b_M_howMany 121 = .ok (.aload_n 0, 1) := by decide +kernel
theorem d_M_howMany_122 : decode b_M_howMany 122 = .ok (.getfield 23, 3) := by decide +kernel
theorem d_M_howMany_125 : decode b_M_howMany 125 = .ok (.iload 8, 2) := by decide +kernel
theorem d_M_howMany_127 : decode b_M_howMany 127 = .ok (.iaload, 1) := by decide +kernel
theorem d_M_howMany_128 : decode b_M_howMany 128 = .ok (.ifCond .le 7, 3) := by decide +kernel
theorem d_M_howMany_131 : decode b_M_howMany 131 = .ok (.iconst 1, 1) := by decide +kernel
theorem d_M_howMany_132 : decode b_M_howMany 132 = .ok (.goto 84, 3) := by decide +kernel
theorem d_M_howMany_135 : decode b_M_howMany 135 = .ok (.iconst 0, 1) := by decide +kernel
theorem d_M_howMany_136 : decode b_M_howMany 136 = .ok (.goto 80, 3) := by decide +kernel
theorem d_M_howMany_139 : decode b_M_howMany 139 = .ok (.aload_n 0, 1) := by decide +kernel
theorem d_M_howMany_140 : decode b_M_howMany 140 = .ok (.getfield 23, 3) := by decide +kernel
theorem d_M_howMany_143 : decode b_M_howMany 143 = .ok (.iload 8, 2) := by decide +kernel
theorem d_M_howMany_145 : decode b_M_howMany 145 = .ok (.iaload, 1) := by decide +kernel
theorem d_M_howMany_146 : decode b_M_howMany 146 = .ok (.iconst 1, 1) := by decide +kernel
theorem d_M_howMany_147 : decode b_M_howMany 147 = .ok (.if_icmp .eq 64, 3) := by decide +kernel
theorem d_M_howMany_150 : decode b_M_howMany 150 = .ok (.iload 6, 2) := by decide +kernel
theorem d_M_howMany_152 : decode b_M_howMany 152 = .ok (.ifCond .eq 63, 3) := by decide +kernel
theorem d_M_howMany_155 : decode b_M_howMany 155 = .ok (.aload_n 0, 1) := by decide +kernel
theorem d_M_howMany_156 : decode b_M_howMany 156 = .ok (.getfield 23, 3) := by decide +kernel
theorem d_M_howMany_159 : decode b_M_howMany 159 = .ok (.iload 8, 2) := by decide +kernel
theorem d_M_howMany_161 : decode b_M_howMany 161 = .ok (.iaload, 1) := by decide +kernel
theorem d_M_howMany_162 : decode b_M_howMany 162 = .ok (.ifCond .eq 49, 3) := by decide +kernel
theorem d_M_howMany_165 : decode b_M_howMany 165 = .ok (.aload_n 0, 1) := by decide +kernel
theorem d_M_howMany_166 : decode b_M_howMany 166 = .ok (.getfield 23, 3) := by decide +kernel
theorem d_M_howMany_169 : decode b_M_howMany 169 = .ok (.iload 8, 2) := by decide +kernel
theorem d_M_howMany_171 : decode b_M_howMany 171 = .ok (.iaload, 1) := by decide +kernel
theorem d_M_howMany_172 : decode b_M_howMany 172 = .ok (.iconst 3, 1) := by decide +kernel
theorem d_M_howMany_173 : decode b_M_howMany 173 = .ok (.if_icmp .eq 38, 3) := by decide +kernel
theorem d_M_howMany_176 : decode b_M_howMany 176 = .ok (.aload_n 0, 1) := by decide +kernel
theorem d_M_howMany_177 : decode b_M_howMany 177 = .ok (.getfield 23, 3) := by decide +kernel
theorem d_M_howMany_180 : decode b_M_howMany 180 = .ok (.iload 8, 2) := by decide +kernel
theorem d_M_howMany_182 : decode b_M_howMany 182 = .ok (.iaload, 1) := by decide +kernel
theorem d_M_howMany_183 : decode b_M_howMany 183 = .ok (.iconst 2, 1) := by decide +kernel
theorem d_M_howMany_184 : decode b_M_howMany 184 = .ok (.if_icmp .ne 31, 3) := by decide +kernel
theorem d_M_howMany_187 : decode b_M_howMany 187 = .ok (.aload_n 0, 1) := by decide +kernel
theorem d_M_howMany_188 : decode b_M_howMany 188 = .ok (.aload_n 0, 1) := by decide +kernel
theorem d_M_howMany_189 : decode b_M_howMany 189 = .ok (.getfield 34, 3) := by decide +kernel
theorem d_M_howMany_192 : decode b_M_howMany 192 = .ok (.sipush 256, 3) := by decide +kernel
theorem d_M_howMany_195 : decode b_M_howMany 195 = .ok (.iload 8, 2) := by decide +kernel
theorem d_M_howMany_197 : decode b_M_howMany 197 = .ok (.imul, 1) := by decide +kernel
theorem d_M_howMany_198 : decode b_M_howMany 198 = .ok (.aload_n 0, 1) := by decide +kernel
theorem d_M_howMany_199 : decode b_M_howMany 199 = .ok (.getfield 30, 3) := by decide +kernel
theorem d_M_howMany_202 : decode b_M_howMany 202 = .ok (.iload 8, 2) := by decide +kernel
theorem d_M_howMany_204 : decode b_M_howMany 204 = .ok (.iaload, 1) := by decide +kernel
theorem d_M_howMany_205 : decode b_M_howMany 205 = .ok (.invokevirtual 133, 3) := by decide +kernel
theorem d_M_howMany_208 : decode b_M_howMany 208 = .ok (.ifCond .eq 7, 3) := by decide +kernel
theorem d_M_howMany_211 : decode b_M_howMany 211 = .ok (.iconst 1, 1) := by decide +kernel
theorem d_M_howMany_212 : decode b_M_howMany 212 = .ok (.goto 4, 3) := by decide +kernel
theorem d_M_howMany_215 : decode b_M_howMany 215 = .ok (.iconst 0, 1) := by decide +kernel
theorem d_M_howMany_216 : decode b_M_howMany 216 = .ok (.istore 9, 2) := by decide +kernel
theorem d_M_howMany_218 : decode b_M_howMany 218 = .ok (.iload 9, 2) := by decide +kernel
theorem d_M_howMany_220 : decode b_M_howMany 220 = .ok (.ifCond .eq 10, 3) := by decide +kernel
theorem d_M_howMany_223 : decode b_M_howMany 223 = .ok (.iload 4, 2) := by decide +kernel
theorem d_M_howMany_225 : decode b_M_howMany 225 = .ok (.iconst 1, 1) := by decide +kernel
theorem d_M_howMany_226 : decode b_M_howMany 226 = .ok (.iadd, 1) := by decide +kernel
theorem d_M_howMany_227 : decode b_M_howMany 227 = .ok (.goto 5, 3) := by decide +kernel
theorem d_M_howMany_230 : decode b_M_howMany 230 = .ok (.iload 4, 2) := by decide +kernel
theorem d_M_howMany_232 : decode b_M_howMany 232 = .ok (.istore 4, 2) := by decide +kernel
theorem d_M_howMany_234 : decode b_M_howMany 234 = .ok (.iinc 7 1, 3) := by decide +kernel
theorem d_M_howMany_237 : decode b_M_howMany 237 = .ok (.goto (-202), 3) := by decide +kernel
theorem d_M_howMany_240 : decode b_M_howMany 240 = .ok (.iinc 5 1, 3) := by decide +kernel
theorem d_M_howMany_243 : decode b_M_howMany 243 = .ok (.goto (-237), 3) := by decide +kernel
theorem d_M_howMany_246 : decode b_M_howMany 246 = .ok (.iload 4, 2) := by decide +kernel
theorem d_M_howMany_248 : decode b_M_howMany 248 = .ok (.ireturn, 1) := by decide +kernel
theorem p_M_howMany_b232 (d : Nat) (b6 : Option Nat → Int32 → Int32 → Int32 → Int32 → Int32 → gk_H → Option (Int32 × gk_H)) (q6 : ∀ (v0 : Option Nat) (v1 : Int32) (v2 : Int32) (v3 : Int32) (v4 : Int32) (v5 : Int32) (h : gk_H), gk_P gw_I (d + 2) y_M_howMany b_M_howMany 10 (some .int) [] (b6 v0 v1 v2 v3 v4 v5 h) 6 [(0, va_rf v0), (1, .int v1), (2, .int v2), (3, .int v3), (4, .int v4), (5, .int v5)] [] h) (b35 : Option Nat → Int32 → Int32 → Int32 → Int32 → Int32 → Int32 → Int32 → gk_H → Option (Int32 × gk_H)) (q35 : ∀ (v0 : Option Nat) (v1 : Int32) (v2 : Int32) (v3 : Int32) (v4 : Int32) (v5 : Int32) (v6 : Int32) (v7 : Int32) (h : gk_H), gk_P gw_I (d + 2) y_M_howMany b_M_howMany 10 (some .int) [] (b35 v0 v1 v2 v3 v4 v5 v6 v7 h) 35 [(0, va_rf v0), (1, .int v1), (2, .int v2), (3, .int v3), (4, .int v4), (5, .int v5), (6, .int v6), (7, .int v7)] [] h) (v0 : Option Nat) (v1 : Int32) (v2 : Int32) (v3 : Int32) (v5 : Int32) (v6 : Int32) (v7 : Int32) (s0 : Int32) (h : gk_H) : gk_P gw_I (d + 2) y_M_howMany b_M_howMany 10 (some .int) [] (f_M_howMany_b232 b6 b35 v0 v1 v2 v3 v5 v6 v7 s0 h) 232 [(0, va_rf v0), (1, .int v1), (2, .int v2), (3, .int v3), (5, .int v5), (6, .int v6), (7, .int v7)] [.int s0] h := by
  unfold f_M_howMany_b232
  refine gk_istore (pc := 232) (L' := [(4, .int s0), (0, va_rf v0), (1, .int v1), (2, .int v2), (3, .int v3), (5, .int v5), (6, .int v6), (7, .int v7)]) d_M_howMany_232 (Nat.le_of_ble_eq_true rfl) rfl ?_
  refine gk_iincN (pc := 234) 7 (1 : Int32) (L' := fun x1 => [(7, .int x1), (4, .int s0), (0, va_rf v0), (1, .int v1), (2, .int v2), (3, .int v3), (5, .int v5), (6, .int v6)]) d_M_howMany_234 rfl rfl (Nat.le_of_ble_eq_true rfl) (fun _ => rfl) fun x1 => ?_
  refine gk_goto (pc := 237) 35 d_M_howMany_237 rfl ?_
  refine gk_weak [2, 3, 4, 5, 1, 6, 7, 0] (L' := [(0, va_rf v0), (1, .int v1), (2, .int v2), (3, .int v3), (4, .int s0), (5, .int v5), (6, .int v6), (7, .int x1)]) rfl ?_
  exact q35 v0 v1 v2 v3 s0 v5 v6 x1 h
theorem p_M_howMany_b216 (d : Nat) (b6 : Option Nat → Int32 → Int32 → Int32 → Int32 → Int32 → gk_H → Option (Int32 × gk_H)) (q6 : ∀ (v0 : Option Nat) (v1 : Int32) (v2 : Int32) (v3 : Int32) (v4 : Int32) (v5 : Int32) (h : gk_H), gk_P gw_I (d + 2) y_M_howMany b_M_howMany 10 (some .int) [] (b6 v0 v1 v2 v3 v4 v5 h) 6 [(0, va_rf v0), (1, .int v1), (2, .int v2), (3, .int v3), (4, .int v4), (5, .int v5)] [] h) (b35 : Option Nat → Int32 → Int32 → Int32 → Int32 → Int32 → Int32 → Int32 → gk_H → Option (Int32 × gk_H)) (q35 : ∀ (v0 : Option Nat) (v1 : Int32) (v2 : Int32) (v3 : Int32) (v4 : Int32) (v5 : Int32) (v6 : Int32) (v7 : Int32) (h : gk_H), gk_P gw_I (d + 2) y_M_howMany b_M_howMany 10 (some .int) [] (b35 v0 v1 v2 v3 v4 v5 v6 v7 h) 35 [(0, va_rf v0), (1, .int v1), (2, .int v2), (3, .int v3), (4, .int v4), (5, .int v5), (6, .int v6), (7, .int v7)] [] h) (v0 : Option Nat) (v1 : Int32) (v2 : Int32) (v3 : Int32) (v4 : Int32) (v5 : Int32) (v6 : Int32) (v7 : Int32) (s0 : Int32) (h : gk_H) : gk_P gw_I (d + 2) y_M_howMany b_M_howMany 10 (some .int) [] (f_M_howMany_b216 b6 b35 v0 v1 v2 v3 v4 v5 v6 v7 s0 h) 216 [(0, va_rf v0), (1, .int v1), (2, .int v2), (3, .int v3), (4, .int v4), (5, .int v5), (6, .int v6), (7, .int v7)] [.int s0] h := by
  unfold f_M_howMany_b216
  refine gk_istore (pc := 216) (L' := [(9, .int s0), (0, va_rf v0), (1, .int v1), (2, .int v2), (3, .int v3), (4, .int v4), (5, .int v5), (6, .int v6), (7, .int v7)]) d_M_howMany_216 (Nat.le_of_ble_eq_true rfl) rfl ?_
  refine gk_iload (pc := 218) 0 d_M_howMany_218 rfl ?_
  refine gk_if_eq (pc := 220) 230 d_M_howMany_220 rfl (fun _ => ?_) (fun _ => ?_)
  · refine gk_iload (pc := 230) 5 d_M_howMany_230 rfl ?_
    refine gk_weak [1, 2, 3, 4, 6, 7, 8] (L' := [(0, va_rf v0), (1, .int v1), (2, .int v2), (3, .int v3), (5, .int v5), (6, .int v6), (7, .int v7)]) rfl ?_
    exact p_M_howMany_b232 d b6 q6 b35 q35 v0 v1 v2 v3 v5 v6 v7 v4 h
  · refine gk_iload (pc := 223) 5 d_M_howMany_223 rfl ?_
    refine gk_iconst (pc := 225) (1 : Int32) d_M_howMany_225 rfl ?_
    refine gk_iadd (pc := 226) d_M_howMany_226 ?_
    refine gk_goto (pc := 227) 232 d_M_howMany_227 rfl ?_
    refine gk_weak [1, 2, 3, 4, 6, 7, 8] (L' := [(0, va_rf v0), (1, .int v1), (2, .int v2), (3, .int v3), (5, .int v5), (6, .int v6), (7, .int v7)]) rfl ?_
    exact p_M_howMany_b232 d b6 q6 b35 q35 v0 v1 v2 v3 v5 v6 v7 (v4 + (1 : Int32)) h
theorem p_M_howMany_b211 (d : Nat) (b6 : Option Nat → Int32 → Int32 → Int32 → Int32 → Int32 → gk_H → Option (Int32 × gk_H)) (q6 : ∀ (v0 : Option Nat) (v1 : Int32) (v2 : Int32) (v3 : Int32) (v4 : Int32) (v5 : Int32) (h : gk_H), gk_P gw_I (d + 2) y_M_howMany b_M_howMany 10 (some .int) [] (b6 v0 v1 v2 v3 v4 v5 h) 6 [(0, va_rf v0), (1, .int v1), (2, .int v2), (3, .int v3), (4, .int v4), (5, .int v5)] [] h) (b35 : Option Nat → Int32 → Int32 → Int32 → Int32 → Int32 → Int32 → Int32 → gk_H → Option (Int32 × gk_H)) (q35 : ∀ (v0 : Option Nat) (v1 : Int32) (v2 : Int32) (v3 : Int32) (v4 : Int32) (v5 : Int32) (v6 : Int32) (v7 : Int32) (h : gk_H), gk_P gw_I (d + 2) y_M_howMany b_M_howMany 10 (some .int) [] (b35 v0 v1 v2 v3 v4 v5 v6 v7 h) 35 [(0, va_rf v0), (1, .int v1), (2, .int v2), (3, .int v3), (4, .int v4), (5, .int v5), (6, .int v6), (7, .int v7)] [] h) (v0 : Option Nat) (v1 : Int32) (v2 : Int32) (v3 : Int32) (v4 : Int32) (v5 : Int32) (v6 : Int32) (v7 : Int32) (h : gk_H) : gk_P gw_I (d + 2) y_M_howMany b_M_howMany 10 (some .int) [] (f_M_howMany_b211 b6 b35 v0 v1 v2 v3 v4 v5 v6 v7 h) 211 [(0, va_rf v0), (1, .int v1), (2, .int v2), (3, .int v3), (4, .int v4), (5, .int v5), (6, .int v6), (7, .int v7)] [] h := by
  unfold f_M_howMany_b211
  refine gk_iconst (pc := 211) (1 : Int32) d_M_howMany_211 rfl ?_
  refine gk_goto (pc := 212) 216 d_M_howMany_212 rfl ?_
  exact p_M_howMany_b216 d b6 q6 b35 q35 v0 v1 v2 v3 v4 v5 v6 v7 (1 : Int32) h
theorem p_M_howMany_b215 (d : Nat) (b6 : Option Nat → Int32 → Int32 → Int32 → Int32 → Int32 → gk_H → Option (Int32 × gk_H)) (q6 : ∀ (v0 : Option Nat) (v1 : Int32) (v2 : Int32) (v3 : Int32) (v4 : Int32) (v5 : Int32) (h : gk_H), gk_P gw_I (d + 2) y_M_howMany b_M_howMany 10 (some .int) [] (b6 v0 v1 v2 v3 v4 v5 h) 6 [(0, va_rf v0), (1, .int v1), (2, .int v2), (3, .int v3), (4, .int v4), (5, .int v5)] [] h) (b35 : Option Nat → Int32 → Int32 → Int32 → Int32 → Int32 → Int32 → Int32 → gk_H → Option (Int32 × gk_H)) (q35 : ∀ (v0 : Option Nat) (v1 : Int32) (v2 : Int32) (v3 : Int32) (v4 : Int32) (v5 : Int32) (v6 : Int32) (v7 : Int32) (h : gk_H), gk_P gw_I (d + 2) y_M_howMany b_M_howMany 10 (some .int) [] (b35 v0 v1 v2 v3 v4 v5 v6 v7 h) 35 [(0, va_rf v0), (1, .int v1), (2, .int v2), (3, .int v3), (4, .int v4), (5, .int v5), (6, .int v6), (7, .int v7)] [] h) (v0 : Option Nat) (v1 : Int32) (v2 : Int32) (v3 : Int32) (v4 : Int32) (v5 : Int32) (v6 : Int32) (v7 : Int32) (h : gk_H) : gk_P gw_I (d + 2) y_M_howMany b_M_howMany 10 (some .int) [] (f_M_howMany_b215 b6 b35 v0 v1 v2 v3 v4 v5 v6 v7 h) 215 [(0, va_rf v0), (1, .int v1), (2, .int v2), (3, .int v3), (4, .int v4), (5, .int v5), (6, .int v6), (7, .int v7)] [] h := by
  unfold f_M_howMany_b215
  refine gk_iconst (pc := 215) (0 : Int32) d_M_howMany_215 rfl ?_
  exact p_M_howMany_b216 d b6 q6 b35 q35 v0 v1 v2 v3 v4 v5 v6 v7 (0 : Int32) h
theorem p_M_howMany_b131 (d : Nat) (b6 : Option Nat → Int32 → Int32 → Int32 → Int32 → Int32 → gk_H → Option (Int32 × gk_H)) (q6 : ∀ (v0 : Option Nat) (v1 : Int32) (v2 : Int32) (v3 : Int32) (v4 : Int32) (v5 : Int32) (h : gk_H), gk_P gw_I (d + 2) y_M_howMany b_M_howMany 10 (some .int) [] (b6 v0 v1 v2 v3 v4 v5 h) 6 [(0, va_rf v0), (1, .int v1), (2, .int v2), (3, .int v3), (4, .int v4), (5, .int v5)] [] h) (b35 : Option Nat → Int32 → Int32 → Int32 → Int32 → Int32 → Int32 → Int32 → gk_H → Option (Int32 × gk_H)) (q35 : ∀ (v0 : Option Nat) (v1 : Int32) (v2 : Int32) (v3 : Int32) (v4 : Int32) (v5 : Int32) (v6 : Int32) (v7 : Int32) (h : gk_H), gk_P gw_I (d + 2) y_M_howMany b_M_howMany 10 (some .int) [] (b35 v0 v1 v2 v3 v4 v5 v6 v7 h) 35 [(0, va_rf v0), (1, .int v1), (2, .int v2), (3, .int v3), (4, .int v4), (5, .int v5), (6, .int v6), (7, .int v7)] [] h) (v0 : Option Nat) (v1 : Int32) (v2 : Int32) (v3 : Int32) (v4 : Int32) (v5 : Int32) (v6 : Int32) (v7 : Int32) (h : gk_H) : gk_P gw_I (d + 2) y_M_howMany b_M_howMany 10 (some .int) [] (f_M_howMany_b131 b6 b35 v0 v1 v2 v3 v4 v5 v6 v7 h) 131 [(0, va_rf v0), (1, .int v1), (2, .int v2), (3, .int v3), (4, .int v4), (5, .int v5), (6, .int v6), (7, .int v7)] [] h := by
  unfold f_M_howMany_b131
  refine gk_iconst (pc := 131) (1 : Int32) d_M_howMany_131 rfl ?_
  refine gk_goto (pc := 132) 216 d_M_howMany_132 rfl ?_
  exact p_M_howMany_b216 d b6 q6 b35 q35 v0 v1 v2 v3 v4 v5 v6 v7 (1 : Int32) h
theorem p_M_howMany_b102 (d : Nat) (b6 : Option Nat → Int32 → Int32 → Int32 → Int32 → Int32 → gk_H → Option (Int32 × gk_H)) (q6 : ∀ (v0 : Option Nat) (v1 : Int32) (v2 : Int32) (v3 : Int32) (v4 : Int32) (v5 : Int32) (h : gk_H), gk_P gw_I (d + 2) y_M_howMany b_M_howMany 10 (some .int) [] (b6 v0 v1 v2 v3 v4 v5 h) 6 [(0, va_rf v0), (1, .int v1), (2, .int v2), (3, .int v3), (4, .int v4), (5, .int v5)] [] h) (b35 : Option Nat → Int32 → Int32 → Int32 → Int32 → Int32 → Int32 → Int32 → gk_H → Option (Int32 × gk_H)) (q35 : ∀ (v0 : Option Nat) (v1 : Int32) (v2 : Int32) (v3 : Int32) (v4 : Int32) (v5 : Int32) (v6 : Int32) (v7 : Int32) (h : gk_H), gk_P gw_I (d + 2) y_M_howMany b_M_howMany 10 (some .int) [] (b35 v0 v1 v2 v3 v4 v5 v6 v7 h) 35 [(0, va_rf v0), (1, .int v1), (2, .int v2), (3, .int v3), (4, .int v4), (5, .int v5), (6, .int v6), (7, .int v7)] [] h) (v0 : Option Nat) (v1 : Int32) (v2 : Int32) (v3 : Int32) (v4 : Int32) (v5 : Int32) (v6 : Int32) (v7 : Int32) (h : gk_H) : gk_P gw_I (d + 2) y_M_howMany b_M_howMany 10 (some .int) [] (f_M_howMany_b102 b6 b35 v0 v1 v2 v3 v4 v5 v6 v7 h) 102 [(0, va_rf v0), (1, .int v1), (2, .int v2), (3, .int v3), (4, .int v4), (5, .int v5), (6, .int v6), (7, .int v7)] [] h := by
  unfold f_M_howMany_b102
  refine gk_iconst (pc := 102) (1 : Int32) d_M_howMany_102 rfl ?_
  refine gk_goto (pc := 103) 216 d_M_howMany_103 rfl ?_
  exact p_M_howMany_b216 d b6 q6 b35 q35 v0 v1 v2 v3 v4 v5 v6 v7 (1 : Int32) h
theorem p_M_howMany_b106 (d : Nat) (b6 : Option Nat → Int32 → Int32 → Int32 → Int32 → Int32 → gk_H → Option (Int32 × gk_H)) (q6 : ∀ (v0 : Option Nat) (v1 : Int32) (v2 : Int32) (v3 : Int32) (v4 : Int32) (v5 : Int32) (h : gk_H), gk_P gw_I (d + 2) y_M_howMany b_M_howMany 10 (some .int) [] (b6 v0 v1 v2 v3 v4 v5 h) 6 [(0, va_rf v0), (1, .int v1), (2, .int v2), (3, .int v3), (4, .int v4), (5, .int v5)] [] h) (b35 : Option Nat → Int32 → Int32 → Int32 → Int32 → Int32 → Int32 → Int32 → gk_H → Option (Int32 × gk_H)) (q35 : ∀ (v0 : Option Nat) (v1 : Int32) (v2 : Int32) (v3 : Int32) (v4 : Int32) (v5 : Int32) (v6 : Int32) (v7 : Int32) (h : gk_H), gk_P gw_I (d + 2) y_M_howMany b_M_howMany 10 (some .int) [] (b35 v0 v1 v2 v3 v4 v5 v6 v7 h) 35 [(0, va_rf v0), (1, .int v1), (2, .int v2), (3, .int v3), (4, .int v4), (5, .int v5), (6, .int v6), (7, .int v7)] [] h) (v0 : Option Nat) (v1 : Int32) (v2 : Int32) (v3 : Int32) (v4 : Int32) (v5 : Int32) (v6 : Int32) (v7 : Int32) (h : gk_H) : gk_P gw_I (d + 2) y_M_howMany b_M_howMany 10 (some .int) [] (f_M_howMany_b106 b6 b35 v0 v1 v2 v3 v4 v5 v6 v7 h) 106 [(0, va_rf v0), (1, .int v1), (2, .int v2), (3, .int v3), (4, .int v4), (5, .int v5), (6, .int v6), (7, .int v7)] [] h := by
  unfold f_M_howMany_b106
  refine gk_iconst (pc := 106) (0 : Int32) d_M_howMany_106 rfl ?_
  refine gk_goto (pc := 107) 216 d_M_howMany_107 rfl ?_
  exact p_M_howMany_b216 d b6 q6 b35 q35 v0 v1 v2 v3 v4 v5 v6 v7 (0 : Int32) h
theorem p_M_howMany_b35 (d : Nat) (b6 : Option Nat → Int32 → Int32 → Int32 → Int32 → Int32 → gk_H → Option (Int32 × gk_H)) (q6 : ∀ (v0 : Option Nat) (v1 : Int32) (v2 : Int32) (v3 : Int32) (v4 : Int32) (v5 : Int32) (h : gk_H), gk_P gw_I (d + 2) y_M_howMany b_M_howMany 10 (some .int) [] (b6 v0 v1 v2 v3 v4 v5 h) 6 [(0, va_rf v0), (1, .int v1), (2, .int v2), (3, .int v3), (4, .int v4), (5, .int v5)] [] h) : ∀ (fu : Nat) (v0 : Option Nat) (v1 : Int32) (v2 : Int32) (v3 : Int32) (v4 : Int32) (v5 : Int32) (v6 : Int32) (v7 : Int32) (h : gk_H), gk_P gw_I (d + 2) y_M_howMany b_M_howMany 10 (some .int) [] (f_M_howMany_b35 b6 fu v0 v1 v2 v3 v4 v5 v6 v7 h) 35 [(0, va_rf v0), (1, .int v1), (2, .int v2), (3, .int v3), (4, .int v4), (5, .int v5), (6, .int v6), (7, .int v7)] [] h := by
  intro fu
  induction fu with
  | zero => intros; exact gk_none
  | succ fu q35 =>
    intro v0 v1 v2 v3 v4 v5 v6 v7 h
    rw [f_M_howMany_b35]
    refine gk_iload (pc := 35) 7 d_M_howMany_35 rfl ?_
    refine gk_aload_n (pc := 37) 0 d_M_howMany_37 rfl ?_
    refine gk_getR (pc := 38) 7 5 d_M_howMany_38 rfl (Nat.le_of_ble_eq_true rfl) tw_1650 fun x1 => ?_
    refine gk_iload (pc := 41) 5 d_M_howMany_41 rfl ?_
    refine gk_iald (pc := 43) d_M_howMany_43 fun x2 => ?_
    refine gk_aload_n (pc := 44) 0 d_M_howMany_44 rfl ?_
    refine gk_getR (pc := 45) 7 6 d_M_howMany_45 rfl (Nat.le_of_ble_eq_true rfl) tw_1651 fun x3 => ?_
    refine gk_iload (pc := 48) 5 d_M_howMany_48 rfl ?_
    refine gk_iald (pc := 50) d_M_howMany_50 fun x4 => ?_
    refine gk_imul (pc := 51) d_M_howMany_51 ?_
    refine gk_icmp_ge (pc := 52) 240 d_M_howMany_52 rfl (fun _ => ?_) (fun _ => ?_)
    · refine gk_iincN (pc := 240) 5 (1 : Int32) (L' := fun x5 => [(5, .int x5), (0, va_rf v0), (1, .int v1), (2, .int v2), (3, .int v3), (4, .int v4), (6, .int v6), (7, .int v7)]) d_M_howMany_240 rfl rfl (Nat.le_of_ble_eq_true rfl) (fun _ => rfl) fun x5 => ?_
      refine gk_goto (pc := 243) 6 d_M_howMany_243 rfl ?_
      refine gk_weak [1, 2, 3, 4, 5, 0] (L' := [(0, va_rf v0), (1, .int v1), (2, .int v2), (3, .int v3), (4, .int v4), (5, .int x5)]) rfl ?_
      exact q6 v0 v1 v2 v3 v4 x5 h
    · refine gk_bipush (pc := 55) (16 : Int32) d_M_howMany_55 rfl ?_
      refine gk_iload (pc := 57) 5 d_M_howMany_57 rfl ?_
      refine gk_imul (pc := 59) d_M_howMany_59 ?_
      refine gk_iload (pc := 60) 7 d_M_howMany_60 rfl ?_
      refine gk_iadd (pc := 62) d_M_howMany_62 ?_
      refine gk_topI (pc := 63) fun x6 => ?_
      refine gk_istore (pc := 63) (L' := [(8, .int x6), (0, va_rf v0), (1, .int v1), (2, .int v2), (3, .int v3), (4, .int v4), (5, .int v5), (6, .int v6), (7, .int v7)]) d_M_howMany_63 (Nat.le_of_ble_eq_true rfl) rfl ?_
      refine gk_iload_n (pc := 65) 2 d_M_howMany_65 rfl ?_
      refine gk_bipush (pc := 66) (8 : Int32) d_M_howMany_66 rfl ?_
      refine gk_icmp_ne (pc := 68) 110 d_M_howMany_68 rfl (fun _ => ?_) (fun _ => ?_)
      · refine gk_aload_n (pc := 71) 1 d_M_howMany_71 rfl ?_
        refine gk_getR (pc := 72) 7 7 d_M_howMany_72 rfl (Nat.le_of_ble_eq_true rfl) tw_1652 fun x7 => ?_
        refine gk_iload (pc := 75) 0 d_M_howMany_75 rfl ?_
        refine gk_iald (pc := 77) d_M_howMany_77 fun x8 => ?_
        refine gk_if_eq (pc := 78) 102 d_M_howMany_78 rfl (fun _ => ?_) (fun _ => ?_)
        · refine gk_weak [1, 2, 3, 4, 5, 6, 7, 8] (L' := [(0, va_rf v0), (1, .int v1), (2, .int v2), (3, .int v3), (4, .int v4), (5, .int v5), (6, .int v6), (7, .int v7)]) rfl ?_
          exact p_M_howMany_b102 d b6 q6 (f_M_howMany_b35 b6 fu) q35 v0 v1 v2 v3 v4 v5 v6 v7 h
        · refine gk_aload_n (pc := 81) 1 d_M_howMany_81 rfl ?_
          refine gk_getR (pc := 82) 7 7 d_M_howMany_82 rfl (Nat.le_of_ble_eq_true rfl) tw_1652 fun x9 => ?_
          refine gk_iload (pc := 85) 0 d_M_howMany_85 rfl ?_
          refine gk_iald (pc := 87) d_M_howMany_87 fun x10 => ?_
          refine gk_iconst (pc := 88) (2 : Int32) d_M_howMany_88 rfl ?_
          refine gk_icmp_ne (pc := 89) 106 d_M_howMany_89 rfl (fun _ => ?_) (fun _ => ?_)
          · refine gk_aload_n (pc := 92) 1 d_M_howMany_92 rfl ?_
            refine gk_getR (pc := 93) 7 9 d_M_howMany_93 rfl (Nat.le_of_ble_eq_true rfl) tw_1654 fun x11 => ?_
            refine gk_iload (pc := 96) 0 d_M_howMany_96 rfl ?_
            refine gk_iald (pc := 98) d_M_howMany_98 fun x12 => ?_
            refine gk_if_ne (pc := 99) 106 d_M_howMany_99 rfl (fun _ => ?_) (fun _ => ?_)
            · refine gk_weak [1, 2, 3, 4, 5, 6, 7, 8] (L' := [(0, va_rf v0), (1, .int v1), (2, .int v2), (3, .int v3), (4, .int v4), (5, .int v5), (6, .int v6), (7, .int v7)]) rfl ?_
              exact p_M_howMany_b102 d b6 q6 (f_M_howMany_b35 b6 fu) q35 v0 v1 v2 v3 v4 v5 v6 v7 h
            · refine gk_weak [1, 2, 3, 4, 5, 6, 7, 8] (L' := [(0, va_rf v0), (1, .int v1), (2, .int v2), (3, .int v3), (4, .int v4), (5, .int v5), (6, .int v6), (7, .int v7)]) rfl ?_
              exact p_M_howMany_b106 d b6 q6 (f_M_howMany_b35 b6 fu) q35 v0 v1 v2 v3 v4 v5 v6 v7 h
          · refine gk_weak [1, 2, 3, 4, 5, 6, 7, 8] (L' := [(0, va_rf v0), (1, .int v1), (2, .int v2), (3, .int v3), (4, .int v4), (5, .int v5), (6, .int v6), (7, .int v7)]) rfl ?_
            exact p_M_howMany_b106 d b6 q6 (f_M_howMany_b35 b6 fu) q35 v0 v1 v2 v3 v4 v5 v6 v7 h
      · refine gk_iload_n (pc := 110) 2 d_M_howMany_110 rfl ?_
        refine gk_bipush (pc := 111) (7 : Int32) d_M_howMany_111 rfl ?_
        refine gk_icmp_ne (pc := 113) 139 d_M_howMany_113 rfl (fun _ => ?_) (fun _ => ?_)
        · refine gk_iload (pc := 116) 7 d_M_howMany_116 rfl ?_
          refine gk_if_ne (pc := 118) 131 d_M_howMany_118 rfl (fun _ => ?_) (fun _ => ?_)
          · refine gk_aload_n (pc := 121) 1 d_M_howMany_121 rfl ?_
            refine gk_getR (pc := 122) 7 7 d_M_howMany_122 rfl (Nat.le_of_ble_eq_true rfl) tw_1652 fun x13 => ?_
            refine gk_iload (pc := 125) 0 d_M_howMany_125 rfl ?_
            refine gk_iald (pc := 127) d_M_howMany_127 fun x14 => ?_
            refine gk_if_le (pc := 128) 135 d_M_howMany_128 rfl (fun _ => ?_) (fun _ => ?_)
            · refine gk_iconst (pc := 135) (0 : Int32) d_M_howMany_135 rfl ?_
              refine gk_goto (pc := 136) 216 d_M_howMany_136 rfl ?_
              refine gk_weak [1, 2, 3, 4, 5, 6, 7, 8] (L' := [(0, va_rf v0), (1, .int v1), (2, .int v2), (3, .int v3), (4, .int v4), (5, .int v5), (6, .int v6), (7, .int v7)]) rfl ?_
              exact p_M_howMany_b216 d b6 q6 (f_M_howMany_b35 b6 fu) q35 v0 v1 v2 v3 v4 v5 v6 v7 (0 : Int32) h
            · refine gk_weak [1, 2, 3, 4, 5, 6, 7, 8] (L' := [(0, va_rf v0), (1, .int v1), (2, .int v2), (3, .int v3), (4, .int v4), (5, .int v5), (6, .int v6), (7, .int v7)]) rfl ?_
              exact p_M_howMany_b131 d b6 q6 (f_M_howMany_b35 b6 fu) q35 v0 v1 v2 v3 v4 v5 v6 v7 h
          · refine gk_weak [1, 2, 3, 4, 5, 6, 7, 8] (L' := [(0, va_rf v0), (1, .int v1), (2, .int v2), (3, .int v3), (4, .int v4), (5, .int v5), (6, .int v6), (7, .int v7)]) rfl ?_
            exact p_M_howMany_b131 d b6 q6 (f_M_howMany_b35 b6 fu) q35 v0 v1 v2 v3 v4 v5 v6 v7 h
        · refine gk_aload_n (pc := 139) 1 d_M_howMany_139 rfl ?_
          refine gk_getR (pc := 140) 7 7 d_M_howMany_140 rfl (Nat.le_of_ble_eq_true rfl) tw_1652 fun x15 => ?_
          refine gk_iload (pc := 143) 0 d_M_howMany_143 rfl ?_
          refine gk_iald (pc := 145) d_M_howMany_145 fun x16 => ?_
          refine gk_iconst (pc := 146) (1 : Int32) d_M_howMany_146 rfl ?_
          refine gk_icmp_eq (pc := 147) 211 d_M_howMany_147 rfl (fun _ => ?_) (fun _ => ?_)
          · refine gk_weak [1, 2, 3, 4, 5, 6, 7, 8] (L' := [(0, va_rf v0), (1, .int v1), (2, .int v2), (3, .int v3), (4, .int v4), (5, .int v5), (6, .int v6), (7, .int v7)]) rfl ?_
            exact p_M_howMany_b211 d b6 q6 (f_M_howMany_b35 b6 fu) q35 v0 v1 v2 v3 v4 v5 v6 v7 h
          · refine gk_iload (pc := 150) 7 d_M_howMany_150 rfl ?_
            refine gk_if_eq (pc := 152) 215 d_M_howMany_152 rfl (fun _ => ?_) (fun _ => ?_)
            · refine gk_weak [1, 2, 3, 4, 5, 6, 7, 8] (L' := [(0, va_rf v0), (1, .int v1), (2, .int v2), (3, .int v3), (4, .int v4), (5, .int v5), (6, .int v6), (7, .int v7)]) rfl ?_
              exact p_M_howMany_b215 d b6 q6 (f_M_howMany_b35 b6 fu) q35 v0 v1 v2 v3 v4 v5 v6 v7 h
            · refine gk_aload_n (pc := 155) 1 d_M_howMany_155 rfl ?_
              refine gk_getR (pc := 156) 7 7 d_M_howMany_156 rfl (Nat.le_of_ble_eq_true rfl) tw_1652 fun x17 => ?_
              refine gk_iload (pc := 159) 0 d_M_howMany_159 rfl ?_
              refine gk_iald (pc := 161) d_M_howMany_161 fun x18 => ?_
              refine gk_if_eq (pc := 162) 211 d_M_howMany_162 rfl (fun _ => ?_) (fun _ => ?_)
              · refine gk_weak [1, 2, 3, 4, 5, 6, 7, 8] (L' := [(0, va_rf v0), (1, .int v1), (2, .int v2), (3, .int v3), (4, .int v4), (5, .int v5), (6, .int v6), (7, .int v7)]) rfl ?_
                exact p_M_howMany_b211 d b6 q6 (f_M_howMany_b35 b6 fu) q35 v0 v1 v2 v3 v4 v5 v6 v7 h
              · refine gk_aload_n (pc := 165) 1 d_M_howMany_165 rfl ?_
                refine gk_getR (pc := 166) 7 7 d_M_howMany_166 rfl (Nat.le_of_ble_eq_true rfl) tw_1652 fun x19 => ?_
                refine gk_iload (pc := 169) 0 d_M_howMany_169 rfl ?_
                refine gk_iald (pc := 171) d_M_howMany_171 fun x20 => ?_
                refine gk_iconst (pc := 172) (3 : Int32) d_M_howMany_172 rfl ?_
                refine gk_icmp_eq (pc := 173) 211 d_M_howMany_173 rfl (fun _ => ?_) (fun _ => ?_)
                · refine gk_weak [1, 2, 3, 4, 5, 6, 7, 8] (L' := [(0, va_rf v0), (1, .int v1), (2, .int v2), (3, .int v3), (4, .int v4), (5, .int v5), (6, .int v6), (7, .int v7)]) rfl ?_
                  exact p_M_howMany_b211 d b6 q6 (f_M_howMany_b35 b6 fu) q35 v0 v1 v2 v3 v4 v5 v6 v7 h
                · refine gk_aload_n (pc := 176) 1 d_M_howMany_176 rfl ?_
                  refine gk_getR (pc := 177) 7 7 d_M_howMany_177 rfl (Nat.le_of_ble_eq_true rfl) tw_1652 fun x21 => ?_
                  refine gk_iload (pc := 180) 0 d_M_howMany_180 rfl ?_
                  refine gk_iald (pc := 182) d_M_howMany_182 fun x22 => ?_
                  refine gk_iconst (pc := 183) (2 : Int32) d_M_howMany_183 rfl ?_
                  refine gk_icmp_ne (pc := 184) 215 d_M_howMany_184 rfl (fun _ => ?_) (fun _ => ?_)
                  · refine gk_aload_n (pc := 187) 1 d_M_howMany_187 rfl ?_
                    refine gk_aload_n (pc := 188) 1 d_M_howMany_188 rfl ?_
                    refine gk_getR (pc := 189) 7 10 d_M_howMany_189 rfl (Nat.le_of_ble_eq_true rfl) tw_1655 fun x23 => ?_
                    refine gk_sipush (pc := 192) (256 : Int32) d_M_howMany_192 rfl ?_
                    refine gk_iload (pc := 195) 0 d_M_howMany_195 rfl ?_
                    refine gk_imul (pc := 197) d_M_howMany_197 ?_
                    refine gk_aload_n (pc := 198) 1 d_M_howMany_198 rfl ?_
                    refine gk_getR (pc := 199) 7 9 d_M_howMany_199 rfl (Nat.le_of_ble_eq_true rfl) tw_1654 fun x24 => ?_
                    refine gk_iload (pc := 202) 0 d_M_howMany_202 rfl ?_
                    refine gk_iald (pc := 204) d_M_howMany_204 fun x25 => ?_
                    refine gk_callV (pc := 205) (d := (d + 1)) (w' := gv_I) (as := [va_rf x23, .int ((256 : Int32) * x6), .int x25]) (n := 3) 7 d_M_howMany_205 rfl rfl rfl rfl (Nat.le_of_ble_eq_true rfl) tw_1876 tw_1878 tw_33 tw_99 cw_M_isNumeral hy_M_isNumeral (Nat.le_of_ble_eq_true rfl) (p_M_isNumeral d v0 x23 ((256 : Int32) * x6) x25 h) fun x26 h1 => ?_
                    refine gk_if_eq (pc := 208) 215 d_M_howMany_208 rfl (fun _ => ?_) (fun _ => ?_)
                    · refine gk_weak [1, 2, 3, 4, 5, 6, 7, 8] (L' := [(0, va_rf v0), (1, .int v1), (2, .int v2), (3, .int v3), (4, .int v4), (5, .int v5), (6, .int v6), (7, .int v7)]) rfl ?_
                      exact p_M_howMany_b215 d b6 q6 (f_M_howMany_b35 b6 fu) q35 v0 v1 v2 v3 v4 v5 v6 v7 h1
                    · refine gk_weak [1, 2, 3, 4, 5, 6, 7, 8] (L' := [(0, va_rf v0), (1, .int v1), (2, .int v2), (3, .int v3), (4, .int v4), (5, .int v5), (6, .int v6), (7, .int v7)]) rfl ?_
                      exact p_M_howMany_b211 d b6 q6 (f_M_howMany_b35 b6 fu) q35 v0 v1 v2 v3 v4 v5 v6 v7 h1
                  · refine gk_weak [1, 2, 3, 4, 5, 6, 7, 8] (L' := [(0, va_rf v0), (1, .int v1), (2, .int v2), (3, .int v3), (4, .int v4), (5, .int v5), (6, .int v6), (7, .int v7)]) rfl ?_
                    exact p_M_howMany_b215 d b6 q6 (f_M_howMany_b35 b6 fu) q35 v0 v1 v2 v3 v4 v5 v6 v7 h
theorem p_M_howMany_b30 (d : Nat) (b6 : Option Nat → Int32 → Int32 → Int32 → Int32 → Int32 → gk_H → Option (Int32 × gk_H)) (q6 : ∀ (v0 : Option Nat) (v1 : Int32) (v2 : Int32) (v3 : Int32) (v4 : Int32) (v5 : Int32) (h : gk_H), gk_P gw_I (d + 2) y_M_howMany b_M_howMany 10 (some .int) [] (b6 v0 v1 v2 v3 v4 v5 h) 6 [(0, va_rf v0), (1, .int v1), (2, .int v2), (3, .int v3), (4, .int v4), (5, .int v5)] [] h) (v0 : Option Nat) (v1 : Int32) (v2 : Int32) (v3 : Int32) (v4 : Int32) (v5 : Int32) (s0 : Int32) (h : gk_H) : gk_P gw_I (d + 2) y_M_howMany b_M_howMany 10 (some .int) [] (f_M_howMany_b30 b6 v0 v1 v2 v3 v4 v5 s0 h) 30 [(0, va_rf v0), (1, .int v1), (2, .int v2), (3, .int v3), (4, .int v4), (5, .int v5)] [.int s0] h := by
  unfold f_M_howMany_b30
  refine gk_istore (pc := 30) (L' := [(6, .int s0), (0, va_rf v0), (1, .int v1), (2, .int v2), (3, .int v3), (4, .int v4), (5, .int v5)]) d_M_howMany_30 (Nat.le_of_ble_eq_true rfl) rfl ?_
  refine gk_iconst (pc := 32) (0 : Int32) d_M_howMany_32 rfl ?_
  refine gk_istore (pc := 33) (L' := [(7, .int (0 : Int32)), (6, .int s0), (0, va_rf v0), (1, .int v1), (2, .int v2), (3, .int v3), (4, .int v4), (5, .int v5)]) d_M_howMany_33 (Nat.le_of_ble_eq_true rfl) rfl ?_
  refine gk_weak [2, 3, 4, 5, 6, 7, 1, 0] (L' := [(0, va_rf v0), (1, .int v1), (2, .int v2), (3, .int v3), (4, .int v4), (5, .int v5), (6, .int s0), (7, .int (0 : Int32))]) rfl ?_
  exact p_M_howMany_b35 d b6 q6 gk_F v0 v1 v2 v3 v4 v5 s0 (0 : Int32) h
theorem p_M_howMany_b6 (d : Nat)  : ∀ (fu : Nat) (v0 : Option Nat) (v1 : Int32) (v2 : Int32) (v3 : Int32) (v4 : Int32) (v5 : Int32) (h : gk_H), gk_P gw_I (d + 2) y_M_howMany b_M_howMany 10 (some .int) [] (f_M_howMany_b6  fu v0 v1 v2 v3 v4 v5 h) 6 [(0, va_rf v0), (1, .int v1), (2, .int v2), (3, .int v3), (4, .int v4), (5, .int v5)] [] h := by
  intro fu
  induction fu with
  | zero => intros; exact gk_none
  | succ fu q6 =>
    intro v0 v1 v2 v3 v4 v5 h
    rw [f_M_howMany_b6]
    refine gk_iload (pc := 6) 5 d_M_howMany_6 rfl ?_
    refine gk_iload_n (pc := 8) 2 d_M_howMany_8 rfl ?_
    refine gk_iload_n (pc := 9) 3 d_M_howMany_9 rfl ?_
    refine gk_iadd (pc := 10) d_M_howMany_10 ?_
    refine gk_icmp_ge (pc := 11) 246 d_M_howMany_11 rfl (fun _ => ?_) (fun _ => ?_)
    · refine gk_iload (pc := 246) 4 d_M_howMany_246 rfl ?_
      exact gk_iret (pc := 248) rfl d_M_howMany_248 rfl
    · refine gk_aload_n (pc := 14) 0 d_M_howMany_14 rfl ?_
      refine gk_getR (pc := 15) 7 4 d_M_howMany_15 rfl (Nat.le_of_ble_eq_true rfl) tw_1649 fun x1 => ?_
      refine gk_iload (pc := 18) 5 d_M_howMany_18 rfl ?_
      refine gk_iald (pc := 20) d_M_howMany_20 fun x2 => ?_
      refine gk_iconst (pc := 21) (5 : Int32) d_M_howMany_21 rfl ?_
      refine gk_icmp_ge (pc := 22) 29 d_M_howMany_22 rfl (fun _ => ?_) (fun _ => ?_)
      · refine gk_iconst (pc := 29) (0 : Int32) d_M_howMany_29 rfl ?_
        exact p_M_howMany_b30 d (f_M_howMany_b6 fu) q6 v0 v1 v2 v3 v4 v5 (0 : Int32) h
      · refine gk_iconst (pc := 25) (1 : Int32) d_M_howMany_25 rfl ?_
        refine gk_goto (pc := 26) 30 d_M_howMany_26 rfl ?_
        exact p_M_howMany_b30 d (f_M_howMany_b6 fu) q6 v0 v1 v2 v3 v4 v5 (1 : Int32) h
theorem w_M_howMany (d : Nat) (a0 : Option Nat) (a1 : Int32) (a2 : Int32) (a3 : Int32) (h : gk_H) : gk_P gw_I (d + 2) y_M_howMany b_M_howMany 10 (some .int) [] (f_M_howMany a0 a1 a2 a3 h) 0 [(0, va_rf a0), (1, .int a1), (2, .int a2), (3, .int a3)] [] h := by
  unfold f_M_howMany
  refine gk_iconst (pc := 0) (0 : Int32) d_M_howMany_0 rfl ?_
  refine gk_istore (pc := 1) (L' := [(4, .int (0 : Int32)), (0, va_rf a0), (1, .int a1), (2, .int a2), (3, .int a3)]) d_M_howMany_1 (Nat.le_of_ble_eq_true rfl) rfl ?_
  refine gk_iload_n (pc := 3) 3 d_M_howMany_3 rfl ?_
  refine gk_istore (pc := 4) (L' := [(5, .int a2), (4, .int (0 : Int32)), (0, va_rf a0), (1, .int a1), (2, .int a2), (3, .int a3)]) d_M_howMany_4 (Nat.le_of_ble_eq_true rfl) rfl ?_
  refine gk_weak [2, 3, 4, 5, 1, 0] (L' := [(0, va_rf a0), (1, .int a1), (2, .int a2), (3, .int a3), (4, .int (0 : Int32)), (5, .int a2)]) rfl ?_
  exact p_M_howMany_b6 d gk_F a0 a1 a2 a3 (0 : Int32) a2 h
theorem p_M_howMany (d : Nat) (a0 : Option Nat) (a1 : Int32) (a2 : Int32) (a3 : Int32) (h : gk_H) : ∀ r h1, f_M_howMany a0 a1 a2 a3 h = some (r, h1) → gk_M (d + 2) y_M_howMany b_M_howMany 10 (some .int) [va_rf a0, .int a1, .int a2, .int a3] h (.inl (gv_I r)) h1 :=
  fun r h1 e => gk_M_of2 (by decide +kernel) (by simp [lv_args, gk_cat_rf, gk_catI, gk_catJ, gk_catD, gv_V, gv_I, gv_J, gv_D, gv_R]) (by simp [lg_sl, gk_cat_rf, gk_catI, gk_catJ, gk_catD, gv_V, gv_I, gv_J, gv_D, gv_R]) (w_M_howMany d a0 a1 a2 a3 h r h1 e)
theorem d_M_gather_0 : decode b_M_gather 0 = .ok (.aload_n 0, 1) := by decide +kernel
theorem d_M_gather_1 : decode b_M_gather 1 = .ok (.getfield 37, 3) := by decide +kernel
theorem d_M_gather_4 : decode b_M_gather 4 = .ok (.aload_n 0, 1) := by decide +kernel
theorem d_M_gather_5 : decode b_M_gather 5 = .ok (.getfield 164, 3) := by decide +kernel
theorem d_M_gather_8 : decode b_M_gather 8 = .ok (.dload_n 1, 1) := by decide +kernel
theorem d_M_gather_9 : decode b_M_gather 9 = .ok (.dastore, 1) := by decide +kernel
theorem d_M_gather_10 : decode b_M_gather 10 = .ok (.aload_n 0, 1) := by decide +kernel
theorem d_M_gather_11 : decode b_M_gather 11 = .ok (.dup, 1) := by decide +kernel
theorem d_M_gather_12 : decode b_M_gather 12 = .ok (.getfield 164, 3) := by decide +kernel
theorem d_M_gather_15 : decode b_M_gather 15 = .ok (.iconst 1, 1) := by decide +kernel
theorem d_M_gather_16 : decode b_M_gather 16 = .ok (.iadd, 1) := by decide +kernel
theorem d_M_gather_17 : decode b_M_gather 17 = .ok (.putfield 164, 3) := by decide +kernel
theorem d_M_gather_20 : decode b_M_gather 20 = .ok (.return_, 1) := by decide +kernel
theorem w_M_gather (d : Nat) (a0 : Option Nat) (a1 : UInt64) (h : gk_H) : gk_P gw_V d y_M_gather b_M_gather 3 none [] (f_M_gather a0 a1 h) 0 [(0, va_rf a0), (1, .double a1)] [] h := by
  unfold f_M_gather
  refine gk_aload_n (pc := 0) 0 d_M_gather_0 rfl ?_
  refine gk_getR (pc := 1) 7 13 d_M_gather_1 rfl (Nat.le_of_ble_eq_true rfl) tw_1658 fun x1 => ?_
  refine gk_aload_n (pc := 4) 0 d_M_gather_4 rfl ?_
  refine gk_getI (pc := 5) 7 12 d_M_gather_5 rfl (Nat.le_of_ble_eq_true rfl) tw_1657 fun x2 => ?_
  refine gk_dload_n (pc := 8) 1 d_M_gather_8 rfl ?_
  refine gk_dast (pc := 9) d_M_gather_9 fun h1 => ?_
  refine gk_aload_n (pc := 10) 0 d_M_gather_10 rfl ?_
  refine gk_dup (pc := 11) d_M_gather_11 (gk_cat_rf _) ?_
  refine gk_getI (pc := 12) 7 12 d_M_gather_12 rfl (Nat.le_of_ble_eq_true rfl) tw_1657 fun x3 => ?_
  refine gk_iconst (pc := 15) (1 : Int32) d_M_gather_15 rfl ?_
  refine gk_iadd (pc := 16) d_M_gather_16 ?_
  refine gk_putfield (pc := 17) 7 12 d_M_gather_17 rfl (Nat.le_of_ble_eq_true rfl) tw_1657 (Or.inl rfl) fun h2 => ?_
  exact gk_vret (pc := 20) rfl d_M_gather_20 rfl
theorem p_M_gather (d : Nat) (a0 : Option Nat) (a1 : UInt64) (h : gk_H) : ∀ r h1, f_M_gather a0 a1 h = some (r, h1) → gk_M d y_M_gather b_M_gather 3 none [va_rf a0, .double a1] h (.inl (gv_V r)) h1 :=
  fun r h1 e => gk_M_of2 (by decide +kernel) (by simp [lv_args, gk_cat_rf, gk_catI, gk_catJ, gk_catD, gv_V, gv_I, gv_J, gv_D, gv_R]) (by simp [lg_sl, gk_cat_rf, gk_catI, gk_catJ, gk_catD, gv_V, gv_I, gv_J, gv_D, gv_R]) (w_M_gather d a0 a1 h r h1 e)
theorem d_M_wantCells_0 : decode b_M_wantCells 0 = .ok (.iconst 0, 1) := by decide +kernel
theorem d_M_wantCells_1 : decode b_M_wantCells 1 = .ok (.istore_n 2, 1) := by decide +kernel
theorem d_M_wantCells_2 : decode b_M_wantCells 2 = .ok (.iload_n 2, 1) := by decide +kernel
theorem d_M_wantCells_3 : decode b_M_wantCells 3 = .ok (.aload_n 0, 1) := by decide +kernel
theorem d_M_wantCells_4 : decode b_M_wantCells 4 = .ok (.getfield 17, 3) := by decide +kernel
theorem d_M_wantCells_7 : decode b_M_wantCells 7 = .ok (.iload_n 1, 1) := by decide +kernel
theorem d_M_wantCells_8 : decode b_M_wantCells 8 = .ok (.iaload, 1) := by decide +kernel
theorem d_M_wantCells_9 : decode b_M_wantCells 9 = .ok (.aload_n 0, 1) := by decide +kernel
theorem d_M_wantCells_10 : decode b_M_wantCells 10 = .ok (.getfield 20, 3) := by decide +kernel
theorem d_M_wantCells_13 : decode b_M_wantCells 13 = .ok (.iload_n 1, 1) := by decide +kernel
theorem d_M_wantCells_14 : decode b_M_wantCells 14 = .ok (.iaload, 1) := by decide +kernel
theorem d_M_wantCells_15 : decode b_M_wantCells 15 = .ok (.imul, 1) := by decide +kernel
theorem d_M_wantCells_16 : decode b_M_wantCells 16 = .ok (.if_icmp .ge 64, 3) := by decide +kernel
theorem d_M_wantCells_19 : decode b_M_wantCells 19 = .ok (.aload_n 0, 1) := by decide +kernel
theorem d_M_wantCells_20 : decode b_M_wantCells 20 = .ok (.getfield 62, 3) := by decide +kernel
theorem d_M_wantCells_23 : decode b_M_wantCells 23 = .ok (.ifCond .ne 57, 3) := by decide +kernel
theorem d_M_wantCells_26 : decode b_M_wantCells 26 = .ok (.bipush 16, 2) := by decide +kernel
theorem d_M_wantCells_28 : decode b_M_wantCells 28 = .ok (.iload_n 1, 1) := by decide +kernel
theorem d_M_wantCells_29 : decode b_M_wantCells 29 = .ok (.imul, 1) := by decide +kernel
theorem d_M_wantCells_30 : decode b_M_wantCells 30 = .ok (.iload_n 2, 1) := by decide +kernel
theorem d_M_wantCells_31 : decode b_M_wantCells 31 = .ok (.iadd, 1) := by decide +kernel
theorem d_M_wantCells_32 : decode b_M_wantCells 32 = .ok (.istore_n 3, 1) := by decide +kernel
theorem d_M_wantCells_33 : decode b_M_wantCells 33 = .ok (.aload_n 0, 1) := by decide +kernel
theorem d_M_wantCells_34 : decode b_M_wantCells 34 = .ok (.getfield 23, 3) := by decide +kernel
theorem d_M_wantCells_37 : decode b_M_wantCells 37 = .ok (.iload_n 3, 1) := by decide +kernel
theorem d_M_wantCells_38 : decode b_M_wantCells 38 = .ok (.iaload, 1) := by decide +kernel
theorem d_M_wantCells_39 : decode b_M_wantCells 39 = .ok (.iconst 4, 1) := by decide +kernel
theorem d_M_wantCells_40 : decode b_M_wantCells 40 = .ok (.if_icmp .ne 14, 3) := by decide +kernel
theorem d_M_wantCells_43 : decode b_M_wantCells 43 = .ok (.aload_n 0, 1) := by decide +kernel
theorem d_M_wantCells_44 : decode b_M_wantCells 44 = .ok (.aload_n 0, 1) := by decide +kernel
theorem d_M_wantCells_45 : decode b_M_wantCells 45 = .ok (.getfield 26, 3) := by decide +kernel
theorem d_M_wantCells_48 : decode b_M_wantCells 48 = .ok (.iload_n 3, 1) := by decide +kernel
theorem d_M_wantCells_49 : decode b_M_wantCells 49 = .ok (.daload, 1) := by decide +kernel
theorem d_M_wantCells_50 : decode b_M_wantCells 50 = .ok (.d2i, 1) := by decide +kernel
theorem d_M_wantCells_51 : decode b_M_wantCells 51 = .ok (.invokevirtual 58, 3) := by decide +kernel
theorem d_M_wantCells_54 : decode b_M_wantCells 54 = .ok (.aload_n 0, 1) := by decide +kernel
theorem d_M_wantCells_55 : decode b_M_wantCells 55 = .ok (.getfield 23, 3) := by decide +kernel
theorem d_M_wantCells_58 : decode b_M_wantCells 58 = .ok (.iload_n 3, 1) := by decide +kernel
theorem d_M_wantCells_59 : decode b_M_wantCells 59 = .ok (.iaload, 1) := by decide +kernel
theorem d_M_wantCells_60 : decode b_M_wantCells 60 = .ok (.iconst 1, 1) := by decide +kernel
theorem d_M_wantCells_61 : decode b_M_wantCells 61 = .ok (.if_icmp .ne 13, 3) := by decide +kernel
theorem d_M_wantCells_64 : decode b_M_wantCells 64 = .ok (.aload_n 0, 1) := by decide +kernel
theorem d_M_wantCells_65 : decode b_M_wantCells 65 = .ok (.aload_n 0, 1) := by decide +kernel
theorem d_M_wantCells_66 : decode b_M_wantCells 66 = .ok (.getfield 26, 3) := by decide +kernel
theorem d_M_wantCells_69 : decode b_M_wantCells 69 = .ok (.iload_n 3, 1) := by decide +kernel
theorem d_M_wantCells_70 : decode b_M_wantCells 70 = .ok (.daload, 1) := by decide +kernel
theorem d_M_wantCells_71 : decode b_M_wantCells 71 = .ok (.invokevirtual 167, 3) := by decide +kernel
theorem d_M_wantCells_74 : decode b_M_wantCells 74 = .ok (.iinc 2 1, 3) := by decide +kernel
theorem d_M_wantCells_77 : decode b_M_wantCells 77 = .ok (.goto (-75), 3) := by decide +kernel
theorem d_M_wantCells_80 : decode b_M_wantCells 80 = .ok (.return_, 1) := by decide +kernel
theorem p_M_wantCells_b80 (d : Nat)   (h : gk_H) : gk_P gw_V (d + 1) y_M_wantCells b_M_wantCells 4 none [] (f_M_wantCells_b80   h) 80 [] [] h := by
  unfold f_M_wantCells_b80
  exact gk_vret (pc := 80) rfl d_M_wantCells_80 rfl
theorem p_M_wantCells_b74 (d : Nat) (b2 : Option Nat → Int32 → Int32 → gk_H → Option (Unit × gk_H)) (q2 : ∀ (v0 : Option Nat) (v1 : Int32) (v2 : Int32) (h : gk_H), gk_P gw_V (d + 1) y_M_wantCells b_M_wantCells 4 none [] (b2 v0 v1 v2 h) 2 [(0, va_rf v0), (1, .int v1), (2, .int v2)] [] h) (v0 : Option Nat) (v1 : Int32) (v2 : Int32) (h : gk_H) : gk_P gw_V (d + 1) y_M_wantCells b_M_wantCells 4 none [] (f_M_wantCells_b74 b2 v0 v1 v2 h) 74 [(0, va_rf v0), (1, .int v1), (2, .int v2)] [] h := by
  unfold f_M_wantCells_b74
  refine gk_iincN (pc := 74) 2 (1 : Int32) (L' := fun x1 => [(2, .int x1), (0, va_rf v0), (1, .int v1)]) d_M_wantCells_74 rfl rfl (Nat.le_of_ble_eq_true rfl) (fun _ => rfl) fun x1 => ?_
  refine gk_goto (pc := 77) 2 d_M_wantCells_77 rfl ?_
  refine gk_weak [1, 2, 0] (L' := [(0, va_rf v0), (1, .int v1), (2, .int x1)]) rfl ?_
  exact q2 v0 v1 x1 h
theorem p_M_wantCells_b54 (d : Nat) (b2 : Option Nat → Int32 → Int32 → gk_H → Option (Unit × gk_H)) (q2 : ∀ (v0 : Option Nat) (v1 : Int32) (v2 : Int32) (h : gk_H), gk_P gw_V (d + 1) y_M_wantCells b_M_wantCells 4 none [] (b2 v0 v1 v2 h) 2 [(0, va_rf v0), (1, .int v1), (2, .int v2)] [] h) (v0 : Option Nat) (v1 : Int32) (v2 : Int32) (v3 : Int32) (h : gk_H) : gk_P gw_V (d + 1) y_M_wantCells b_M_wantCells 4 none [] (f_M_wantCells_b54 b2 v0 v1 v2 v3 h) 54 [(0, va_rf v0), (1, .int v1), (2, .int v2), (3, .int v3)] [] h := by
  unfold f_M_wantCells_b54
  refine gk_aload_n (pc := 54) 0 d_M_wantCells_54 rfl ?_
  refine gk_getR (pc := 55) 7 7 d_M_wantCells_55 rfl (Nat.le_of_ble_eq_true rfl) tw_1652 fun x1 => ?_
  refine gk_iload_n (pc := 58) 3 d_M_wantCells_58 rfl ?_
  refine gk_iald (pc := 59) d_M_wantCells_59 fun x2 => ?_
  refine gk_iconst (pc := 60) (1 : Int32) d_M_wantCells_60 rfl ?_
  refine gk_icmp_ne (pc := 61) 74 d_M_wantCells_61 rfl (fun _ => ?_) (fun _ => ?_)
  · refine gk_aload_n (pc := 64) 0 d_M_wantCells_64 rfl ?_
    refine gk_aload_n (pc := 65) 0 d_M_wantCells_65 rfl ?_
    refine gk_getR (pc := 66) 7 8 d_M_wantCells_66 rfl (Nat.le_of_ble_eq_true rfl) tw_1653 fun x3 => ?_
    refine gk_iload_n (pc := 69) 3 d_M_wantCells_69 rfl ?_
    refine gk_dald (pc := 70) d_M_wantCells_70 fun x4 => ?_
    refine gk_callV (pc := 71) (d := d) (w' := gv_V) (as := [.double x4]) (n := 1) 7 d_M_wantCells_71 rfl rfl rfl rfl (Nat.le_of_ble_eq_true rfl) tw_1950 tw_1952 tw_44 tw_99 cw_M_gather hy_M_gather (Nat.le_of_ble_eq_true rfl) (p_M_gather d v0 x4 h) fun _ h1 => ?_
    refine gk_weak [0, 1, 2] (L' := [(0, va_rf v0), (1, .int v1), (2, .int v2)]) rfl ?_
    exact p_M_wantCells_b74 d b2 q2 v0 v1 v2 h1
  · refine gk_weak [0, 1, 2] (L' := [(0, va_rf v0), (1, .int v1), (2, .int v2)]) rfl ?_
    exact p_M_wantCells_b74 d b2 q2 v0 v1 v2 h
theorem p_M_wantCells_b2 (d : Nat)  : ∀ (fu : Nat) (v0 : Option Nat) (v1 : Int32) (v2 : Int32) (h : gk_H), gk_P gw_V (d + 1) y_M_wantCells b_M_wantCells 4 none [] (f_M_wantCells_b2  fu v0 v1 v2 h) 2 [(0, va_rf v0), (1, .int v1), (2, .int v2)] [] h := by
  intro fu
  induction fu with
  | zero => intros; exact gk_none
  | succ fu q2 =>
    intro v0 v1 v2 h
    rw [f_M_wantCells_b2]
    refine gk_iload_n (pc := 2) 2 d_M_wantCells_2 rfl ?_
    refine gk_aload_n (pc := 3) 0 d_M_wantCells_3 rfl ?_
    refine gk_getR (pc := 4) 7 5 d_M_wantCells_4 rfl (Nat.le_of_ble_eq_true rfl) tw_1650 fun x1 => ?_
    refine gk_iload_n (pc := 7) 1 d_M_wantCells_7 rfl ?_
    refine gk_iald (pc := 8) d_M_wantCells_8 fun x2 => ?_
    refine gk_aload_n (pc := 9) 0 d_M_wantCells_9 rfl ?_
    refine gk_getR (pc := 10) 7 6 d_M_wantCells_10 rfl (Nat.le_of_ble_eq_true rfl) tw_1651 fun x3 => ?_
    refine gk_iload_n (pc := 13) 1 d_M_wantCells_13 rfl ?_
    refine gk_iald (pc := 14) d_M_wantCells_14 fun x4 => ?_
    refine gk_imul (pc := 15) d_M_wantCells_15 ?_
    refine gk_icmp_ge (pc := 16) 80 d_M_wantCells_16 rfl (fun _ => ?_) (fun _ => ?_)
    · refine gk_weak [] (L' := []) rfl ?_
      exact p_M_wantCells_b80 d h
    · refine gk_aload_n (pc := 19) 0 d_M_wantCells_19 rfl ?_
      refine gk_getI (pc := 20) 7 11 d_M_wantCells_20 rfl (Nat.le_of_ble_eq_true rfl) tw_1656 fun x5 => ?_
      refine gk_if_ne (pc := 23) 80 d_M_wantCells_23 rfl (fun _ => ?_) (fun _ => ?_)
      · refine gk_bipush (pc := 26) (16 : Int32) d_M_wantCells_26 rfl ?_
        refine gk_iload_n (pc := 28) 1 d_M_wantCells_28 rfl ?_
        refine gk_imul (pc := 29) d_M_wantCells_29 ?_
        refine gk_iload_n (pc := 30) 2 d_M_wantCells_30 rfl ?_
        refine gk_iadd (pc := 31) d_M_wantCells_31 ?_
        refine gk_topI (pc := 32) fun x6 => ?_
        refine gk_istore_n (pc := 32) (L' := [(3, .int x6), (0, va_rf v0), (1, .int v1), (2, .int v2)]) d_M_wantCells_32 (Nat.le_of_ble_eq_true rfl) rfl ?_
        refine gk_aload_n (pc := 33) 1 d_M_wantCells_33 rfl ?_
        refine gk_getR (pc := 34) 7 7 d_M_wantCells_34 rfl (Nat.le_of_ble_eq_true rfl) tw_1652 fun x7 => ?_
        refine gk_iload_n (pc := 37) 0 d_M_wantCells_37 rfl ?_
        refine gk_iald (pc := 38) d_M_wantCells_38 fun x8 => ?_
        refine gk_iconst (pc := 39) (4 : Int32) d_M_wantCells_39 rfl ?_
        refine gk_icmp_ne (pc := 40) 54 d_M_wantCells_40 rfl (fun _ => ?_) (fun _ => ?_)
        · refine gk_aload_n (pc := 43) 1 d_M_wantCells_43 rfl ?_
          refine gk_aload_n (pc := 44) 1 d_M_wantCells_44 rfl ?_
          refine gk_getR (pc := 45) 7 8 d_M_wantCells_45 rfl (Nat.le_of_ble_eq_true rfl) tw_1653 fun x9 => ?_
          refine gk_iload_n (pc := 48) 0 d_M_wantCells_48 rfl ?_
          refine gk_dald (pc := 49) d_M_wantCells_49 fun x10 => ?_
          refine gk_d2i (pc := 50) d_M_wantCells_50 ?_
          refine gk_callV (pc := 51) (d := d) (w' := gv_V) (as := [.int (FP.d2i x10)]) (n := 1) 7 d_M_wantCells_51 rfl rfl rfl rfl (Nat.le_of_ble_eq_true rfl) tw_1805 tw_1807 tw_21 tw_99 cw_M_fail hy_M_fail (Nat.le_of_ble_eq_true rfl) (p_M_fail d v0 (FP.d2i x10) h) fun _ h1 => ?_
          refine gk_weak [1, 2, 3, 0] (L' := [(0, va_rf v0), (1, .int v1), (2, .int v2), (3, .int x6)]) rfl ?_
          exact p_M_wantCells_b54 d (f_M_wantCells_b2 fu) q2 v0 v1 v2 x6 h1
        · refine gk_weak [1, 2, 3, 0] (L' := [(0, va_rf v0), (1, .int v1), (2, .int v2), (3, .int x6)]) rfl ?_
          exact p_M_wantCells_b54 d (f_M_wantCells_b2 fu) q2 v0 v1 v2 x6 h
      · refine gk_weak [] (L' := []) rfl ?_
        exact p_M_wantCells_b80 d h
theorem w_M_wantCells (d : Nat) (a0 : Option Nat) (a1 : Int32) (h : gk_H) : gk_P gw_V (d + 1) y_M_wantCells b_M_wantCells 4 none [] (f_M_wantCells a0 a1 h) 0 [(0, va_rf a0), (1, .int a1)] [] h := by
  unfold f_M_wantCells
  refine gk_iconst (pc := 0) (0 : Int32) d_M_wantCells_0 rfl ?_
  refine gk_istore_n (pc := 1) (L' := [(2, .int (0 : Int32)), (0, va_rf a0), (1, .int a1)]) d_M_wantCells_1 (Nat.le_of_ble_eq_true rfl) rfl ?_
  refine gk_weak [1, 2, 0] (L' := [(0, va_rf a0), (1, .int a1), (2, .int (0 : Int32))]) rfl ?_
  exact p_M_wantCells_b2 d gk_F a0 a1 (0 : Int32) h
theorem p_M_wantCells (d : Nat) (a0 : Option Nat) (a1 : Int32) (h : gk_H) : ∀ r h1, f_M_wantCells a0 a1 h = some (r, h1) → gk_M (d + 1) y_M_wantCells b_M_wantCells 4 none [va_rf a0, .int a1] h (.inl (gv_V r)) h1 :=
  fun r h1 e => gk_M_of2 (by decide +kernel) (by simp [lv_args, gk_cat_rf, gk_catI, gk_catJ, gk_catD, gv_V, gv_I, gv_J, gv_D, gv_R]) (by simp [lg_sl, gk_cat_rf, gk_catI, gk_catJ, gk_catD, gv_V, gv_I, gv_J, gv_D, gv_R]) (w_M_wantCells d a0 a1 h r h1 e)
theorem d_M_wantWhole_0 : decode b_M_wantWhole 0 = .ok (.aload_n 0, 1) := by decide +kernel
theorem d_M_wantWhole_1 : decode b_M_wantWhole 1 = .ok (.iload_n 1, 1) := by decide +kernel
theorem d_M_wantWhole_2 : decode b_M_wantWhole 2 = .ok (.invokevirtual 137, 3) := by decide +kernel
theorem d_M_wantWhole_5 : decode b_M_wantWhole 5 = .ok (.dstore_n 2, 1) := by decide +kernel
theorem d_M_wantWhole_6 : decode b_M_wantWhole 6 = .ok (.aload_n 0, 1) := by decide +kernel
theorem d_M_wantWhole_7 : decode b_M_wantWhole 7 = .ok (.getfield 62, 3) := by decide +kernel
theorem d_M_wantWhole_10 : decode b_M_wantWhole 10 = .ok (.ifCond .ne 25, 3) := by decide +kernel
theorem d_M_wantWhole_13 : decode b_M_wantWhole 13 = .ok (.dload_n 2, 1) := by decide +kernel
theorem d_M_wantWhole_14 : decode b_M_wantWhole 14 = .ok (.ldc2_w 140, 3) := by decide +kernel
theorem d_M_wantWhole_17 : decode b_M_wantWhole 17 = .ok (.dcmp .l, 1) := by decide +kernel
theorem d_M_wantWhole_18 : decode b_M_wantWhole 18 = .ok (.ifCond .ge 11, 3) := by decide +kernel
theorem d_M_wantWhole_21 : decode b_M_wantWhole 21 = .ok (.dload_n 2, 1) := by decide +kernel
theorem d_M_wantWhole_22 : decode b_M_wantWhole 22 = .ok (.ldc2_w 142, 3) := by decide +kernel
theorem d_M_wantWhole_25 : decode b_M_wantWhole 25 = .ok (.dcmp .g, 1) := by decide +kernel
theorem d_M_wantWhole_26 : decode b_M_wantWhole 26 = .ok (.ifCond .gt 9, 3) := by decide +kernel
theorem d_M_wantWhole_29 : decode b_M_wantWhole 29 = .ok (.aload_n 0, 1) := by decide +kernel
theorem d_M_wantWhole_30 : decode b_M_wantWhole 30 = .ok (.bipush 6, 2) := by decide +kernel
theorem d_M_wantWhole_32 : decode b_M_wantWhole 32 = .ok (.invokevirtual 58, 3) := by decide +kernel
theorem d_M_wantWhole_35 : decode b_M_wantWhole 35 = .ok (.aload_n 0, 1) := by decide +kernel
theorem d_M_wantWhole_36 : decode b_M_wantWhole 36 = .ok (.getfield 62, 3) := by decide +kernel
theorem d_M_wantWhole_39 : decode b_M_wantWhole 39 = .ok (.ifCond .le 7, 3) := by decide +kernel
theorem d_M_wantWhole_42 : decode b_M_wantWhole 42 = .ok (.lconst 0, 1) := by decide +kernel
theorem d_M_wantWhole_43 : decode b_M_wantWhole 43 = .ok (.goto 5, 3) := by decide +kernel
theorem d_M_wantWhole_46 : decode b_M_wantWhole 46 = .ok (.dload_n 2, 1) := by decide +kernel
theorem d_M_wantWhole_47 : decode b_M_wantWhole 47 = .ok (.d2l, 1) := by decide +kernel
theorem d_M_wantWhole_48 : decode b_M_wantWhole 48 = .ok (.lreturn, 1) := by decide +kernel
theorem p_M_wantWhole_b48 (d : Nat)  (s0 : Int64) (h : gk_H) : gk_P gw_J (d + 4) y_M_wantWhole b_M_wantWhole 4 (some .long) [] (f_M_wantWhole_b48  s0 h) 48 [] [.long s0] h := by
  unfold f_M_wantWhole_b48
  exact gk_lret (pc := 48) rfl d_M_wantWhole_48 rfl
theorem p_M_wantWhole_b35 (d : Nat)  (v0 : Option Nat) (v2 : UInt64) (h : gk_H) : gk_P gw_J (d + 4) y_M_wantWhole b_M_wantWhole 4 (some .long) [] (f_M_wantWhole_b35  v0 v2 h) 35 [(0, va_rf v0), (2, .double v2)] [] h := by
  unfold f_M_wantWhole_b35
  refine gk_aload_n (pc := 35) 0 d_M_wantWhole_35 rfl ?_
  refine gk_getI (pc := 36) 7 11 d_M_wantWhole_36 rfl (Nat.le_of_ble_eq_true rfl) tw_1656 fun x1 => ?_
  refine gk_if_le (pc := 39) 46 d_M_wantWhole_39 rfl (fun _ => ?_) (fun _ => ?_)
  · refine gk_dload_n (pc := 46) 1 d_M_wantWhole_46 rfl ?_
    refine gk_d2l (pc := 47) d_M_wantWhole_47 ?_
    refine gk_weak [] (L' := []) rfl ?_
    exact p_M_wantWhole_b48 d (FP.d2l v2) h
  · refine gk_lconst (pc := 42) (0 : Int64) d_M_wantWhole_42 rfl ?_
    refine gk_goto (pc := 43) 48 d_M_wantWhole_43 rfl ?_
    refine gk_weak [] (L' := []) rfl ?_
    exact p_M_wantWhole_b48 d (0 : Int64) h
theorem p_M_wantWhole_b29 (d : Nat)  (v0 : Option Nat) (v2 : UInt64) (h : gk_H) : gk_P gw_J (d + 4) y_M_wantWhole b_M_wantWhole 4 (some .long) [] (f_M_wantWhole_b29  v0 v2 h) 29 [(0, va_rf v0), (2, .double v2)] [] h := by
  unfold f_M_wantWhole_b29
  refine gk_aload_n (pc := 29) 0 d_M_wantWhole_29 rfl ?_
  refine gk_bipush (pc := 30) (6 : Int32) d_M_wantWhole_30 rfl ?_
  refine gk_callV (pc := 32) (d := (d + 3)) (w' := gv_V) (as := [.int (6 : Int32)]) (n := 1) 7 d_M_wantWhole_32 rfl rfl rfl rfl (Nat.le_of_ble_eq_true rfl) tw_1805 tw_1807 tw_21 tw_99 cw_M_fail hy_M_fail (Nat.le_of_ble_eq_true rfl) (p_M_fail (d + 3) v0 (6 : Int32) h) fun _ h1 => ?_
  exact p_M_wantWhole_b35 d v0 v2 h1
theorem w_M_wantWhole (d : Nat) (a0 : Option Nat) (a1 : Int32) (h : gk_H) : gk_P gw_J (d + 4) y_M_wantWhole b_M_wantWhole 4 (some .long) [] (f_M_wantWhole a0 a1 h) 0 [(0, va_rf a0), (1, .int a1)] [] h := by
  unfold f_M_wantWhole
  refine gk_aload_n (pc := 0) 0 d_M_wantWhole_0 rfl ?_
  refine gk_iload_n (pc := 1) 1 d_M_wantWhole_1 rfl ?_
  refine gk_callV (pc := 2) (d := (d + 3)) (w' := gv_D) (as := [.int a1]) (n := 1) 7 d_M_wantWhole_2 rfl rfl rfl rfl (Nat.le_of_ble_eq_true rfl) tw_1868 tw_1870 tw_31 tw_99 cw_M_wantNumber hy_M_wantNumber (Nat.le_of_ble_eq_true rfl) (p_M_wantNumber d a0 a1 h) fun x1 h1 => ?_
  refine gk_dstore_n (pc := 5) (L' := [(2, .double x1), (0, va_rf a0), (1, .int a1)]) d_M_wantWhole_5 (Nat.le_of_ble_eq_true rfl) rfl ?_
  refine gk_aload_n (pc := 6) 1 d_M_wantWhole_6 rfl ?_
  refine gk_getI (pc := 7) 7 11 d_M_wantWhole_7 rfl (Nat.le_of_ble_eq_true rfl) tw_1656 fun x2 => ?_
  refine gk_if_ne (pc := 10) 35 d_M_wantWhole_10 rfl (fun _ => ?_) (fun _ => ?_)
  · refine gk_dload_n (pc := 13) 0 d_M_wantWhole_13 rfl ?_
    refine gk_ldc2d (pc := 14) tw_1901 d_M_wantWhole_14 ?_
    refine gk_dcmp (pc := 17) d_M_wantWhole_17 ?_
    refine gk_if_ge (pc := 18) 29 d_M_wantWhole_18 rfl (fun _ => ?_) (fun _ => ?_)
    · refine gk_weak [1, 0] (L' := [(0, va_rf a0), (2, .double x1)]) rfl ?_
      exact p_M_wantWhole_b29 d a0 x1 h1
    · refine gk_dload_n (pc := 21) 0 d_M_wantWhole_21 rfl ?_
      refine gk_ldc2d (pc := 22) tw_1902 d_M_wantWhole_22 ?_
      refine gk_dcmp (pc := 25) d_M_wantWhole_25 ?_
      refine gk_if_gt (pc := 26) 35 d_M_wantWhole_26 rfl (fun _ => ?_) (fun _ => ?_)
      · refine gk_weak [1, 0] (L' := [(0, va_rf a0), (2, .double x1)]) rfl ?_
        exact p_M_wantWhole_b35 d a0 x1 h1
      · refine gk_weak [1, 0] (L' := [(0, va_rf a0), (2, .double x1)]) rfl ?_
        exact p_M_wantWhole_b29 d a0 x1 h1
  · refine gk_weak [1, 0] (L' := [(0, va_rf a0), (2, .double x1)]) rfl ?_
    exact p_M_wantWhole_b35 d a0 x1 h1
theorem p_M_wantWhole (d : Nat) (a0 : Option Nat) (a1 : Int32) (h : gk_H) : ∀ r h1, f_M_wantWhole a0 a1 h = some (r, h1) → gk_M (d + 4) y_M_wantWhole b_M_wantWhole 4 (some .long) [va_rf a0, .int a1] h (.inl (gv_J r)) h1 :=
  fun r h1 e => gk_M_of2 (by decide +kernel) (by simp [lv_args, gk_cat_rf, gk_catI, gk_catJ, gk_catD, gv_V, gv_I, gv_J, gv_D, gv_R]) (by simp [lg_sl, gk_cat_rf, gk_catI, gk_catJ, gk_catD, gv_V, gv_I, gv_J, gv_D, gv_R]) (w_M_wantWhole d a0 a1 h r h1 e)
